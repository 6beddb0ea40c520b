section
-- ===== PART A: goes FIRST, ahead of the names: the tables' words, and 'selects' of the private methods out of them =====
/-- a private method of a class that the tables say can be made, by its rows of tables_1 -/
def lw_okq (q : MethodName × Nat) : Prop := (q.1.cls ≠ "java/lang/invoke/MethodHandle" ∧ q.1.cls ≠ "java/lang/invoke/VarHandle") ∧ Cond.instantiable q.1.cls q.2 ∈ tables_1 ∧ Cond.privateMethod q.1 ∈ tables_1 ∧ Cond.instanceMethod q.1 ∈ tables_1
theorem lw_p0 : lw_okq (⟨"TurntableHouse", "changeLength", "(II)I"⟩, 5) := ⟨⟨by decide +kernel, by decide +kernel⟩, List.mem_of_getElem? (i := 12) (by decide +kernel), List.mem_of_getElem? (i := 94) (by decide +kernel), List.mem_of_getElem? (i := 95) (by decide +kernel)⟩
theorem lw_p1 : lw_okq (⟨"TurntableHouse", "houseChanges", "()V"⟩, 5) := ⟨⟨by decide +kernel, by decide +kernel⟩, List.mem_of_getElem? (i := 12) (by decide +kernel), List.mem_of_getElem? (i := 106) (by decide +kernel), List.mem_of_getElem? (i := 107) (by decide +kernel)⟩
theorem lw_p2 : lw_okq (⟨"TurntableHouse", "placeError", "(I)I"⟩, 5) := ⟨⟨by decide +kernel, by decide +kernel⟩, List.mem_of_getElem? (i := 12) (by decide +kernel), List.mem_of_getElem? (i := 206) (by decide +kernel), List.mem_of_getElem? (i := 207) (by decide +kernel)⟩
theorem lw_p3 : lw_okq (⟨"TurntableHouse", "moveIfPossible", "(II)I"⟩, 5) := ⟨⟨by decide +kernel, by decide +kernel⟩, List.mem_of_getElem? (i := 12) (by decide +kernel), List.mem_of_getElem? (i := 267) (by decide +kernel), List.mem_of_getElem? (i := 268) (by decide +kernel)⟩
theorem lw_p4 : lw_okq (⟨"TurntableHouse", "planError", "(II)I"⟩, 5) := ⟨⟨by decide +kernel, by decide +kernel⟩, List.mem_of_getElem? (i := 12) (by decide +kernel), List.mem_of_getElem? (i := 311) (by decide +kernel), List.mem_of_getElem? (i := 312) (by decide +kernel)⟩
theorem lw_p5 : lw_okq (⟨"TurntableHouse", "readyPlanner", "()LTurntableHouse$Planner;"⟩, 5) := ⟨⟨by decide +kernel, by decide +kernel⟩, List.mem_of_getElem? (i := 12) (by decide +kernel), List.mem_of_getElem? (i := 319) (by decide +kernel), List.mem_of_getElem? (i := 320) (by decide +kernel)⟩
theorem lw_p6 : lw_okq (⟨"TurntableHouse$Planner", "listPlaces", "()V"⟩, 13) := ⟨⟨by decide +kernel, by decide +kernel⟩, List.mem_of_getElem? (i := 323) (by decide +kernel), List.mem_of_getElem? (i := 398) (by decide +kernel), List.mem_of_getElem? (i := 399) (by decide +kernel)⟩
theorem lw_p7 : lw_okq (⟨"TurntableHouse$Planner", "waysToPut", "(I)I"⟩, 13) := ⟨⟨by decide +kernel, by decide +kernel⟩, List.mem_of_getElem? (i := 323) (by decide +kernel), List.mem_of_getElem? (i := 403) (by decide +kernel), List.mem_of_getElem? (i := 404) (by decide +kernel)⟩
theorem lw_p8 : lw_okq (⟨"TurntableHouse$Planner", "addGoals", "()V"⟩, 13) := ⟨⟨by decide +kernel, by decide +kernel⟩, List.mem_of_getElem? (i := 323) (by decide +kernel), List.mem_of_getElem? (i := 418) (by decide +kernel), List.mem_of_getElem? (i := 419) (by decide +kernel)⟩
theorem lw_p9 : lw_okq (⟨"TurntableHouse$Planner", "showRows", "(I)V"⟩, 13) := ⟨⟨by decide +kernel, by decide +kernel⟩, List.mem_of_getElem? (i := 323) (by decide +kernel), List.mem_of_getElem? (i := 422) (by decide +kernel), List.mem_of_getElem? (i := 423) (by decide +kernel)⟩
theorem lw_p10 : lw_okq (⟨"TurntableHouse$Planner", "putIntoLine", "(II)V"⟩, 13) := ⟨⟨by decide +kernel, by decide +kernel⟩, List.mem_of_getElem? (i := 323) (by decide +kernel), List.mem_of_getElem? (i := 431) (by decide +kernel), List.mem_of_getElem? (i := 432) (by decide +kernel)⟩
theorem lw_p11 : lw_okq (⟨"TurntableHouse$Planner", "improve", "(IILTurntableHouse$StateQueue;)V"⟩, 13) := ⟨⟨by decide +kernel, by decide +kernel⟩, List.mem_of_getElem? (i := 323) (by decide +kernel), List.mem_of_getElem? (i := 442) (by decide +kernel), List.mem_of_getElem? (i := 443) (by decide +kernel)⟩
theorem lw_p12 : lw_okq (⟨"TurntableHouse$Planner", "stateOf", "(LTurntableHouse$Yard;)I"⟩, 13) := ⟨⟨by decide +kernel, by decide +kernel⟩, List.mem_of_getElem? (i := 323) (by decide +kernel), List.mem_of_getElem? (i := 454) (by decide +kernel), List.mem_of_getElem? (i := 455) (by decide +kernel)⟩
theorem lw_p13 : lw_okq (⟨"TurntableHouse$Planner", "nearerQueue", "()LTurntableHouse$StateQueue;"⟩, 13) := ⟨⟨by decide +kernel, by decide +kernel⟩, List.mem_of_getElem? (i := 323) (by decide +kernel), List.mem_of_getElem? (i := 467) (by decide +kernel), List.mem_of_getElem? (i := 468) (by decide +kernel)⟩
theorem lw_p14 : lw_okq (⟨"TurntableHouse$Planner", "costOf", "(I)I"⟩, 13) := ⟨⟨by decide +kernel, by decide +kernel⟩, List.mem_of_getElem? (i := 323) (by decide +kernel), List.mem_of_getElem? (i := 475) (by decide +kernel), List.mem_of_getElem? (i := 476) (by decide +kernel)⟩
theorem lw_p15 : lw_okq (⟨"TurntableHouse$Planner", "listNeighbours", "(I)V"⟩, 13) := ⟨⟨by decide +kernel, by decide +kernel⟩, List.mem_of_getElem? (i := 323) (by decide +kernel), List.mem_of_getElem? (i := 484) (by decide +kernel), List.mem_of_getElem? (i := 485) (by decide +kernel)⟩
def lw_privs_1 : List (MethodName × Nat) := [(⟨"TurntableHouse", "changeLength", "(II)I"⟩, 5), (⟨"TurntableHouse", "houseChanges", "()V"⟩, 5), (⟨"TurntableHouse", "placeError", "(I)I"⟩, 5), (⟨"TurntableHouse", "moveIfPossible", "(II)I"⟩, 5), (⟨"TurntableHouse", "planError", "(II)I"⟩, 5), (⟨"TurntableHouse", "readyPlanner", "()LTurntableHouse$Planner;"⟩, 5), (⟨"TurntableHouse$Planner", "listPlaces", "()V"⟩, 13), (⟨"TurntableHouse$Planner", "waysToPut", "(I)I"⟩, 13), (⟨"TurntableHouse$Planner", "addGoals", "()V"⟩, 13), (⟨"TurntableHouse$Planner", "showRows", "(I)V"⟩, 13), (⟨"TurntableHouse$Planner", "putIntoLine", "(II)V"⟩, 13), (⟨"TurntableHouse$Planner", "improve", "(IILTurntableHouse$StateQueue;)V"⟩, 13), (⟨"TurntableHouse$Planner", "stateOf", "(LTurntableHouse$Yard;)I"⟩, 13), (⟨"TurntableHouse$Planner", "nearerQueue", "()LTurntableHouse$StateQueue;"⟩, 13), (⟨"TurntableHouse$Planner", "costOf", "(I)I"⟩, 13), (⟨"TurntableHouse$Planner", "listNeighbours", "(I)V"⟩, 13)]
theorem lw_r1 : ∀ q ∈ lw_privs_1, lw_okq q := List.forall_mem_cons.mpr ⟨lw_p0, List.forall_mem_cons.mpr ⟨lw_p1, List.forall_mem_cons.mpr ⟨lw_p2, List.forall_mem_cons.mpr ⟨lw_p3, List.forall_mem_cons.mpr ⟨lw_p4, List.forall_mem_cons.mpr ⟨lw_p5, List.forall_mem_cons.mpr ⟨lw_p6, List.forall_mem_cons.mpr ⟨lw_p7, List.forall_mem_cons.mpr ⟨lw_p8, List.forall_mem_cons.mpr ⟨lw_p9, List.forall_mem_cons.mpr ⟨lw_p10, List.forall_mem_cons.mpr ⟨lw_p11, List.forall_mem_cons.mpr ⟨lw_p12, List.forall_mem_cons.mpr ⟨lw_p13, List.forall_mem_cons.mpr ⟨lw_p14, List.forall_mem_cons.mpr ⟨lw_p15, fun _ h => absurd h List.not_mem_nil⟩⟩⟩⟩⟩⟩⟩⟩⟩⟩⟩⟩⟩⟩⟩⟩
theorem lw_p16 : lw_okq (⟨"TurntableHouse$Planner", "addNeighbour", "(II)V"⟩, 13) := ⟨⟨by decide +kernel, by decide +kernel⟩, List.mem_of_getElem? (i := 323) (by decide +kernel), List.mem_of_getElem? (i := 491) (by decide +kernel), List.mem_of_getElem? (i := 492) (by decide +kernel)⟩
theorem lw_p17 : lw_okq (⟨"TurntableHouse$Planner", "addMovements", "(I)V"⟩, 13) := ⟨⟨by decide +kernel, by decide +kernel⟩, List.mem_of_getElem? (i := 323) (by decide +kernel), List.mem_of_getElem? (i := 496) (by decide +kernel), List.mem_of_getElem? (i := 497) (by decide +kernel)⟩
theorem lw_p18 : lw_okq (⟨"TurntableHouse$Planner", "improveNeighbours", "(I)V"⟩, 13) := ⟨⟨by decide +kernel, by decide +kernel⟩, List.mem_of_getElem? (i := 323) (by decide +kernel), List.mem_of_getElem? (i := 504) (by decide +kernel), List.mem_of_getElem? (i := 505) (by decide +kernel)⟩
theorem lw_p19 : lw_okq (⟨"TurntableHouse$Planner", "firstOnBestPlan", "(I)I"⟩, 13) := ⟨⟨by decide +kernel, by decide +kernel⟩, List.mem_of_getElem? (i := 323) (by decide +kernel), List.mem_of_getElem? (i := 520) (by decide +kernel), List.mem_of_getElem? (i := 521) (by decide +kernel)⟩
theorem lw_p20 : lw_okq (⟨"TurntableHouseModel", "used", "(I)I"⟩, 32) := ⟨⟨by decide +kernel, by decide +kernel⟩, List.mem_of_getElem? (i := 536) (by decide +kernel), List.mem_of_getElem? (i := 650) (by decide +kernel), List.mem_of_getElem? (i := 651) (by decide +kernel)⟩
theorem lw_p21 : lw_okq (⟨"TurntableHouseModel", "cell", "(II)I"⟩, 32) := ⟨⟨by decide +kernel, by decide +kernel⟩, List.mem_of_getElem? (i := 536) (by decide +kernel), List.mem_of_getElem? (i := 654) (by decide +kernel), List.mem_of_getElem? (i := 655) (by decide +kernel)⟩
theorem lw_p22 : lw_okq (⟨"TurntableHouseModel", "change", "()V"⟩, 32) := ⟨⟨by decide +kernel, by decide +kernel⟩, List.mem_of_getElem? (i := 536) (by decide +kernel), List.mem_of_getElem? (i := 658) (by decide +kernel), List.mem_of_getElem? (i := 659) (by decide +kernel)⟩
theorem lw_p23 : lw_okq (⟨"TurntableHouseModel", "isTrack", "(I)Z"⟩, 32) := ⟨⟨by decide +kernel, by decide +kernel⟩, List.mem_of_getElem? (i := 536) (by decide +kernel), List.mem_of_getElem? (i := 670) (by decide +kernel), List.mem_of_getElem? (i := 671) (by decide +kernel)⟩
theorem lw_p24 : lw_okq (⟨"TurntableHouseModel", "insert", "(III)V"⟩, 32) := ⟨⟨by decide +kernel, by decide +kernel⟩, List.mem_of_getElem? (i := 536) (by decide +kernel), List.mem_of_getElem? (i := 674) (by decide +kernel), List.mem_of_getElem? (i := 675) (by decide +kernel)⟩
theorem lw_p25 : lw_okq (⟨"TurntableHouseModel", "placeOf", "(I)I"⟩, 32) := ⟨⟨by decide +kernel, by decide +kernel⟩, List.mem_of_getElem? (i := 536) (by decide +kernel), List.mem_of_getElem? (i := 682) (by decide +kernel), List.mem_of_getElem? (i := 683) (by decide +kernel)⟩
theorem lw_p26 : lw_okq (⟨"TurntableHouseModel", "take", "(II)I"⟩, 32) := ⟨⟨by decide +kernel, by decide +kernel⟩, List.mem_of_getElem? (i := 536) (by decide +kernel), List.mem_of_getElem? (i := 686) (by decide +kernel), List.mem_of_getElem? (i := 687) (by decide +kernel)⟩
theorem lw_p27 : lw_okq (⟨"TurntableHouseModel", "isLocomotive", "(I)Z"⟩, 32) := ⟨⟨by decide +kernel, by decide +kernel⟩, List.mem_of_getElem? (i := 536) (by decide +kernel), List.mem_of_getElem? (i := 694) (by decide +kernel), List.mem_of_getElem? (i := 695) (by decide +kernel)⟩
theorem lw_p28 : lw_okq (⟨"TurntableHouseModel", "pointed", "(I)I"⟩, 32) := ⟨⟨by decide +kernel, by decide +kernel⟩, List.mem_of_getElem? (i := 536) (by decide +kernel), List.mem_of_getElem? (i := 725) (by decide +kernel), List.mem_of_getElem? (i := 726) (by decide +kernel)⟩
theorem lw_p29 : lw_okq (⟨"TurntableHouseModel", "turnBy", "(I)V"⟩, 32) := ⟨⟨by decide +kernel, by decide +kernel⟩, List.mem_of_getElem? (i := 536) (by decide +kernel), List.mem_of_getElem? (i := 733) (by decide +kernel), List.mem_of_getElem? (i := 734) (by decide +kernel)⟩
theorem lw_p30 : lw_okq (⟨"TurntableHouseModel", "write", "(I)V"⟩, 32) := ⟨⟨by decide +kernel, by decide +kernel⟩, List.mem_of_getElem? (i := 536) (by decide +kernel), List.mem_of_getElem? (i := 737) (by decide +kernel), List.mem_of_getElem? (i := 738) (by decide +kernel)⟩
theorem lw_p31 : lw_okq (⟨"TurntableHouseModel", "wrongMove", "(IIII)I"⟩, 32) := ⟨⟨by decide +kernel, by decide +kernel⟩, List.mem_of_getElem? (i := 536) (by decide +kernel), List.mem_of_getElem? (i := 745) (by decide +kernel), List.mem_of_getElem? (i := 746) (by decide +kernel)⟩
def lw_privs_2 : List (MethodName × Nat) := [(⟨"TurntableHouse$Planner", "addNeighbour", "(II)V"⟩, 13), (⟨"TurntableHouse$Planner", "addMovements", "(I)V"⟩, 13), (⟨"TurntableHouse$Planner", "improveNeighbours", "(I)V"⟩, 13), (⟨"TurntableHouse$Planner", "firstOnBestPlan", "(I)I"⟩, 13), (⟨"TurntableHouseModel", "used", "(I)I"⟩, 32), (⟨"TurntableHouseModel", "cell", "(II)I"⟩, 32), (⟨"TurntableHouseModel", "change", "()V"⟩, 32), (⟨"TurntableHouseModel", "isTrack", "(I)Z"⟩, 32), (⟨"TurntableHouseModel", "insert", "(III)V"⟩, 32), (⟨"TurntableHouseModel", "placeOf", "(I)I"⟩, 32), (⟨"TurntableHouseModel", "take", "(II)I"⟩, 32), (⟨"TurntableHouseModel", "isLocomotive", "(I)Z"⟩, 32), (⟨"TurntableHouseModel", "pointed", "(I)I"⟩, 32), (⟨"TurntableHouseModel", "turnBy", "(I)V"⟩, 32), (⟨"TurntableHouseModel", "write", "(I)V"⟩, 32), (⟨"TurntableHouseModel", "wrongMove", "(IIII)I"⟩, 32)]
theorem lw_r2 : ∀ q ∈ lw_privs_2, lw_okq q := List.forall_mem_cons.mpr ⟨lw_p16, List.forall_mem_cons.mpr ⟨lw_p17, List.forall_mem_cons.mpr ⟨lw_p18, List.forall_mem_cons.mpr ⟨lw_p19, List.forall_mem_cons.mpr ⟨lw_p20, List.forall_mem_cons.mpr ⟨lw_p21, List.forall_mem_cons.mpr ⟨lw_p22, List.forall_mem_cons.mpr ⟨lw_p23, List.forall_mem_cons.mpr ⟨lw_p24, List.forall_mem_cons.mpr ⟨lw_p25, List.forall_mem_cons.mpr ⟨lw_p26, List.forall_mem_cons.mpr ⟨lw_p27, List.forall_mem_cons.mpr ⟨lw_p28, List.forall_mem_cons.mpr ⟨lw_p29, List.forall_mem_cons.mpr ⟨lw_p30, List.forall_mem_cons.mpr ⟨lw_p31, fun _ h => absurd h List.not_mem_nil⟩⟩⟩⟩⟩⟩⟩⟩⟩⟩⟩⟩⟩⟩⟩⟩
theorem lw_p32 : lw_okq (⟨"TurntableHouseModel", "goIn", "(II)V"⟩, 32) := ⟨⟨by decide +kernel, by decide +kernel⟩, List.mem_of_getElem? (i := 536) (by decide +kernel), List.mem_of_getElem? (i := 749) (by decide +kernel), List.mem_of_getElem? (i := 750) (by decide +kernel)⟩
theorem lw_p33 : lw_okq (⟨"TurntableHouseModel", "goOut", "(II)V"⟩, 32) := ⟨⟨by decide +kernel, by decide +kernel⟩, List.mem_of_getElem? (i := 536) (by decide +kernel), List.mem_of_getElem? (i := 757) (by decide +kernel), List.mem_of_getElem? (i := 758) (by decide +kernel)⟩
theorem lw_p34 : lw_okq (⟨"TurntableHouseModel", "wrongPlan", "(II)I"⟩, 32) := ⟨⟨by decide +kernel, by decide +kernel⟩, List.mem_of_getElem? (i := 536) (by decide +kernel), List.mem_of_getElem? (i := 777) (by decide +kernel), List.mem_of_getElem? (i := 778) (by decide +kernel)⟩
theorem lw_p35 : lw_okq (⟨"TurntableHouseModel", "layRows", "()V"⟩, 32) := ⟨⟨by decide +kernel, by decide +kernel⟩, List.mem_of_getElem? (i := 536) (by decide +kernel), List.mem_of_getElem? (i := 781) (by decide +kernel), List.mem_of_getElem? (i := 782) (by decide +kernel)⟩
theorem lw_p36 : lw_okq (⟨"TurntableHouseModel", "layAll", "(II)V"⟩, 32) := ⟨⟨by decide +kernel, by decide +kernel⟩, List.mem_of_getElem? (i := 536) (by decide +kernel), List.mem_of_getElem? (i := 785) (by decide +kernel), List.mem_of_getElem? (i := 786) (by decide +kernel)⟩
theorem lw_p37 : lw_okq (⟨"TurntableHouseModel", "layOrders", "(I)V"⟩, 32) := ⟨⟨by decide +kernel, by decide +kernel⟩, List.mem_of_getElem? (i := 536) (by decide +kernel), List.mem_of_getElem? (i := 789) (by decide +kernel), List.mem_of_getElem? (i := 790) (by decide +kernel)⟩
theorem lw_p38 : lw_okq (⟨"TurntableHouseModel", "layWays", "(I)V"⟩, 32) := ⟨⟨by decide +kernel, by decide +kernel⟩, List.mem_of_getElem? (i := 536) (by decide +kernel), List.mem_of_getElem? (i := 793) (by decide +kernel), List.mem_of_getElem? (i := 794) (by decide +kernel)⟩
theorem lw_p39 : lw_okq (⟨"TurntableHouseModel", "layGoals", "(II)V"⟩, 32) := ⟨⟨by decide +kernel, by decide +kernel⟩, List.mem_of_getElem? (i := 536) (by decide +kernel), List.mem_of_getElem? (i := 797) (by decide +kernel), List.mem_of_getElem? (i := 798) (by decide +kernel)⟩
theorem lw_p40 : lw_okq (⟨"TurntableHouseModel", "layOut", "(I)V"⟩, 32) := ⟨⟨by decide +kernel, by decide +kernel⟩, List.mem_of_getElem? (i := 536) (by decide +kernel), List.mem_of_getElem? (i := 801) (by decide +kernel), List.mem_of_getElem? (i := 802) (by decide +kernel)⟩
theorem lw_p41 : lw_okq (⟨"TurntableHouseModel", "canBe", "()Z"⟩, 32) := ⟨⟨by decide +kernel, by decide +kernel⟩, List.mem_of_getElem? (i := 536) (by decide +kernel), List.mem_of_getElem? (i := 805) (by decide +kernel), List.mem_of_getElem? (i := 806) (by decide +kernel)⟩
theorem lw_p42 : lw_okq (⟨"TurntableHouseModel", "sum", "(III)I"⟩, 32) := ⟨⟨by decide +kernel, by decide +kernel⟩, List.mem_of_getElem? (i := 536) (by decide +kernel), List.mem_of_getElem? (i := 809) (by decide +kernel), List.mem_of_getElem? (i := 810) (by decide +kernel)⟩
theorem lw_p43 : lw_okq (⟨"TurntableHouseModel", "isGoal", "(II)Z"⟩, 32) := ⟨⟨by decide +kernel, by decide +kernel⟩, List.mem_of_getElem? (i := 536) (by decide +kernel), List.mem_of_getElem? (i := 813) (by decide +kernel), List.mem_of_getElem? (i := 814) (by decide +kernel)⟩
theorem lw_p44 : lw_okq (⟨"TurntableHouseModel", "addTurned", "(III)V"⟩, 32) := ⟨⟨by decide +kernel, by decide +kernel⟩, List.mem_of_getElem? (i := 536) (by decide +kernel), List.mem_of_getElem? (i := 817) (by decide +kernel), List.mem_of_getElem? (i := 818) (by decide +kernel)⟩
theorem lw_p45 : lw_okq (⟨"TurntableHouseModel", "finishLevel", "(I)V"⟩, 32) := ⟨⟨by decide +kernel, by decide +kernel⟩, List.mem_of_getElem? (i := 536) (by decide +kernel), List.mem_of_getElem? (i := 821) (by decide +kernel), List.mem_of_getElem? (i := 822) (by decide +kernel)⟩
theorem lw_p46 : lw_okq (⟨"TurntableHouseModel", "finishOne", "(III)V"⟩, 32) := ⟨⟨by decide +kernel, by decide +kernel⟩, List.mem_of_getElem? (i := 536) (by decide +kernel), List.mem_of_getElem? (i := 825) (by decide +kernel), List.mem_of_getElem? (i := 826) (by decide +kernel)⟩
theorem lw_p47 : lw_okq (⟨"TurntableHouseModel", "behind", "(II)I"⟩, 32) := ⟨⟨by decide +kernel, by decide +kernel⟩, List.mem_of_getElem? (i := 536) (by decide +kernel), List.mem_of_getElem? (i := 829) (by decide +kernel), List.mem_of_getElem? (i := 830) (by decide +kernel)⟩
def lw_privs_3 : List (MethodName × Nat) := [(⟨"TurntableHouseModel", "goIn", "(II)V"⟩, 32), (⟨"TurntableHouseModel", "goOut", "(II)V"⟩, 32), (⟨"TurntableHouseModel", "wrongPlan", "(II)I"⟩, 32), (⟨"TurntableHouseModel", "layRows", "()V"⟩, 32), (⟨"TurntableHouseModel", "layAll", "(II)V"⟩, 32), (⟨"TurntableHouseModel", "layOrders", "(I)V"⟩, 32), (⟨"TurntableHouseModel", "layWays", "(I)V"⟩, 32), (⟨"TurntableHouseModel", "layGoals", "(II)V"⟩, 32), (⟨"TurntableHouseModel", "layOut", "(I)V"⟩, 32), (⟨"TurntableHouseModel", "canBe", "()Z"⟩, 32), (⟨"TurntableHouseModel", "sum", "(III)I"⟩, 32), (⟨"TurntableHouseModel", "isGoal", "(II)Z"⟩, 32), (⟨"TurntableHouseModel", "addTurned", "(III)V"⟩, 32), (⟨"TurntableHouseModel", "finishLevel", "(I)V"⟩, 32), (⟨"TurntableHouseModel", "finishOne", "(III)V"⟩, 32), (⟨"TurntableHouseModel", "behind", "(II)I"⟩, 32)]
theorem lw_r3 : ∀ q ∈ lw_privs_3, lw_okq q := List.forall_mem_cons.mpr ⟨lw_p32, List.forall_mem_cons.mpr ⟨lw_p33, List.forall_mem_cons.mpr ⟨lw_p34, List.forall_mem_cons.mpr ⟨lw_p35, List.forall_mem_cons.mpr ⟨lw_p36, List.forall_mem_cons.mpr ⟨lw_p37, List.forall_mem_cons.mpr ⟨lw_p38, List.forall_mem_cons.mpr ⟨lw_p39, List.forall_mem_cons.mpr ⟨lw_p40, List.forall_mem_cons.mpr ⟨lw_p41, List.forall_mem_cons.mpr ⟨lw_p42, List.forall_mem_cons.mpr ⟨lw_p43, List.forall_mem_cons.mpr ⟨lw_p44, List.forall_mem_cons.mpr ⟨lw_p45, List.forall_mem_cons.mpr ⟨lw_p46, List.forall_mem_cons.mpr ⟨lw_p47, fun _ h => absurd h List.not_mem_nil⟩⟩⟩⟩⟩⟩⟩⟩⟩⟩⟩⟩⟩⟩⟩⟩
theorem lw_p48 : lw_okq (⟨"TurntableHouseModel", "takeHere", "(II)I"⟩, 32) := ⟨⟨by decide +kernel, by decide +kernel⟩, List.mem_of_getElem? (i := 536) (by decide +kernel), List.mem_of_getElem? (i := 833) (by decide +kernel), List.mem_of_getElem? (i := 834) (by decide +kernel)⟩
theorem lw_p49 : lw_okq (⟨"TurntableHouseModel", "insertHere", "(III)V"⟩, 32) := ⟨⟨by decide +kernel, by decide +kernel⟩, List.mem_of_getElem? (i := 536) (by decide +kernel), List.mem_of_getElem? (i := 837) (by decide +kernel), List.mem_of_getElem? (i := 838) (by decide +kernel)⟩
theorem lw_p50 : lw_okq (⟨"TurntableHouseModel", "numberOf", "()I"⟩, 32) := ⟨⟨by decide +kernel, by decide +kernel⟩, List.mem_of_getElem? (i := 536) (by decide +kernel), List.mem_of_getElem? (i := 841) (by decide +kernel), List.mem_of_getElem? (i := 842) (by decide +kernel)⟩
theorem lw_p51 : lw_okq (⟨"TurntableHouseModel", "addMoved", "(III)V"⟩, 32) := ⟨⟨by decide +kernel, by decide +kernel⟩, List.mem_of_getElem? (i := 536) (by decide +kernel), List.mem_of_getElem? (i := 845) (by decide +kernel), List.mem_of_getElem? (i := 846) (by decide +kernel)⟩
theorem lw_p52 : lw_okq (⟨"TurntableHouseModel", "situationNow", "()I"⟩, 32) := ⟨⟨by decide +kernel, by decide +kernel⟩, List.mem_of_getElem? (i := 536) (by decide +kernel), List.mem_of_getElem? (i := 849) (by decide +kernel), List.mem_of_getElem? (i := 850) (by decide +kernel)⟩
theorem lw_p53 : lw_okq (⟨"TurntableHouseModel", "bestAction", "(I)I"⟩, 32) := ⟨⟨by decide +kernel, by decide +kernel⟩, List.mem_of_getElem? (i := 536) (by decide +kernel), List.mem_of_getElem? (i := 857) (by decide +kernel), List.mem_of_getElem? (i := 858) (by decide +kernel)⟩
def lw_privs_4 : List (MethodName × Nat) := [(⟨"TurntableHouseModel", "takeHere", "(II)I"⟩, 32), (⟨"TurntableHouseModel", "insertHere", "(III)V"⟩, 32), (⟨"TurntableHouseModel", "numberOf", "()I"⟩, 32), (⟨"TurntableHouseModel", "addMoved", "(III)V"⟩, 32), (⟨"TurntableHouseModel", "situationNow", "()I"⟩, 32), (⟨"TurntableHouseModel", "bestAction", "(I)I"⟩, 32)]
theorem lw_r4 : ∀ q ∈ lw_privs_4, lw_okq q := List.forall_mem_cons.mpr ⟨lw_p48, List.forall_mem_cons.mpr ⟨lw_p49, List.forall_mem_cons.mpr ⟨lw_p50, List.forall_mem_cons.mpr ⟨lw_p51, List.forall_mem_cons.mpr ⟨lw_p52, List.forall_mem_cons.mpr ⟨lw_p53, fun _ h => absurd h List.not_mem_nil⟩⟩⟩⟩⟩⟩
def lw_privs : List (MethodName × Nat) := lw_privs_1 ++ (lw_privs_2 ++ (lw_privs_3 ++ (lw_privs_4)))
def lw_tbl : List Cond := k2_sels lw_privs ++ tables_1
theorem lw_privs_ok : ∀ q ∈ lw_privs, lw_okq q := by
  show ∀ q ∈ lw_privs_1 ++ (lw_privs_2 ++ (lw_privs_3 ++ (lw_privs_4))), lw_okq q
  exact List.forall_mem_append.mpr ⟨lw_r1, List.forall_mem_append.mpr ⟨lw_r2, List.forall_mem_append.mpr ⟨lw_r3, lw_r4⟩⟩⟩

def RX0 : String := "TurntableHouse$ActionLog"
def TX0 : u_T := fun k => match k with
  | 0 => ("TurntableHouse$ActionLog", "codes", "[I", true)
  | _ => ("TurntableHouse$ActionLog", "count", "I", false)
def tyX0 : Nat → FieldType := fun k => match k with
  | 0 => .array .int
  | _ => .int
abbrev wsX00 : List Cond := u_ws RX0 TX0 2
theorem nmX0 : ∀ a, a < 2 → ∀ b, b < 2 → a ≠ b → (TX0 a).2.1 ≠ (TX0 b).2.1 := by decide +kernel
theorem tyX0_ok : ∀ k, k < 2 → parseFieldDescriptor (TX0 k).2.2.1 = some (tyX0 k) := by decide +kernel
abbrev cX0_init : ByteArray := prog_2_method_1_code
def yX0_init : MethodName := ⟨RX0, "<init>", "()V"⟩
abbrev cX0_append : ByteArray := prog_2_method_2_code
def yX0_append : MethodName := ⟨RX0, "append", "(I)V"⟩
abbrev cX0_forgetAll : ByteArray := prog_2_method_3_code
def yX0_forgetAll : MethodName := ⟨RX0, "forgetAll", "()V"⟩
abbrev cX0_latest : ByteArray := prog_2_method_4_code
def yX0_latest : MethodName := ⟨RX0, "latest", "(I)I"⟩
abbrev cX0_removeLatest : ByteArray := prog_2_method_5_code
def yX0_removeLatest : MethodName := ⟨RX0, "removeLatest", "()I"⟩
def RX1 : String := "TurntableHouse$Planner"
def TX1 : u_T := fun k => match k with
  | 0 => ("TurntableHouse$Planner", "view", "LTurntableHouse$Yard;", true)
  | 1 => ("TurntableHouse$Planner", "places", "[I", true)
  | 2 => ("TurntableHouse$Planner", "lineSlots", "[I", true)
  | 3 => ("TurntableHouse$Planner", "codes", "[I", true)
  | 4 => ("TurntableHouse$Planner", "neighbours", "[I", true)
  | 5 => ("TurntableHouse$Planner", "costs", "[I", true)
  | 6 => ("TurntableHouse$Planner", "afterTurns", "LTurntableHouse$StateQueue;", true)
  | 7 => ("TurntableHouse$Planner", "afterMovements", "LTurntableHouse$StateQueue;", true)
  | 8 => ("TurntableHouse$Planner", "placeCount", "I", false)
  | 9 => ("TurntableHouse$Planner", "stateCount", "I", false)
  | 10 => ("TurntableHouse$Planner", "found", "I", false)
  | 11 => ("TurntableHouse$Planner", "goalLocomotive", "I", false)
  | _ => ("TurntableHouse$Planner", "goalPosition", "I", false)
def tyX1 : Nat → FieldType := fun k => match k with
  | 0 => .object "TurntableHouse$Yard"
  | 1 => .array .int
  | 2 => .array .int
  | 3 => .array .int
  | 4 => .array .int
  | 5 => .array .int
  | 6 => .object "TurntableHouse$StateQueue"
  | 7 => .object "TurntableHouse$StateQueue"
  | 8 => .int
  | 9 => .int
  | 10 => .int
  | 11 => .int
  | _ => .int
abbrev wsX10 : List Cond := u_ws RX1 TX1 13
theorem nmX1 : ∀ a, a < 13 → ∀ b, b < 13 → a ≠ b → (TX1 a).2.1 ≠ (TX1 b).2.1 := by decide +kernel
theorem tyX1_ok : ∀ k, k < 13 → parseFieldDescriptor (TX1 k).2.2.1 = some (tyX1 k) := by decide +kernel
abbrev cX1_init : ByteArray := prog_3_method_1_code
def yX1_init : MethodName := ⟨RX1, "<init>", "()V"⟩
abbrev cX1_forgetGoal : ByteArray := prog_3_method_2_code
def yX1_forgetGoal : MethodName := ⟨RX1, "forgetGoal", "()V"⟩
abbrev cX1_aimAt : ByteArray := prog_3_method_3_code
def yX1_aimAt : MethodName := ⟨RX1, "aimAt", "(LTurntableHouse$Yard;II)V"⟩
abbrev cX1_bestCost : ByteArray := prog_3_method_4_code
def yX1_bestCost : MethodName := ⟨RX1, "bestCost", "(LTurntableHouse$Yard;)I"⟩
abbrev cX1_actionAt : ByteArray := prog_3_method_5_code
def yX1_actionAt : MethodName := ⟨RX1, "actionAt", "(LTurntableHouse$Yard;I)I"⟩
abbrev cX1_listPlaces : ByteArray := prog_3_method_6_code
def yX1_listPlaces : MethodName := ⟨RX1, "listPlaces", "()V"⟩
abbrev cX1_waysToPut : ByteArray := prog_3_method_7_code
def yX1_waysToPut : MethodName := ⟨RX1, "waysToPut", "(I)I"⟩
abbrev cX1_addGoals : ByteArray := prog_3_method_8_code
def yX1_addGoals : MethodName := ⟨RX1, "addGoals", "()V"⟩
abbrev cX1_showRows : ByteArray := prog_3_method_9_code
def yX1_showRows : MethodName := ⟨RX1, "showRows", "(I)V"⟩
abbrev cX1_putIntoLine : ByteArray := prog_3_method_10_code
def yX1_putIntoLine : MethodName := ⟨RX1, "putIntoLine", "(II)V"⟩
abbrev cX1_stateOf : ByteArray := prog_3_method_11_code
def yX1_stateOf : MethodName := ⟨RX1, "stateOf", "(LTurntableHouse$Yard;)I"⟩
abbrev cX1_listNeighbours : ByteArray := prog_3_method_12_code
def yX1_listNeighbours : MethodName := ⟨RX1, "listNeighbours", "(I)V"⟩
abbrev cX1_addMovements : ByteArray := prog_3_method_13_code
def yX1_addMovements : MethodName := ⟨RX1, "addMovements", "(I)V"⟩
abbrev cX1_addNeighbour : ByteArray := prog_3_method_14_code
def yX1_addNeighbour : MethodName := ⟨RX1, "addNeighbour", "(II)V"⟩
abbrev cX1_improveNeighbours : ByteArray := prog_3_method_15_code
def yX1_improveNeighbours : MethodName := ⟨RX1, "improveNeighbours", "(I)V"⟩
abbrev cX1_improve : ByteArray := prog_3_method_16_code
def yX1_improve : MethodName := ⟨RX1, "improve", "(IILTurntableHouse$StateQueue;)V"⟩
abbrev cX1_firstOnBestPlan : ByteArray := prog_3_method_17_code
def yX1_firstOnBestPlan : MethodName := ⟨RX1, "firstOnBestPlan", "(I)I"⟩
abbrev cX1_nearerQueue : ByteArray := prog_3_method_18_code
def yX1_nearerQueue : MethodName := ⟨RX1, "nearerQueue", "()LTurntableHouse$StateQueue;"⟩
abbrev cX1_costOf : ByteArray := prog_3_method_19_code
def yX1_costOf : MethodName := ⟨RX1, "costOf", "(I)I"⟩
abbrev cX1_costOfAction : ByteArray := prog_3_method_20_code
def yX1_costOfAction : MethodName := ⟨RX1, "costOfAction", "(I)I"⟩
def RX2 : String := "TurntableHouse$StateQueue"
def TX2 : u_T := fun k => match k with
  | 0 => ("TurntableHouse$StateQueue", "states", "[I", true)
  | 1 => ("TurntableHouse$StateQueue", "head", "I", false)
  | _ => ("TurntableHouse$StateQueue", "tail", "I", false)
def tyX2 : Nat → FieldType := fun k => match k with
  | 0 => .array .int
  | 1 => .int
  | _ => .int
abbrev wsX20 : List Cond := u_ws RX2 TX2 3
theorem nmX2 : ∀ a, a < 3 → ∀ b, b < 3 → a ≠ b → (TX2 a).2.1 ≠ (TX2 b).2.1 := by decide +kernel
theorem tyX2_ok : ∀ k, k < 3 → parseFieldDescriptor (TX2 k).2.2.1 = some (tyX2 k) := by decide +kernel
abbrev cX2_init : ByteArray := prog_4_method_1_code
def yX2_init : MethodName := ⟨RX2, "<init>", "()V"⟩
abbrev cX2_reset : ByteArray := prog_4_method_2_code
def yX2_reset : MethodName := ⟨RX2, "reset", "()V"⟩
abbrev cX2_add : ByteArray := prog_4_method_3_code
def yX2_add : MethodName := ⟨RX2, "add", "(I)V"⟩
abbrev cX2_first : ByteArray := prog_4_method_4_code
def yX2_first : MethodName := ⟨RX2, "first", "()I"⟩
abbrev cX2_removeFirst : ByteArray := prog_4_method_5_code
def yX2_removeFirst : MethodName := ⟨RX2, "removeFirst", "()I"⟩
def RX3 : String := "TurntableHouse$Yard"
def TX3 : u_T := fun k => match k with
  | 0 => ("TurntableHouse$Yard", "lengths", "[I", true)
  | 1 => ("TurntableHouse$Yard", "used", "[I", true)
  | 2 => ("TurntableHouse$Yard", "counts", "[I", true)
  | 3 => ("TurntableHouse$Yard", "rows", "[I", true)
  | 4 => ("TurntableHouse$Yard", "sizes", "[I", true)
  | 5 => ("TurntableHouse$Yard", "locomotiveCount", "I", false)
  | 6 => ("TurntableHouse$Yard", "deadBits", "I", false)
  | _ => ("TurntableHouse$Yard", "endA", "I", false)
def tyX3 : Nat → FieldType := fun k => match k with
  | 0 => .array .int
  | 1 => .array .int
  | 2 => .array .int
  | 3 => .array .int
  | 4 => .array .int
  | 5 => .int
  | 6 => .int
  | _ => .int
abbrev wsX30 : List Cond := u_ws RX3 TX3 8
theorem nmX3 : ∀ a, a < 8 → ∀ b, b < 8 → a ≠ b → (TX3 a).2.1 ≠ (TX3 b).2.1 := by decide +kernel
theorem tyX3_ok : ∀ k, k < 8 → parseFieldDescriptor (TX3 k).2.2.1 = some (tyX3 k) := by decide +kernel
abbrev cX3_init : ByteArray := prog_5_method_1_code
def yX3_init : MethodName := ⟨RX3, "<init>", "()V"⟩
abbrev cX3_copyFrom : ByteArray := prog_5_method_2_code
def yX3_copyFrom : MethodName := ⟨RX3, "copyFrom", "(LTurntableHouse$Yard;)V"⟩
abbrev cX3_isLocomotive : ByteArray := prog_5_method_3_code
def yX3_isLocomotive : MethodName := ⟨RX3, "isLocomotive", "(I)Z"⟩
abbrev cX3_isAlive : ByteArray := prog_5_method_4_code
def yX3_isAlive : MethodName := ⟨RX3, "isAlive", "(I)Z"⟩
abbrev cX3_sizeOf : ByteArray := prog_5_method_5_code
def yX3_sizeOf : MethodName := ⟨RX3, "sizeOf", "(I)I"⟩
abbrev cX3_lengthAt : ByteArray := prog_5_method_6_code
def yX3_lengthAt : MethodName := ⟨RX3, "lengthAt", "(I)I"⟩
abbrev cX3_usedAt : ByteArray := prog_5_method_7_code
def yX3_usedAt : MethodName := ⟨RX3, "usedAt", "(I)I"⟩
abbrev cX3_freeAt : ByteArray := prog_5_method_8_code
def yX3_freeAt : MethodName := ⟨RX3, "freeAt", "(I)I"⟩
abbrev cX3_countAt : ByteArray := prog_5_method_9_code
def yX3_countAt : MethodName := ⟨RX3, "countAt", "(I)I"⟩
abbrev cX3_locomotiveAt : ByteArray := prog_5_method_10_code
def yX3_locomotiveAt : MethodName := ⟨RX3, "locomotiveAt", "(II)I"⟩
abbrev cX3_placeOf : ByteArray := prog_5_method_11_code
def yX3_placeOf : MethodName := ⟨RX3, "placeOf", "(I)I"⟩
abbrev cX3_indexIn : ByteArray := prog_5_method_12_code
def yX3_indexIn : MethodName := ⟨RX3, "indexIn", "(II)I"⟩
abbrev cX3_trackCount : ByteArray := prog_5_method_13_code
def yX3_trackCount : MethodName := ⟨RX3, "trackCount", "()I"⟩
abbrev cX3_positionAt : ByteArray := prog_5_method_14_code
def yX3_positionAt : MethodName := ⟨RX3, "positionAt", "(I)I"⟩
abbrev cX3_setLength : ByteArray := prog_5_method_15_code
def yX3_setLength : MethodName := ⟨RX3, "setLength", "(II)V"⟩
abbrev cX3_markDead : ByteArray := prog_5_method_16_code
def yX3_markDead : MethodName := ⟨RX3, "markDead", "(IZ)V"⟩
abbrev cX3_addFirst : ByteArray := prog_5_method_17_code
def yX3_addFirst : MethodName := ⟨RX3, "addFirst", "(II)I"⟩
abbrev cX3_removeNewest : ByteArray := prog_5_method_18_code
def yX3_removeNewest : MethodName := ⟨RX3, "removeNewest", "()I"⟩
abbrev cX3_takeOut : ByteArray := prog_5_method_19_code
def yX3_takeOut : MethodName := ⟨RX3, "takeOut", "(II)I"⟩
abbrev cX3_putIn : ByteArray := prog_5_method_20_code
def yX3_putIn : MethodName := ⟨RX3, "putIn", "(III)V"⟩
abbrev cX3_emptyRows : ByteArray := prog_5_method_21_code
def yX3_emptyRows : MethodName := ⟨RX3, "emptyRows", "()V"⟩
abbrev cX3_allFit : ByteArray := prog_5_method_22_code
def yX3_allFit : MethodName := ⟨RX3, "allFit", "()Z"⟩
abbrev cX3_sourceOf : ByteArray := prog_5_method_23_code
def yX3_sourceOf : MethodName := ⟨RX3, "sourceOf", "(I)I"⟩
abbrev cX3_targetOf : ByteArray := prog_5_method_24_code
def yX3_targetOf : MethodName := ⟨RX3, "targetOf", "(I)I"⟩
abbrev cX3_movementError : ByteArray := prog_5_method_25_code
def yX3_movementError : MethodName := ⟨RX3, "movementError", "(II)I"⟩
abbrev cX3_shift : ByteArray := prog_5_method_26_code
def yX3_shift : MethodName := ⟨RX3, "shift", "(II)V"⟩
abbrev cX3_carryOut : ByteArray := prog_5_method_27_code
def yX3_carryOut : MethodName := ⟨RX3, "carryOut", "(I)V"⟩
def RX4 : String := "TurntableHouse"
def TX4 : u_T := fun k => match k with
  | 0 => ("TurntableHouse", "yard", "LTurntableHouse$Yard;", true)
  | 1 => ("TurntableHouse", "slots", "[LTurntableHouse$Yard;", true)
  | 2 => ("TurntableHouse", "actions", "LTurntableHouse$ActionLog;", true)
  | 3 => ("TurntableHouse", "planner", "LTurntableHouse$Planner;", false)
  | _ => ("TurntableHouse", "turnCount", "I", false)
def tyX4 : Nat → FieldType := fun k => match k with
  | 0 => .object "TurntableHouse$Yard"
  | 1 => .array (.object "TurntableHouse$Yard")
  | 2 => .object "TurntableHouse$ActionLog"
  | 3 => .object "TurntableHouse$Planner"
  | _ => .int
abbrev wsX40 : List Cond := u_ws RX4 TX4 5
theorem nmX4 : ∀ a, a < 5 → ∀ b, b < 5 → a ≠ b → (TX4 a).2.1 ≠ (TX4 b).2.1 := by decide +kernel
theorem tyX4_ok : ∀ k, k < 5 → parseFieldDescriptor (TX4 k).2.2.1 = some (tyX4 k) := by decide +kernel
abbrev cX4_init : ByteArray := prog_1_method_1_code
def yX4_init : MethodName := ⟨RX4, "<init>", "()V"⟩
abbrev cX4_setTrack : ByteArray := prog_1_method_2_code
def yX4_setTrack : MethodName := ⟨RX4, "setTrack", "(II)I"⟩
abbrev cX4_setTableLength : ByteArray := prog_1_method_3_code
def yX4_setTableLength : MethodName := ⟨RX4, "setTableLength", "(I)I"⟩
abbrev cX4_addLocomotive : ByteArray := prog_1_method_4_code
def yX4_addLocomotive : MethodName := ⟨RX4, "addLocomotive", "(II)I"⟩
abbrev cX4_removeLocomotive : ByteArray := prog_1_method_5_code
def yX4_removeLocomotive : MethodName := ⟨RX4, "removeLocomotive", "()I"⟩
abbrev cX4_setDead : ByteArray := prog_1_method_6_code
def yX4_setDead : MethodName := ⟨RX4, "setDead", "(IZ)I"⟩
abbrev cX4_locomotives : ByteArray := prog_1_method_7_code
def yX4_locomotives : MethodName := ⟨RX4, "locomotives", "()I"⟩
abbrev cX4_trackLength : ByteArray := prog_1_method_8_code
def yX4_trackLength : MethodName := ⟨RX4, "trackLength", "(I)I"⟩
abbrev cX4_freeLength : ByteArray := prog_1_method_9_code
def yX4_freeLength : MethodName := ⟨RX4, "freeLength", "(I)I"⟩
abbrev cX4_row : ByteArray := prog_1_method_10_code
def yX4_row : MethodName := ⟨RX4, "row", "(II)I"⟩
abbrev cX4_place : ByteArray := prog_1_method_11_code
def yX4_place : MethodName := ⟨RX4, "place", "(I)I"⟩
abbrev cX4_pointsTo : ByteArray := prog_1_method_12_code
def yX4_pointsTo : MethodName := ⟨RX4, "pointsTo", "(I)I"⟩
abbrev cX4_turn : ByteArray := prog_1_method_13_code
def yX4_turn : MethodName := ⟨RX4, "turn", "(I)I"⟩
abbrev cX4_moveIn : ByteArray := prog_1_method_14_code
def yX4_moveIn : MethodName := ⟨RX4, "moveIn", "(II)I"⟩
abbrev cX4_moveOut : ByteArray := prog_1_method_15_code
def yX4_moveOut : MethodName := ⟨RX4, "moveOut", "(II)I"⟩
abbrev cX4_turnsMade : ByteArray := prog_1_method_16_code
def yX4_turnsMade : MethodName := ⟨RX4, "turnsMade", "()I"⟩
abbrev cX4_undo : ByteArray := prog_1_method_17_code
def yX4_undo : MethodName := ⟨RX4, "undo", "()I"⟩
abbrev cX4_log : ByteArray := prog_1_method_18_code
def yX4_log : MethodName := ⟨RX4, "log", "(I)I"⟩
abbrev cX4_fewestTurns : ByteArray := prog_1_method_19_code
def yX4_fewestTurns : MethodName := ⟨RX4, "fewestTurns", "(II)I"⟩
abbrev cX4_plan : ByteArray := prog_1_method_20_code
def yX4_plan : MethodName := ⟨RX4, "plan", "(III)I"⟩
abbrev cX4_save : ByteArray := prog_1_method_21_code
def yX4_save : MethodName := ⟨RX4, "save", "(I)I"⟩
abbrev cX4_restore : ByteArray := prog_1_method_22_code
def yX4_restore : MethodName := ⟨RX4, "restore", "(I)I"⟩
abbrev cX4_isPosition : ByteArray := prog_1_method_23_code
def yX4_isPosition : MethodName := ⟨RX4, "isPosition", "(I)Z"⟩
abbrev cX4_isEnd : ByteArray := prog_1_method_24_code
def yX4_isEnd : MethodName := ⟨RX4, "isEnd", "(I)Z"⟩
abbrev cX4_isSlot : ByteArray := prog_1_method_25_code
def yX4_isSlot : MethodName := ⟨RX4, "isSlot", "(I)Z"⟩
abbrev cX4_endOf : ByteArray := prog_1_method_26_code
def yX4_endOf : MethodName := ⟨RX4, "endOf", "(I)I"⟩
abbrev cX4_reverseOf : ByteArray := prog_1_method_27_code
def yX4_reverseOf : MethodName := ⟨RX4, "reverseOf", "(I)I"⟩
abbrev cX4_placeError : ByteArray := prog_1_method_28_code
def yX4_placeError : MethodName := ⟨RX4, "placeError", "(I)I"⟩
abbrev cX4_planError : ByteArray := prog_1_method_29_code
def yX4_planError : MethodName := ⟨RX4, "planError", "(II)I"⟩
abbrev cX4_changeLength : ByteArray := prog_1_method_30_code
def yX4_changeLength : MethodName := ⟨RX4, "changeLength", "(II)I"⟩
abbrev cX4_moveIfPossible : ByteArray := prog_1_method_31_code
def yX4_moveIfPossible : MethodName := ⟨RX4, "moveIfPossible", "(II)I"⟩
abbrev cX4_houseChanges : ByteArray := prog_1_method_32_code
def yX4_houseChanges : MethodName := ⟨RX4, "houseChanges", "()V"⟩
abbrev cX4_readyPlanner : ByteArray := prog_1_method_33_code
def yX4_readyPlanner : MethodName := ⟨RX4, "readyPlanner", "()LTurntableHouse$Planner;"⟩
def RX5 : String := "TurntableHouseModel"
def TX5 : u_T := fun k => match k with
  | 0 => ("TurntableHouseModel", "at", "[I", true)
  | 1 => ("TurntableHouseModel", "slots", "[I", true)
  | 2 => ("TurntableHouseModel", "isSaved", "[Z", true)
  | 3 => ("TurntableHouseModel", "made", "I", false)
  | 4 => ("TurntableHouseModel", "logged", "I", false)
  | 5 => ("TurntableHouseModel", "entries", "[I", true)
  | 6 => ("TurntableHouseModel", "laidFor", "I", false)
  | 7 => ("TurntableHouseModel", "orders", "I", false)
  | 8 => ("TurntableHouseModel", "order", "[I", true)
  | 9 => ("TurntableHouseModel", "orderOf", "[I", true)
  | 10 => ("TurntableHouseModel", "ways", "I", false)
  | 11 => ("TurntableHouseModel", "way", "[I", true)
  | 12 => ("TurntableHouseModel", "wayOf", "[I", true)
  | 13 => ("TurntableHouseModel", "tracks", "I", false)
  | 14 => ("TurntableHouseModel", "placeOfRow", "[I", true)
  | 15 => ("TurntableHouseModel", "rowOfPlace", "[I", true)
  | 16 => ("TurntableHouseModel", "rows", "[I", true)
  | 17 => ("TurntableHouseModel", "many", "[I", true)
  | 18 => ("TurntableHouseModel", "angle", "I", false)
  | 19 => ("TurntableHouseModel", "turnsTo", "[I", true)
  | 20 => ("TurntableHouseModel", "actionsTo", "[I", true)
  | 21 => ("TurntableHouseModel", "isDone", "[Z", true)
  | 22 => ("TurntableHouseModel", "turned", "[I", true)
  | 23 => ("TurntableHouseModel", "moved", "[I", true)
  | 24 => ("TurntableHouseModel", "done", "[I", true)
  | 25 => ("TurntableHouseModel", "turnedFor", "[I", true)
  | 26 => ("TurntableHouseModel", "movedFor", "[I", true)
  | 27 => ("TurntableHouseModel", "wasTurned", "[I", true)
  | 28 => ("TurntableHouseModel", "wasMoved", "[I", true)
  | 29 => ("TurntableHouseModel", "turnedMany", "I", false)
  | 30 => ("TurntableHouseModel", "movedMany", "I", false)
  | _ => ("TurntableHouseModel", "doneMany", "I", false)
def tyX5 : Nat → FieldType := fun k => match k with
  | 0 => .array .int
  | 1 => .array .int
  | 2 => .array .boolean
  | 3 => .int
  | 4 => .int
  | 5 => .array .int
  | 6 => .int
  | 7 => .int
  | 8 => .array .int
  | 9 => .array .int
  | 10 => .int
  | 11 => .array .int
  | 12 => .array .int
  | 13 => .int
  | 14 => .array .int
  | 15 => .array .int
  | 16 => .array .int
  | 17 => .array .int
  | 18 => .int
  | 19 => .array .int
  | 20 => .array .int
  | 21 => .array .boolean
  | 22 => .array .int
  | 23 => .array .int
  | 24 => .array .int
  | 25 => .array .int
  | 26 => .array .int
  | 27 => .array .int
  | 28 => .array .int
  | 29 => .int
  | 30 => .int
  | _ => .int
abbrev wsX50 : List Cond := u_ws RX5 TX5 32
theorem nmX5 : ∀ a, a < 32 → ∀ b, b < 32 → a ≠ b → (TX5 a).2.1 ≠ (TX5 b).2.1 := by decide +kernel
theorem tyX5_ok : ∀ k, k < 32 → parseFieldDescriptor (TX5 k).2.2.1 = some (tyX5 k) := by decide +kernel
abbrev cX5_init : ByteArray := prog_7_method_1_code
def yX5_init : MethodName := ⟨RX5, "<init>", "()V"⟩
abbrev cX5_in : ByteArray := prog_7_method_2_code
def yX5_in : MethodName := ⟨RX5, "in", "(III)Z"⟩
abbrev cX5_change : ByteArray := prog_7_method_3_code
def yX5_change : MethodName := ⟨RX5, "change", "()V"⟩
abbrev cX5_isPosition : ByteArray := prog_7_method_4_code
def yX5_isPosition : MethodName := ⟨RX5, "isPosition", "(I)Z"⟩
abbrev cX5_isLocomotive : ByteArray := prog_7_method_5_code
def yX5_isLocomotive : MethodName := ⟨RX5, "isLocomotive", "(I)Z"⟩
abbrev cX5_isTrack : ByteArray := prog_7_method_6_code
def yX5_isTrack : MethodName := ⟨RX5, "isTrack", "(I)Z"⟩
abbrev cX5_cell : ByteArray := prog_7_method_7_code
def yX5_cell : MethodName := ⟨RX5, "cell", "(II)I"⟩
abbrev cX5_used : ByteArray := prog_7_method_8_code
def yX5_used : MethodName := ⟨RX5, "used", "(I)I"⟩
abbrev cX5_setTrack : ByteArray := prog_7_method_9_code
def yX5_setTrack : MethodName := ⟨RX5, "setTrack", "(II)I"⟩
abbrev cX5_setTableLength : ByteArray := prog_7_method_10_code
def yX5_setTableLength : MethodName := ⟨RX5, "setTableLength", "(I)I"⟩
abbrev cX5_insert : ByteArray := prog_7_method_11_code
def yX5_insert : MethodName := ⟨RX5, "insert", "(III)V"⟩
abbrev cX5_take : ByteArray := prog_7_method_12_code
def yX5_take : MethodName := ⟨RX5, "take", "(II)I"⟩
abbrev cX5_addLocomotive : ByteArray := prog_7_method_13_code
def yX5_addLocomotive : MethodName := ⟨RX5, "addLocomotive", "(II)I"⟩
abbrev cX5_placeOf : ByteArray := prog_7_method_14_code
def yX5_placeOf : MethodName := ⟨RX5, "placeOf", "(I)I"⟩
abbrev cX5_removeLocomotive : ByteArray := prog_7_method_15_code
def yX5_removeLocomotive : MethodName := ⟨RX5, "removeLocomotive", "()I"⟩
abbrev cX5_setDead : ByteArray := prog_7_method_16_code
def yX5_setDead : MethodName := ⟨RX5, "setDead", "(IZ)I"⟩
abbrev cX5_locomotives : ByteArray := prog_7_method_17_code
def yX5_locomotives : MethodName := ⟨RX5, "locomotives", "()I"⟩
abbrev cX5_trackLength : ByteArray := prog_7_method_18_code
def yX5_trackLength : MethodName := ⟨RX5, "trackLength", "(I)I"⟩
abbrev cX5_freeLength : ByteArray := prog_7_method_19_code
def yX5_freeLength : MethodName := ⟨RX5, "freeLength", "(I)I"⟩
abbrev cX5_row : ByteArray := prog_7_method_20_code
def yX5_row : MethodName := ⟨RX5, "row", "(II)I"⟩
abbrev cX5_place : ByteArray := prog_7_method_21_code
def yX5_place : MethodName := ⟨RX5, "place", "(I)I"⟩
abbrev cX5_isEnd : ByteArray := prog_7_method_22_code
def yX5_isEnd : MethodName := ⟨RX5, "isEnd", "(I)Z"⟩
abbrev cX5_pointed : ByteArray := prog_7_method_23_code
def yX5_pointed : MethodName := ⟨RX5, "pointed", "(I)I"⟩
abbrev cX5_pointsTo : ByteArray := prog_7_method_24_code
def yX5_pointsTo : MethodName := ⟨RX5, "pointsTo", "(I)I"⟩
abbrev cX5_write : ByteArray := prog_7_method_25_code
def yX5_write : MethodName := ⟨RX5, "write", "(I)V"⟩
abbrev cX5_turnBy : ByteArray := prog_7_method_26_code
def yX5_turnBy : MethodName := ⟨RX5, "turnBy", "(I)V"⟩
abbrev cX5_turn : ByteArray := prog_7_method_27_code
def yX5_turn : MethodName := ⟨RX5, "turn", "(I)I"⟩
abbrev cX5_goIn : ByteArray := prog_7_method_28_code
def yX5_goIn : MethodName := ⟨RX5, "goIn", "(II)V"⟩
abbrev cX5_goOut : ByteArray := prog_7_method_29_code
def yX5_goOut : MethodName := ⟨RX5, "goOut", "(II)V"⟩
abbrev cX5_wrongMove : ByteArray := prog_7_method_30_code
def yX5_wrongMove : MethodName := ⟨RX5, "wrongMove", "(IIII)I"⟩
abbrev cX5_moveIn : ByteArray := prog_7_method_31_code
def yX5_moveIn : MethodName := ⟨RX5, "moveIn", "(II)I"⟩
abbrev cX5_moveOut : ByteArray := prog_7_method_32_code
def yX5_moveOut : MethodName := ⟨RX5, "moveOut", "(II)I"⟩
abbrev cX5_turnsMade : ByteArray := prog_7_method_33_code
def yX5_turnsMade : MethodName := ⟨RX5, "turnsMade", "()I"⟩
abbrev cX5_undo : ByteArray := prog_7_method_34_code
def yX5_undo : MethodName := ⟨RX5, "undo", "()I"⟩
abbrev cX5_log : ByteArray := prog_7_method_35_code
def yX5_log : MethodName := ⟨RX5, "log", "(I)I"⟩
abbrev cX5_layOrders : ByteArray := prog_7_method_36_code
def yX5_layOrders : MethodName := ⟨RX5, "layOrders", "(I)V"⟩
abbrev cX5_layWays : ByteArray := prog_7_method_37_code
def yX5_layWays : MethodName := ⟨RX5, "layWays", "(I)V"⟩
abbrev cX5_layRows : ByteArray := prog_7_method_38_code
def yX5_layRows : MethodName := ⟨RX5, "layRows", "()V"⟩
abbrev cX5_numberOf : ByteArray := prog_7_method_39_code
def yX5_numberOf : MethodName := ⟨RX5, "numberOf", "()I"⟩
abbrev cX5_layOut : ByteArray := prog_7_method_40_code
def yX5_layOut : MethodName := ⟨RX5, "layOut", "(I)V"⟩
abbrev cX5_sum : ByteArray := prog_7_method_41_code
def yX5_sum : MethodName := ⟨RX5, "sum", "(III)I"⟩
abbrev cX5_canBe : ByteArray := prog_7_method_42_code
def yX5_canBe : MethodName := ⟨RX5, "canBe", "()Z"⟩
abbrev cX5_insertHere : ByteArray := prog_7_method_43_code
def yX5_insertHere : MethodName := ⟨RX5, "insertHere", "(III)V"⟩
abbrev cX5_takeHere : ByteArray := prog_7_method_44_code
def yX5_takeHere : MethodName := ⟨RX5, "takeHere", "(II)I"⟩
abbrev cX5_behind : ByteArray := prog_7_method_45_code
def yX5_behind : MethodName := ⟨RX5, "behind", "(II)I"⟩
abbrev cX5_addTurned : ByteArray := prog_7_method_46_code
def yX5_addTurned : MethodName := ⟨RX5, "addTurned", "(III)V"⟩
abbrev cX5_addMoved : ByteArray := prog_7_method_47_code
def yX5_addMoved : MethodName := ⟨RX5, "addMoved", "(III)V"⟩
abbrev cX5_finishOne : ByteArray := prog_7_method_48_code
def yX5_finishOne : MethodName := ⟨RX5, "finishOne", "(III)V"⟩
abbrev cX5_finishLevel : ByteArray := prog_7_method_49_code
def yX5_finishLevel : MethodName := ⟨RX5, "finishLevel", "(I)V"⟩
abbrev cX5_isGoal : ByteArray := prog_7_method_50_code
def yX5_isGoal : MethodName := ⟨RX5, "isGoal", "(II)Z"⟩
abbrev cX5_layGoals : ByteArray := prog_7_method_51_code
def yX5_layGoals : MethodName := ⟨RX5, "layGoals", "(II)V"⟩
abbrev cX5_layAll : ByteArray := prog_7_method_52_code
def yX5_layAll : MethodName := ⟨RX5, "layAll", "(II)V"⟩
abbrev cX5_situationNow : ByteArray := prog_7_method_53_code
def yX5_situationNow : MethodName := ⟨RX5, "situationNow", "()I"⟩
abbrev cX5_wrongPlan : ByteArray := prog_7_method_54_code
def yX5_wrongPlan : MethodName := ⟨RX5, "wrongPlan", "(II)I"⟩
abbrev cX5_fewestTurns : ByteArray := prog_7_method_55_code
def yX5_fewestTurns : MethodName := ⟨RX5, "fewestTurns", "(II)I"⟩
abbrev cX5_bestAction : ByteArray := prog_7_method_56_code
def yX5_bestAction : MethodName := ⟨RX5, "bestAction", "(I)I"⟩
abbrev cX5_plan : ByteArray := prog_7_method_57_code
def yX5_plan : MethodName := ⟨RX5, "plan", "(III)I"⟩
abbrev cX5_save : ByteArray := prog_7_method_58_code
def yX5_save : MethodName := ⟨RX5, "save", "(I)I"⟩
abbrev cX5_restore : ByteArray := prog_7_method_59_code
def yX5_restore : MethodName := ⟨RX5, "restore", "(I)I"⟩
def RJ6 : String := "java/lang/Integer"
def TJ6 : u_T := fun k => match k with
  | _ => ("", "", "", false)
def tyJ6 : Nat → FieldType := fun k => match k with
  | _ => .int
abbrev wsJ60 : List Cond := u_ws RJ6 TJ6 0
theorem nmJ6 : ∀ a, a < 0 → ∀ b, b < 0 → a ≠ b → (TJ6 a).2.1 ≠ (TJ6 b).2.1 := by decide +kernel
theorem tyJ6_ok : ∀ k, k < 0 → parseFieldDescriptor (TJ6 k).2.2.1 = some (tyJ6 k) := by decide +kernel
abbrev cJ6_bitCount_0f7a4 : ByteArray := prog_8_method_49_code
def yJ6_bitCount_0f7a4 : MethodName := ⟨RJ6, "bitCount", "(I)I"⟩
def RJ9 : String := "java/lang/Math"
def TJ9 : u_T := fun k => match k with
  | _ => ("", "", "", false)
def tyJ9 : Nat → FieldType := fun k => match k with
  | _ => .int
abbrev wsJ90 : List Cond := u_ws RJ9 TJ9 0
theorem nmJ9 : ∀ a, a < 0 → ∀ b, b < 0 → a ≠ b → (TJ9 a).2.1 ≠ (TJ9 b).2.1 := by decide +kernel
theorem tyJ9_ok : ∀ k, k < 0 → parseFieldDescriptor (TJ9 k).2.2.1 = some (tyJ9 k) := by decide +kernel
abbrev cJ9_floorMod_7cf53 : ByteArray := prog_9_method_50_code
def yJ9_floorMod_7cf53 : MethodName := ⟨RJ9, "floorMod", "(II)I"⟩
abbrev cJ9_abs_0f7a4 : ByteArray := prog_9_method_59_code
def yJ9_abs_0f7a4 : MethodName := ⟨RJ9, "abs", "(I)I"⟩
abbrev cJ9_max_7cf53 : ByteArray := prog_9_method_65_code
def yJ9_max_7cf53 : MethodName := ⟨RJ9, "max", "(II)I"⟩
abbrev cJ9_min_7cf53 : ByteArray := prog_9_method_69_code
def yJ9_min_7cf53 : MethodName := ⟨RJ9, "min", "(II)I"⟩
def RJ10 : String := "java/lang/System"
def TJ10 : u_T := fun k => match k with
  | _ => ("", "", "", false)
def tyJ10 : Nat → FieldType := fun k => match k with
  | _ => .int
abbrev wsJ100 : List Cond := u_ws RJ10 TJ10 0
theorem nmJ10 : ∀ a, a < 0 → ∀ b, b < 0 → a ≠ b → (TJ10 a).2.1 ≠ (TJ10 b).2.1 := by decide +kernel
theorem tyJ10_ok : ∀ k, k < 0 → parseFieldDescriptor (TJ10 k).2.2.1 = some (tyJ10 k) := by decide +kernel
def RJ7 : String := "java/util/Arrays"
def TJ7 : u_T := fun k => match k with
  | _ => ("", "", "", false)
def tyJ7 : Nat → FieldType := fun k => match k with
  | _ => .int
abbrev wsJ70 : List Cond := u_ws RJ7 TJ7 0
theorem nmJ7 : ∀ a, a < 0 → ∀ b, b < 0 → a ≠ b → (TJ7 a).2.1 ≠ (TJ7 b).2.1 := by decide +kernel
theorem tyJ7_ok : ∀ k, k < 0 → parseFieldDescriptor (TJ7 k).2.2.1 = some (tyJ7 k) := by decide +kernel
abbrev cJ7_fill_53178 : ByteArray := prog_11_method_103_code
def yJ7_fill_53178 : MethodName := ⟨RJ7, "fill", "([II)V"⟩
def RL : String := "TurntableHouseLaw"
abbrev cL_law : ByteArray := code
def yL_law : MethodName := ⟨RL, "law", "([I)Z"⟩
abbrev vwCl : List vw_C := [(RX0, TX0, 2), (RX1, TX1, 13), (RX2, TX2, 3), (RX3, TX3, 8), (RX4, TX4, 5), (RX5, TX5, 32)]
end
section
/-! THE ABSTRACT MACHINE: a world is a list of places; a place is empty, or holds an int array, an array of yards, an object; a reference is a place's number -/
def am_T : List Cond := lw_tbl.filter goodWord
def am_N : List Cond := [.fieldLinkNest RX1 61 RX3 "locomotiveCount" "I" RX4, .fieldLinkNest RX4 42 RX3 "locomotiveCount" "I" RX4, .fieldLinkNest RX1 157 RX3 "endA" "I" RX4, .fieldLinkNest RX4 99 RX3 "endA" "I" RX4, .fieldLinkNest RX4 111 RX0 "count" "I" RX4, .methodLinkNest RX3 87 yX4_endOf RX4, .methodLinkNest RX1 184 yX4_reverseOf RX4]
theorem am_T_in {w : Cond} (i : Nat) (h : lw_tbl[i]? = some w) (hg : goodWord w = true) : w ∈ am_T := List.mem_filter.mpr ⟨List.mem_of_getElem? h, hg⟩
abbrev am_C : Type := (Nat × Nat × (Nat → Int32)) ⊕ (List (Option Nat) ⊕ (Nat × List Value))
abbrev am_H : Type := List (Option am_C)
def am_v (r : Nat → Nat) : Value → Value := fun v => match v with
  | .ref i => .ref (r i)
  | w => w
def am_e (cy : Nat → ClassId) (r : Nat → Nat) : am_C → va_E := fun c => match c with
  | .inl a => .inl (cy a.1, a.2.1, .inl a.2.2)
  | .inr (.inl l) => .inl (cy 2, l.length, .inr (.inr (.inr (.inr (fun j => (l.getD j none).map r)))))
  | .inr (.inr o) => .inr (o.1, o.2.map (am_v r))
def am_tys (cy : Nat → ClassId) : List (ClassId × FieldType) := [(cy 0, .int), (cy 1, .boolean), (cy 2, .object RX3)]
def am_K (D : va_G) (cy : Nat → ClassId) (U : State) : Prop := va_K D vwCl (am_tys cy) U ∧ (∀ w ∈ am_N, va_Nw w U) ∧ va_AO RX3 U
theorem am_K.warm {D : va_G} {cy : Nat → ClassId} {s U : State} (hW : s.WarmedH U.vm) (h : am_K D cy s) : am_K D cy U := by
  refine ⟨va_K.moved hW.alike h.1, fun w hw => ?_, va_AO.moved hW.alike h.2.2⟩
  have h2 := h.2.1 w hw
  simp only [am_N, List.mem_cons, List.not_mem_nil, or_false] at hw
  rcases hw with rfl | rfl | rfl | rfl | rfl | rfl | rfl
  · exact va_Nw.warmF hW h2
  · exact va_Nw.warmF hW h2
  · exact va_Nw.warmF hW h2
  · exact va_Nw.warmF hW h2
  · exact va_Nw.warmF hW h2
  · exact va_Nw.warmM hW h2
  · exact va_Nw.warmM hW h2
theorem am_K.same {D : va_G} {cy : Nat → ClassId} {s U : State} (hW : s.vm = U.vm) (h : am_K D cy s) : am_K D cy U := by
  have ha : s.vm.Alike U.vm := by rw [hW]; exact Vm.Alike.refl _
  refine ⟨va_K.moved ha h.1, fun w hw => ?_, va_AO.moved ha h.2.2⟩
  have h2 := h.2.1 w hw
  refine va_Nw.same ?_ hW h2
  simp only [am_N, List.mem_cons, List.not_mem_nil, or_false] at hw
  rcases hw with rfl | rfl | rfl | rfl | rfl | rfl | rfl <;> rfl
/-- the world stands in the heap -/
def am_Z (D : va_G) (cy : Nat → ClassId) (r : Nat → Nat) (h : am_H) (A : Nat → Prop) (H : Heap) : Prop :=
  (∀ (k : Nat) (c : am_C), h[k]? = some (some c) → va_at D vwCl (r k, am_e cy r c) H) ∧ (∀ (i j : Nat) (c d : am_C), h[i]? = some (some c) → h[j]? = some (some d) → r i = r j → i = j) ∧ ∀ (k : Nat) (c : am_C), h[k]? = some (some c) → A (r k)
theorem am_Z.toW {D : va_G} {cy : Nat → ClassId} {r : Nat → Nat} {h : am_H} {A : Nat → Prop} {H : Heap} (z : am_Z D cy r h A H) :
    ∃ ws : va_W, va_P D vwCl ws H ∧ va_D A ws ∧ ∀ (k : Nat) (c : am_C), h[k]? = some (some c) → ∃ q : Nat, ws[q]? = some (r k, am_e cy r c) := by
  obtain ⟨z1, z2, z3⟩ := z
  obtain ⟨f, hf⟩ : ∃ f : Nat → Nat × va_E, ∀ k c, h[k]? = some (some c) → f k = (r k, am_e cy r c) :=
    ⟨fun k => match h[k]? with | some (some c) => (r k, am_e cy r c) | _ => (0, .inr (0, [])), fun k c hk => by simp [hk]⟩
  obtain ⟨g, hg⟩ : ∃ g : Nat → Bool, ∀ k, g k = true ↔ ∃ c, h[k]? = some (some c) :=
    ⟨fun k => match h[k]? with | some (some _) => true | _ => false, fun k => by
      cases hk : h[k]? with
      | none => simp [hk]
      | some o => cases o <;> simp [hk]⟩
  have hnd : ((List.range h.length).filter g).Nodup := List.Pairwise.filter _ List.nodup_range
  refine ⟨((List.range h.length).filter g).map f, fun q x hx => ?_, ⟨fun i j x y hi hj hxy => ?_, fun q x hx => ?_⟩, fun k c hk => ?_⟩
  · rw [List.getElem?_map] at hx
    cases hq : ((List.range h.length).filter g)[q]? with
    | none => rw [hq] at hx; cases hx
    | some k =>
      rw [hq] at hx
      obtain ⟨c, hc⟩ := (hg k).mp (List.mem_filter.mp (List.mem_of_getElem? hq)).2
      have e : f k = x := Option.some.inj hx
      rw [← e, hf k c hc]
      exact z1 k c hc
  · rw [List.getElem?_map] at hi hj
    cases hq : ((List.range h.length).filter g)[i]? with
    | none => rw [hq] at hi; cases hi
    | some k =>
      cases hq2 : ((List.range h.length).filter g)[j]? with
      | none => rw [hq2] at hj; cases hj
      | some k2 =>
        rw [hq] at hi
        rw [hq2] at hj
        obtain ⟨c, hc⟩ := (hg k).mp (List.mem_filter.mp (List.mem_of_getElem? hq)).2
        obtain ⟨c2, hc2⟩ := (hg k2).mp (List.mem_filter.mp (List.mem_of_getElem? hq2)).2
        have e : f k = x := Option.some.inj hi
        have e2 : f k2 = y := Option.some.inj hj
        rw [← e, ← e2, hf k c hc, hf k2 c2 hc2] at hxy
        have ek := z2 k k2 c c2 hc hc2 hxy
        subst ek
        exact (List.getElem?_inj (List.getElem?_eq_some_iff.mp hq).1 hnd).mp (by rw [hq, hq2])
  · rw [List.getElem?_map] at hx
    cases hq : ((List.range h.length).filter g)[q]? with
    | none => rw [hq] at hx; cases hx
    | some k =>
      rw [hq] at hx
      obtain ⟨c, hc⟩ := (hg k).mp (List.mem_filter.mp (List.mem_of_getElem? hq)).2
      have e : f k = x := Option.some.inj hx
      rw [← e, hf k c hc]
      exact z3 k c hc
  · have hm : k ∈ (List.range h.length).filter g := List.mem_filter.mpr ⟨List.mem_range.mpr (List.getElem?_eq_some_iff.mp hk).1, (hg k).mpr ⟨c, hk⟩⟩
    obtain ⟨q, hq⟩ := List.getElem?_of_mem hm
    exact ⟨q, by rw [List.getElem?_map, hq, Option.map_some, hf k c hk]⟩
theorem am_set_ne {h : am_H} {k j : Nat} {o : Option am_C} (e : j ≠ k) : (h.set k o)[j]? = h[j]? := List.getElem?_set_ne (Ne.symm e)
theorem am_set_eq {h : am_H} {k : Nat} {o x : Option am_C} (e : h[k]? = some x) : (h.set k o)[k]? = some o := by
  rw [List.getElem?_set_self (List.getElem?_eq_some_iff.mp e).1]
theorem am_Z.set {D : va_G} {cy : Nat → ClassId} {r : Nat → Nat} {h : am_H} {A : Nat → Prop} {H H' : Heap} (z : am_Z D cy r h A H) {ws : va_W} {q k : Nat} {c c' : am_C} (hk : h[k]? = some (some c))
    (cov : ∀ (k : Nat) (c : am_C), h[k]? = some (some c) → ∃ q : Nat, ws[q]? = some (r k, am_e cy r c)) (hq : ws[q]? = some (r k, am_e cy r c)) (hP : va_P D vwCl (ws.set q (r k, am_e cy r c')) H') : am_Z D cy r (h.set k (some c')) A H' := by
  obtain ⟨z1, z2, z3⟩ := z
  have key : ∀ (j : Nat) (d : am_C), (h.set k (some c'))[j]? = some (some d) → (j = k ∧ d = c') ∨ (j ≠ k ∧ h[j]? = some (some d)) := by
    intro j d hj
    by_cases e : j = k
    · subst e
      rw [am_set_eq hk] at hj
      exact Or.inl ⟨rfl, (Option.some.inj (Option.some.inj hj)).symm⟩
    · rw [am_set_ne e] at hj
      exact Or.inr ⟨e, hj⟩
  have pres : ∀ (j : Nat) (d : am_C), (h.set k (some c'))[j]? = some (some d) → ∃ d', h[j]? = some (some d') := by
    intro j d hj
    rcases key j d hj with ⟨e, -⟩ | ⟨-, e⟩
    · subst e; exact ⟨c, hk⟩
    · exact ⟨d, e⟩
  refine ⟨fun j d hj => ?_, fun i j a b hi hj e => ?_, fun j d hj => ?_⟩
  · rcases key j d hj with ⟨e1, e2⟩ | ⟨e1, e2⟩
    · subst e1; subst e2
      exact hP q _ (by rw [List.getElem?_set_self (List.getElem?_eq_some_iff.mp hq).1])
    · obtain ⟨q', hq'⟩ := cov j d e2
      have hne : q' ≠ q := fun e => by
        subst e
        rw [hq] at hq'
        exact e1 (z2 j k d c e2 hk (congrArg Prod.fst (Option.some.inj hq')).symm)
      exact hP q' _ (by rw [List.getElem?_set_ne (Ne.symm hne)]; exact hq')
  · obtain ⟨a', ha⟩ := pres i a hi
    obtain ⟨b', hb⟩ := pres j b hj
    exact z2 i j a' b' ha hb e
  · obtain ⟨d', hd⟩ := pres j d hj
    exact z3 j d' hd
-- no reference to a place
def am_nv (k : Nat) : Value → Bool := fun v => match v with
  | .ref i => !(Nat.beq i k)
  | _ => true
def am_nc (k : Nat) : am_C → Bool := fun c => match c with
  | .inl _ => true
  | .inr (.inl l) => l.all (fun o => match o with | none => true | some i => !(Nat.beq i k))
  | .inr (.inr o) => o.2.all (am_nv k)
def am_nh (k : Nat) (h : am_H) : Bool := h.all (fun o => match o with | none => true | some c => am_nc k c)
def am_nl (k : Nat) (ls : List (Option Value)) : Bool := ls.all (fun o => match o with | none => true | some v => am_nv k v)
def am_ns (k : Nat) (st : List Value) : Bool := st.all (am_nv k)
theorem am_v_eq {r r' : Nat → Nat} {v : Value} (h : ∀ i, v = .ref i → r' i = r i) : am_v r' v = am_v r v := by
  cases v <;> simp [am_v]
  rename_i i
  exact h i rfl
theorem am_nv_ne {k : Nat} {v : Value} (h : am_nv k v = true) : ∀ i, v = .ref i → i ≠ k := by
  intro i e he
  subst e; subst he
  simp [am_nv] at h
theorem am_e_eq {cy : Nat → ClassId} {r r' : Nat → Nat} {c : am_C} (h : ∀ i, (∀ o : Nat × List Value, c = .inr (.inr o) → .ref i ∈ o.2 → r' i = r i) ∧ (∀ l : List (Option Nat), c = .inr (.inl l) → some i ∈ l → r' i = r i)) : am_e cy r' c = am_e cy r c := by
  rcases c with a | l | o
  · rfl
  · simp only [am_e]
    refine congrArg (fun z : Nat → Option Nat => (Sum.inl (cy 2, l.length, .inr (.inr (.inr (.inr z)))) : va_E)) (funext fun j => ?_)
    cases hj : l.getD j none with
    | none => rfl
    | some i =>
      have hm : some i ∈ l := by
        rw [List.getD_eq_getElem?_getD] at hj
        cases hq : l[j]? with
        | none => rw [hq] at hj; cases hj
        | some x => rw [hq] at hj; have : x = some i := hj; subst this; exact List.mem_of_getElem? hq
      simp [(h i).2 l rfl hm]
  · simp only [am_e]
    congr 2
    apply List.map_congr_left
    intro v hv
    exact am_v_eq (fun i e => (h i).1 o rfl (e ▸ hv))
theorem am_nc_eq {cy : Nat → ClassId} {r r' : Nat → Nat} {k : Nat} (hr : ∀ i, i ≠ k → r' i = r i) {c : am_C} (h : am_nc k c = true) : am_e cy r' c = am_e cy r c := by
  refine am_e_eq (fun i => ⟨fun o e hm => hr i ?_, fun l e hm => hr i ?_⟩)
  · subst e
    have h1 := List.all_eq_true.mp (show o.2.all (am_nv k) = true from h) _ hm
    exact am_nv_ne h1 i rfl
  · subst e
    have h1 := List.all_eq_true.mp (show l.all _ = true from h) _ hm
    intro he
    subst he
    simp at h1
theorem am_Z.push {D : va_G} {cy : Nat → ClassId} {r : Nat → Nat} {h : am_H} {A : Nat → Prop} {H H' : Heap} (z : am_Z D cy r h A H) {ws : va_W} {k a : Nat} {c : am_C} (hk : h[k]? = some none) (hn : am_nh k h = true)
    (cov : ∀ (k : Nat) (c : am_C), h[k]? = some (some c) → ∃ q : Nat, ws[q]? = some (r k, am_e cy r c)) (hc : ∀ r r' : Nat → Nat, am_e cy r c = am_e cy r' c) (hP : va_P D vwCl (ws ++ [(a, am_e cy r c)]) H') (hD : va_D A (ws ++ [(a, am_e cy r c)])) : am_Z D cy (fun i => if i = k then a else r i) (h.set k (some c)) A H' := by
  obtain ⟨z1, z2, z3⟩ := z
  have key : ∀ (j : Nat) (d : am_C), (h.set k (some c))[j]? = some (some d) → (j = k ∧ d = c) ∨ (j ≠ k ∧ h[j]? = some (some d)) := by
    intro j d hj
    by_cases e : j = k
    · subst e
      rw [am_set_eq hk] at hj
      exact Or.inl ⟨rfl, (Option.some.inj (Option.some.inj hj)).symm⟩
    · rw [am_set_ne e] at hj
      exact Or.inr ⟨e, hj⟩
  have hold : ∀ (j : Nat) (d : am_C), h[j]? = some (some d) → ∃ q : Nat, q < ws.length ∧ (ws ++ [(a, am_e cy r c)])[q]? = some (r j, am_e cy r d) := by
    intro j d hj
    obtain ⟨q, hq⟩ := cov j d hj
    have hl := (List.getElem?_eq_some_iff.mp hq).1
    exact ⟨q, hl, by rw [List.getElem?_append_left hl]; exact hq⟩
  have hnew : (ws ++ [(a, am_e cy r c)])[ws.length]? = some (a, am_e cy r c) := by simp
  have hne : ∀ (j : Nat) (d : am_C), h[j]? = some (some d) → r j ≠ a := by
    intro j d hj e
    obtain ⟨q, hl, hq⟩ := hold j d hj
    have := hD.1 q ws.length _ _ hq hnew e
    omega
  refine ⟨fun j d hj => ?_, fun i j x y hi hj e => ?_, fun j d hj => ?_⟩
  · rcases key j d hj with ⟨e1, e2⟩ | ⟨e1, e2⟩
    · subst e1; subst e2
      simp only [if_true]
      rw [hc _ r]
      exact hP _ _ hnew
    · simp only [if_neg e1]
      have hcd : am_nc k d = true := List.all_eq_true.mp hn _ (List.mem_of_getElem? e2)
      rw [am_nc_eq (r := r) (fun i hi => if_neg hi) hcd]
      obtain ⟨q, -, hq⟩ := hold j d e2
      exact hP _ _ hq
  · rcases key i x hi with ⟨e1, -⟩ | ⟨e1, e2⟩ <;> rcases key j y hj with ⟨f1, -⟩ | ⟨f1, f2⟩
    · rw [e1, f1]
    · simp only [e1, if_true, if_neg f1] at e
      exact absurd e.symm (hne j y f2)
    · simp only [f1, if_true, if_neg e1] at e
      exact absurd e (hne i x e2)
    · simp only [if_neg e1, if_neg f1] at e
      exact z2 i j x y e2 f2 e
  · rcases key j d hj with ⟨e1, e2⟩ | ⟨e1, e2⟩
    · simp only [e1, if_true]
      exact hD.2 _ _ hnew
    · simp only [if_neg e1]
      exact z3 j d e2
end
section
/-! judgements of the abstract machine -/
/-- a method: name, code, locals, answer's type, frames, words of locals -/
abbrev am_M : Type := MethodName × ByteArray × Nat × Option FieldType × Nat × Nat
def am_L (lc : Array Slot) (n : Nat) (ls : List (Option Value)) (r : Nat → Nat) : Prop := ∃ lv : List (Nat × Value), lv_has lc n lv ∧ ∀ (k : Nat) (v : Value), ls[k]? = some (some v) → (k, am_v r v) ∈ lv ∧ v.category = 1
def am_E (P0 : Nat → Prop) (r0 : Nat → Nat) (N0 : Nat) (r : Nat → Nat) (h : am_H) : Prop := (∀ i, P0 i → r i = r0 i) ∧ (∀ i, P0 i → h[i]? ≠ some none) ∧ h.length = N0
/-- what holds all through a method -/
def am_X (M : am_M) (sc : Option (Nat × (Nat → Int32))) (p : Program) (R : Room) (s : State) (m : MethodId) (args : Array Value) (meth : Method) (c : Code) (D : va_G) (cy : Nat → ClassId) (A : Nat → Prop) (r0 : Nat → Nat) (P0 : Nat → Prop) : Prop :=
  p.tables.exec = Jvm.exec ∧ c.code = M.2.1 ∧ c.maxLocals = M.2.2.1 ∧ s.vm.findClass M.1.cls = some m.cls ∧ (∀ w ∈ am_T, w.before args s = true) ∧ am_K D cy s ∧ (∀ q, s.heap.size ≤ q → A q) ∧ R.frames = M.2.2.2.2.1 ∧ R.locals = M.2.2.2.2.2 ∧ (M.1.name = "<init>" → meth.name = "<init>") ∧
  match sc with
  | none => True
  | some q => P0 1000 ∧ va_X (r0 1000) q.1 q.2 s s.heap ∧ r0 1000 < s.heap.size ∧ ¬ A (r0 1000)
/-- a return's instruction -/
def am_ri (M : am_M) (pc : Nat) (v : Option Value) : Prop := match v with
  | none => decode M.2.1 pc = .ok (.return_, 1) ∧ M.2.2.2.1 = none
  | some (.int x) => decode M.2.1 pc = .ok (.ireturn, 1) ∧ ∃ ty, M.2.2.2.1 = some ty ∧ narrow ty (.int x) = .int x
  | some w => decode M.2.1 pc = .ok (.areturn, 1) ∧ (w = .null ∨ ∃ a, w = .ref a) ∧ ∃ C, M.2.2.2.1 = some (.object C)
def am_Rt (M : am_M) (Z : Option Value → am_H → Prop) (p : Program) (l : Launch) (e : Env) (R : Room) (s : State) (m : MethodId) (args : Array Value) (below : List Frame) (meth : Method) (c : Code) (Q : State → Prop) (D : va_G) (cy : Nat → ClassId) (A : Nat → Prop) (r0 : Nat → Nat) (P0 : Nat → Prop) (N0 : Nat) : Prop :=
  ∀ (v : Option Value) (h : am_H) (r : Nat → Nat) (H : Heap) (locs : List Loc) (cells slots : Nat) (lc : Array Slot) (pc : Nat), Z v h → am_Z D cy r h A H → va_S A s.heap H locs → am_E P0 r0 N0 r h → cells ≤ R.cells → slots ≤ R.slots → am_ri M pc v →
    W p l e R s m args below meth c H locs cells slots Q (F0 m pc lc (v.toList.map (am_v r)))
def am_Go (M : am_M) (p : Program) (l : Launch) (e : Env) (R : Room) (s : State) (m : MethodId) (args : Array Value) (below : List Frame) (meth : Method) (c : Code) (Q : State → Prop) (D : va_G) (cy : Nat → ClassId) (A : Nat → Prop) (r0 : Nat → Nat) (P0 : Nat → Prop) (N0 : Nat) (pc : Nat) (ls : List (Option Value)) (st : List Value) (h : am_H) (nc ns : Nat) : Prop :=
  ∀ (r : Nat → Nat) (H : Heap) (locs : List Loc) (cells slots : Nat) (lc : Array Slot), am_Z D cy r h A H → va_S A s.heap H locs → am_L lc M.2.2.1 ls r → am_E P0 r0 N0 r h → cells + nc ≤ R.cells ∧ slots + ns ≤ R.slots →
    W p l e R s m args below meth c H locs cells slots Q (F0 m pc lc (st.map (am_v r)))
/-- from this place in the method it comes to its end, with Z -/
def am_Ok (M : am_M) (sc : Option (Nat × (Nat → Int32))) (Z : Option Value → am_H → Prop) (nc ns : Nat) (pc : Nat) (ls : List (Option Value)) (st : List Value) (h : am_H) : Prop :=
  ∀ (p : Program) (l : Launch) (e : Env) (R : Room) (s : State) (m : MethodId) (args : Array Value) (below : List Frame) (meth : Method) (c : Code) (Q : State → Prop) (D : va_G) (cy : Nat → ClassId) (A : Nat → Prop) (r0 : Nat → Nat) (P0 : Nat → Prop) (N0 : Nat),
    am_X M sc p R s m args meth c D cy A r0 P0 → am_Rt M Z p l e R s m args below meth c Q D cy A r0 P0 N0 → am_Go M p l e R s m args below meth c Q D cy A r0 P0 N0 pc ls st h nc ns
section AMR
variable {M : am_M} {sc : Option (Nat × (Nat → Int32))} {Z : Option Value → am_H → Prop} {nc ns pc : Nat} {ls : List (Option Value)} {st st' : List Value} {h : am_H}
/-- a step that leaves heap and locals -/
theorem am_pure {pc' : Nat} (w : ∀ {p : Program} {l : Launch} {e : Env} {R : Room} {s : State} {m : MethodId} {args : Array Value} {below : List Frame} {meth : Method} {c : Code} {Q : State → Prop} {H : Heap} {locs : List Loc} {cells slots : Nat} {lc : Array Slot} (r : Nat → Nat), p.tables.exec = Jvm.exec → c.code = M.2.1 → s.vm.findClass M.1.cls = some m.cls → (∀ w ∈ am_T, w.before args s = true) → (∀ (k : Nat) (v : Value), ls[k]? = some (some v) → lc[k]? = some (.val (am_v r v))) →
    W p l e R s m args below meth c H locs cells slots Q (F0 m pc' lc (st'.map (am_v r))) → W p l e R s m args below meth c H locs cells slots Q (F0 m pc lc (st.map (am_v r)))) (k : am_Ok M sc Z nc ns pc' ls st' h) : am_Ok M sc Z nc ns pc ls st h := by
  intro p l e R s m args below meth c Q D cy A r0 P0 N0 X hR r H locs cells slots lc hZ hS hL hE hN
  obtain ⟨lv, hl, hv⟩ := id hL
  exact w r X.1 X.2.1 X.2.2.2.1 X.2.2.2.2.1 (fun k v hk => hl.2.2 _ (hv k v hk).1) (k p l e R s m args below meth c Q D cy A r0 P0 N0 X hR r H locs cells slots lc hZ hS hL hE hN)
theorem am_iconst {n : Int} {v : Int32} (hd : decode M.2.1 pc = .ok (.iconst n, 1)) (hv : Int32.ofInt n = v) (k : am_Ok M sc Z nc ns (pc + 1) ls (.int v :: st) h) : am_Ok M sc Z nc ns pc ls st h := am_pure (fun r hx hb ho ht hl w => lv_iconst hx hb hd hv w) k
theorem am_bipush {n : Int} {v : Int32} (hd : decode M.2.1 pc = .ok (.bipush n, 2)) (hv : (Int8.ofInt n).toInt32 = v) (k : am_Ok M sc Z nc ns (pc + 2) ls (.int v :: st) h) : am_Ok M sc Z nc ns pc ls st h := am_pure (fun r hx hb ho ht hl w => lv_bipush hx hb hd hv w) k
theorem am_sipush {n : Int} {v : Int32} (hd : decode M.2.1 pc = .ok (.sipush n, 3)) (hv : (Int16.ofInt n).toInt32 = v) (k : am_Ok M sc Z nc ns (pc + 3) ls (.int v :: st) h) : am_Ok M sc Z nc ns pc ls st h := am_pure (fun r hx hb ho ht hl w => lv_sipush hx hb hd hv w) k
theorem am_ldc {i : Nat} {v : Int32} (hd : decode M.2.1 pc = .ok (.ldc i, 2)) (hc : Cond.constant M.1.cls i v ∈ am_T) (k : am_Ok M sc Z nc ns (pc + 2) ls (.int v :: st) h) : am_Ok M sc Z nc ns pc ls st h := am_pure (fun r hx hb ho ht hl w => lv_ldc hx hb ho (ht _ hc) hd w) k
theorem am_ldcw {i : Nat} {v : Int32} (hd : decode M.2.1 pc = .ok (.ldc_w i, 3)) (hc : Cond.constant M.1.cls i v ∈ am_T) (k : am_Ok M sc Z nc ns (pc + 3) ls (.int v :: st) h) : am_Ok M sc Z nc ns pc ls st h := am_pure (fun r hx hb ho ht hl w => lv_ldcw hx hb ho (ht _ hc) hd w) k
theorem am_iload_n {i : Fin 4} {x : Int32} (hd : decode M.2.1 pc = .ok (.iload_n i, 1)) (hl : ls[(i : Nat)]? = some (some (.int x))) (k : am_Ok M sc Z nc ns (pc + 1) ls (.int x :: st) h) : am_Ok M sc Z nc ns pc ls st h := am_pure (fun r hx hb ho ht hg w => lv_iload_n hx hb hd rfl (hg _ _ hl) w) k
theorem am_iload {i : Nat} {x : Int32} (hd : decode M.2.1 pc = .ok (.iload i, 2)) (hl : ls[i]? = some (some (.int x))) (k : am_Ok M sc Z nc ns (pc + 2) ls (.int x :: st) h) : am_Ok M sc Z nc ns pc ls st h := am_pure (fun r hx hb ho ht hg w => lv_iload hx hb hd (hg _ _ hl) w) k
theorem am_aload_n {i : Fin 4} {x : Nat} (hd : decode M.2.1 pc = .ok (.aload_n i, 1)) (hl : ls[(i : Nat)]? = some (some (.ref x))) (k : am_Ok M sc Z nc ns (pc + 1) ls (.ref x :: st) h) : am_Ok M sc Z nc ns pc ls st h := am_pure (fun r hx hb ho ht hg w => lv_aload_n hx hb hd rfl (hg _ _ hl) w) k
theorem am_aload {i : Nat} {x : Nat} (hd : decode M.2.1 pc = .ok (.aload i, 2)) (hl : ls[i]? = some (some (.ref x))) (k : am_Ok M sc Z nc ns (pc + 2) ls (.ref x :: st) h) : am_Ok M sc Z nc ns pc ls st h := am_pure (fun r hx hb ho ht hg w => lv_aload hx hb hd (hg _ _ hl) w) k
theorem am_aload_nN {i : Fin 4} (hd : decode M.2.1 pc = .ok (.aload_n i, 1)) (hl : ls[(i : Nat)]? = some (some .null)) (k : am_Ok M sc Z nc ns (pc + 1) ls (.null :: st) h) : am_Ok M sc Z nc ns pc ls st h := am_pure (fun r hx hb ho ht hg w => lv_aload_nN hx hb hd rfl (hg _ _ hl) w) k
theorem am_iadd {x y : Int32} (hd : decode M.2.1 pc = .ok (.iadd, 1)) (k : am_Ok M sc Z nc ns (pc + 1) ls (.int (x + y) :: st) h) : am_Ok M sc Z nc ns pc ls (.int y :: .int x :: st) h := am_pure (fun r hx hb ho ht hg w => lv_iadd hx hb hd w) k
theorem am_isub {x y : Int32} (hd : decode M.2.1 pc = .ok (.isub, 1)) (k : am_Ok M sc Z nc ns (pc + 1) ls (.int (x - y) :: st) h) : am_Ok M sc Z nc ns pc ls (.int y :: .int x :: st) h := am_pure (fun r hx hb ho ht hg w => lv_isub hx hb hd w) k
theorem am_imul {x y : Int32} (hd : decode M.2.1 pc = .ok (.imul, 1)) (k : am_Ok M sc Z nc ns (pc + 1) ls (.int (x * y) :: st) h) : am_Ok M sc Z nc ns pc ls (.int y :: .int x :: st) h := am_pure (fun r hx hb ho ht hg w => lv_imul hx hb hd w) k
theorem am_iand {x y : Int32} (hd : decode M.2.1 pc = .ok (.iand, 1)) (k : am_Ok M sc Z nc ns (pc + 1) ls (.int (x &&& y) :: st) h) : am_Ok M sc Z nc ns pc ls (.int y :: .int x :: st) h := am_pure (fun r hx hb ho ht hg w => lv_iand hx hb hd w) k
theorem am_ior {x y : Int32} (hd : decode M.2.1 pc = .ok (.ior, 1)) (k : am_Ok M sc Z nc ns (pc + 1) ls (.int (x ||| y) :: st) h) : am_Ok M sc Z nc ns pc ls (.int y :: .int x :: st) h := am_pure (fun r hx hb ho ht hg w => lv_ior hx hb hd w) k
theorem am_ixor {x y : Int32} (hd : decode M.2.1 pc = .ok (.ixor, 1)) (k : am_Ok M sc Z nc ns (pc + 1) ls (.int (x ^^^ y) :: st) h) : am_Ok M sc Z nc ns pc ls (.int y :: .int x :: st) h := am_pure (fun r hx hb ho ht hg w => lv_ixor hx hb hd w) k
theorem am_idiv {x y : Int32} (hd : decode M.2.1 pc = .ok (.idiv, 1)) (hy : ¬ y = 0) (k : am_Ok M sc Z nc ns (pc + 1) ls (.int (x / y) :: st) h) : am_Ok M sc Z nc ns pc ls (.int y :: .int x :: st) h := am_pure (fun r hx hb ho ht hg w => lv_idiv hx hb hd hy w) k
theorem am_irem {x y : Int32} (hd : decode M.2.1 pc = .ok (.irem, 1)) (hy : ¬ y = 0) (k : am_Ok M sc Z nc ns (pc + 1) ls (.int (x - x / y * y) :: st) h) : am_Ok M sc Z nc ns pc ls (.int y :: .int x :: st) h := am_pure (fun r hx hb ho ht hg w => lv_irem hx hb hd hy w) k
theorem am_ineg {x : Int32} (hd : decode M.2.1 pc = .ok (.ineg, 1)) (k : am_Ok M sc Z nc ns (pc + 1) ls (.int (-x) :: st) h) : am_Ok M sc Z nc ns pc ls (.int x :: st) h := am_pure (fun r hx hb ho ht hg w => lv_ineg hx hb hd w) k
theorem am_ishl {x y : Int32} (hd : decode M.2.1 pc = .ok (.ishl, 1)) (k : am_Ok M sc Z nc ns (pc + 1) ls (.int (x <<< (y &&& 31)) :: st) h) : am_Ok M sc Z nc ns pc ls (.int y :: .int x :: st) h := am_pure (fun r hx hb ho ht hg w => lv_ishl hx hb hd w) k
theorem am_ishr {x y : Int32} (hd : decode M.2.1 pc = .ok (.ishr, 1)) (k : am_Ok M sc Z nc ns (pc + 1) ls (.int (x >>> (y &&& 31)) :: st) h) : am_Ok M sc Z nc ns pc ls (.int y :: .int x :: st) h := am_pure (fun r hx hb ho ht hg w => lv_ishr hx hb hd w) k
theorem am_iushr {x y : Int32} (hd : decode M.2.1 pc = .ok (.iushr, 1)) (k : am_Ok M sc Z nc ns (pc + 1) ls (.int ((x.toUInt32 >>> (y.toUInt32 &&& Int32.toUInt32 31)).toInt32) :: st) h) : am_Ok M sc Z nc ns pc ls (.int y :: .int x :: st) h := am_pure (fun r hx hb ho ht hg w => lv_iushr hx hb hd rfl w) k
theorem am_v_cat (r : Nat → Nat) (v : Value) : (am_v r v).category = v.category := by cases v <;> rfl
theorem am_dup {v : Value} (hd : decode M.2.1 pc = .ok (.dup, 1)) (hv : v.category = 1) (k : am_Ok M sc Z nc ns (pc + 1) ls (v :: v :: st) h) : am_Ok M sc Z nc ns pc ls (v :: st) h := am_pure (fun r hx hb ho ht hg w => lv_dup hx hb hd (by rw [am_v_cat]; exact hv) w) k
theorem am_dup2 {u v : Value} (hd : decode M.2.1 pc = .ok (.dup2, 1)) (hu : u.category = 1) (hv : v.category = 1) (k : am_Ok M sc Z nc ns (pc + 1) ls (u :: v :: u :: v :: st) h) : am_Ok M sc Z nc ns pc ls (u :: v :: st) h := am_pure (fun r hx hb ho ht hg w => lv_dup2_11 hx hb hd (by rw [am_v_cat]; exact hu) (by rw [am_v_cat]; exact hv) w) k
theorem am_pop {v : Value} (hd : decode M.2.1 pc = .ok (.pop, 1)) (hv : v.category = 1) (k : am_Ok M sc Z nc ns (pc + 1) ls st h) : am_Ok M sc Z nc ns pc ls (v :: st) h := am_pure (fun r hx hb ho ht hg w => lv_pop hx hb hd (by rw [am_v_cat]; exact hv) w) k
theorem am_goto {off : Int} (tgt : Nat) (hd : decode M.2.1 pc = .ok (.goto off, 3)) (ht : (pc : Int) + off = (tgt : Int)) (k : am_Ok M sc Z nc ns tgt ls st h) : am_Ok M sc Z nc ns pc ls st h := am_pure (fun r hx hb ho hh hg w => lv_goto hx hb hd ht w) k
theorem am_ifnull {x : Nat} {off : Int} (hd : decode M.2.1 pc = .ok (.ifnull off, 3)) (k : am_Ok M sc Z nc ns (pc + 3) ls st h) : am_Ok M sc Z nc ns pc ls (.ref x :: st) h := am_pure (fun r hx hb ho ht hg w => lv_ifnull hx hb hd w) k
theorem am_ifnullN {off : Int} (tgt : Nat) (hd : decode M.2.1 pc = .ok (.ifnull off, 3)) (ht : (pc : Int) + off = (tgt : Int)) (k : am_Ok M sc Z nc ns tgt ls st h) : am_Ok M sc Z nc ns pc ls (.null :: st) h := am_pure (fun r hx hb ho hh hg w => lv_ifnullN hx hb hd ht w) k
theorem am_ifnonnull {x : Nat} {off : Int} (tgt : Nat) (hd : decode M.2.1 pc = .ok (.ifnonnull off, 3)) (ht : (pc : Int) + off = (tgt : Int)) (k : am_Ok M sc Z nc ns tgt ls st h) : am_Ok M sc Z nc ns pc ls (.ref x :: st) h := am_pure (fun r hx hb ho hh hg w => lv_ifnonnull hx hb hd ht w) k
theorem am_ifnonnullN {off : Int} (hd : decode M.2.1 pc = .ok (.ifnonnull off, 3)) (k : am_Ok M sc Z nc ns (pc + 3) ls st h) : am_Ok M sc Z nc ns pc ls (.null :: st) h := am_pure (fun r hx hb ho ht hg w => lv_ifnonnullN hx hb hd w) k
/-- a branch -/
theorem am_br {pc1 pc2 : Nat} {C : Prop} (w : ∀ {p : Program} {l : Launch} {e : Env} {R : Room} {s : State} {m : MethodId} {args : Array Value} {below : List Frame} {meth : Method} {c : Code} {Q : State → Prop} {H : Heap} {locs : List Loc} {cells slots : Nat} {lc : Array Slot} (r : Nat → Nat), p.tables.exec = Jvm.exec → c.code = M.2.1 →
    (C → W p l e R s m args below meth c H locs cells slots Q (F0 m pc1 lc (st'.map (am_v r)))) → (¬ C → W p l e R s m args below meth c H locs cells slots Q (F0 m pc2 lc (st'.map (am_v r)))) → W p l e R s m args below meth c H locs cells slots Q (F0 m pc lc (st.map (am_v r)))) (k1 : C → am_Ok M sc Z nc ns pc1 ls st' h) (k2 : ¬ C → am_Ok M sc Z nc ns pc2 ls st' h) : am_Ok M sc Z nc ns pc ls st h := by
  intro p l e R s m args below meth c Q D cy A r0 P0 N0 X hR r H locs cells slots lc hZ hS hL hE hN
  exact w r X.1 X.2.1 (fun hc => k1 hc p l e R s m args below meth c Q D cy A r0 P0 N0 X hR r H locs cells slots lc hZ hS hL hE hN) (fun hc => k2 hc p l e R s m args below meth c Q D cy A r0 P0 N0 X hR r H locs cells slots lc hZ hS hL hE hN)
theorem am_icmp_eq {x y : Int32} {off : Int} (tgt : Nat) (hd : decode M.2.1 pc = .ok (.if_icmp .eq off, 3)) (ht : (pc : Int) + off = (tgt : Int)) (k1 : x = y → am_Ok M sc Z nc ns tgt ls st h) (k2 : ¬ x = y → am_Ok M sc Z nc ns (pc + 3) ls st h) : am_Ok M sc Z nc ns pc ls (.int y :: .int x :: st) h := am_br (fun r hx hb w1 w2 => lv_icmp_eq hx hb hd ht w1 w2) k1 k2
theorem am_icmp_ne {x y : Int32} {off : Int} (tgt : Nat) (hd : decode M.2.1 pc = .ok (.if_icmp .ne off, 3)) (ht : (pc : Int) + off = (tgt : Int)) (k1 : x = y → am_Ok M sc Z nc ns (pc + 3) ls st h) (k2 : ¬ x = y → am_Ok M sc Z nc ns tgt ls st h) : am_Ok M sc Z nc ns pc ls (.int y :: .int x :: st) h := am_br (fun r hx hb w1 w2 => lv_icmp_ne hx hb hd ht w2 w1) k1 k2
theorem am_icmp_lt {x y : Int32} {off : Int} (tgt : Nat) (hd : decode M.2.1 pc = .ok (.if_icmp .lt off, 3)) (ht : (pc : Int) + off = (tgt : Int)) (k1 : x < y → am_Ok M sc Z nc ns tgt ls st h) (k2 : ¬ x < y → am_Ok M sc Z nc ns (pc + 3) ls st h) : am_Ok M sc Z nc ns pc ls (.int y :: .int x :: st) h := am_br (fun r hx hb w1 w2 => lv_icmp_lt hx hb hd ht w1 w2) k1 k2
theorem am_icmp_ge {x y : Int32} {off : Int} (tgt : Nat) (hd : decode M.2.1 pc = .ok (.if_icmp .ge off, 3)) (ht : (pc : Int) + off = (tgt : Int)) (k1 : y ≤ x → am_Ok M sc Z nc ns tgt ls st h) (k2 : ¬ y ≤ x → am_Ok M sc Z nc ns (pc + 3) ls st h) : am_Ok M sc Z nc ns pc ls (.int y :: .int x :: st) h := am_br (fun r hx hb w1 w2 => lv_icmp_ge hx hb hd ht w1 w2) k1 k2
theorem am_icmp_gt {x y : Int32} {off : Int} (tgt : Nat) (hd : decode M.2.1 pc = .ok (.if_icmp .gt off, 3)) (ht : (pc : Int) + off = (tgt : Int)) (k1 : y < x → am_Ok M sc Z nc ns tgt ls st h) (k2 : ¬ y < x → am_Ok M sc Z nc ns (pc + 3) ls st h) : am_Ok M sc Z nc ns pc ls (.int y :: .int x :: st) h := am_br (fun r hx hb w1 w2 => lv_icmp_gt hx hb hd ht w1 w2) k1 k2
theorem am_icmp_le {x y : Int32} {off : Int} (tgt : Nat) (hd : decode M.2.1 pc = .ok (.if_icmp .le off, 3)) (ht : (pc : Int) + off = (tgt : Int)) (k1 : x ≤ y → am_Ok M sc Z nc ns tgt ls st h) (k2 : ¬ x ≤ y → am_Ok M sc Z nc ns (pc + 3) ls st h) : am_Ok M sc Z nc ns pc ls (.int y :: .int x :: st) h := am_br (fun r hx hb w1 w2 => lv_icmp_le hx hb hd ht w1 w2) k1 k2
theorem am_if_eq {x : Int32} {off : Int} (tgt : Nat) (hd : decode M.2.1 pc = .ok (.ifCond .eq off, 3)) (ht : (pc : Int) + off = (tgt : Int)) (k1 : x = 0 → am_Ok M sc Z nc ns tgt ls st h) (k2 : ¬ x = 0 → am_Ok M sc Z nc ns (pc + 3) ls st h) : am_Ok M sc Z nc ns pc ls (.int x :: st) h := am_br (fun r hx hb w1 w2 => lv_if_eq hx hb hd ht w1 w2) k1 k2
theorem am_if_ne {x : Int32} {off : Int} (tgt : Nat) (hd : decode M.2.1 pc = .ok (.ifCond .ne off, 3)) (ht : (pc : Int) + off = (tgt : Int)) (k1 : x = 0 → am_Ok M sc Z nc ns (pc + 3) ls st h) (k2 : ¬ x = 0 → am_Ok M sc Z nc ns tgt ls st h) : am_Ok M sc Z nc ns pc ls (.int x :: st) h := am_br (fun r hx hb w1 w2 => lv_if_ne hx hb hd ht w2 w1) k1 k2
theorem am_if_lt {x : Int32} {off : Int} (tgt : Nat) (hd : decode M.2.1 pc = .ok (.ifCond .lt off, 3)) (ht : (pc : Int) + off = (tgt : Int)) (k1 : x < 0 → am_Ok M sc Z nc ns tgt ls st h) (k2 : ¬ x < 0 → am_Ok M sc Z nc ns (pc + 3) ls st h) : am_Ok M sc Z nc ns pc ls (.int x :: st) h := am_br (fun r hx hb w1 w2 => lv_if_lt hx hb hd ht w1 w2) k1 k2
theorem am_if_ge {x : Int32} {off : Int} (tgt : Nat) (hd : decode M.2.1 pc = .ok (.ifCond .ge off, 3)) (ht : (pc : Int) + off = (tgt : Int)) (k1 : 0 ≤ x → am_Ok M sc Z nc ns tgt ls st h) (k2 : ¬ 0 ≤ x → am_Ok M sc Z nc ns (pc + 3) ls st h) : am_Ok M sc Z nc ns pc ls (.int x :: st) h := am_br (fun r hx hb w1 w2 => lv_if_ge hx hb hd ht w1 w2) k1 k2
theorem am_if_gt {x : Int32} {off : Int} (tgt : Nat) (hd : decode M.2.1 pc = .ok (.ifCond .gt off, 3)) (ht : (pc : Int) + off = (tgt : Int)) (k1 : 0 < x → am_Ok M sc Z nc ns tgt ls st h) (k2 : ¬ 0 < x → am_Ok M sc Z nc ns (pc + 3) ls st h) : am_Ok M sc Z nc ns pc ls (.int x :: st) h := am_br (fun r hx hb w1 w2 => lv_if_gt hx hb hd ht w1 w2) k1 k2
theorem am_if_le {x : Int32} {off : Int} (tgt : Nat) (hd : decode M.2.1 pc = .ok (.ifCond .le off, 3)) (ht : (pc : Int) + off = (tgt : Int)) (k1 : x ≤ 0 → am_Ok M sc Z nc ns tgt ls st h) (k2 : ¬ x ≤ 0 → am_Ok M sc Z nc ns (pc + 3) ls st h) : am_Ok M sc Z nc ns pc ls (.int x :: st) h := am_br (fun r hx hb w1 w2 => lv_if_le hx hb hd ht w1 w2) k1 k2
/-- returns -/
theorem am_ret {v : Option Value} (hst : v.toList = st) (hi : am_ri M pc v) (hz : Z v h) : am_Ok M sc Z nc ns pc ls st h := by
  intro p l e R s m args below meth c Q D cy A r0 P0 N0 X hR r H locs cells slots lc hZ hS hL hE hN
  subst hst
  exact hR v h r H locs cells slots lc pc hz hZ hS hE (by omega) (by omega) hi
theorem am_ireturn {x : Int32} (hd : decode M.2.1 pc = .ok (.ireturn, 1)) (ht : M.2.2.2.1 = some .int) (hz : Z (some (.int x)) h) : am_Ok M sc Z nc ns pc ls [.int x] h := am_ret (v := some (.int x)) rfl ⟨hd, .int, ht, rfl⟩ hz
theorem am_zreturn {x : Int32} (hd : decode M.2.1 pc = .ok (.ireturn, 1)) (ht : M.2.2.2.1 = some .boolean) (hx : narrow .boolean (.int x) = .int x) (hz : Z (some (.int x)) h) : am_Ok M sc Z nc ns pc ls [.int x] h := am_ret (v := some (.int x)) rfl ⟨hd, .boolean, ht, hx⟩ hz
theorem am_vreturn (hd : decode M.2.1 pc = .ok (.return_, 1)) (ht : M.2.2.2.1 = none) (hz : Z none h) : am_Ok M sc Z nc ns pc ls [] h := am_ret (v := none) rfl ⟨hd, ht⟩ hz
theorem am_areturn {x : Nat} {C : String} (hd : decode M.2.1 pc = .ok (.areturn, 1)) (ht : M.2.2.2.1 = some (.object C)) (hz : Z (some (.ref x)) h) : am_Ok M sc Z nc ns pc ls [.ref x] h := am_ret (v := some (.ref x)) rfl ⟨hd, Or.inr ⟨x, rfl⟩, C, ht⟩ hz
/-- stores into a local -/
theorem am_store {pc' i : Nat} {v : Value} (hi : i < M.2.2.1) (hls : ls.length = M.2.2.1) (hv : v.category = 1)
    (w : ∀ {p : Program} {l : Launch} {e : Env} {R : Room} {s : State} {m : MethodId} {args : Array Value} {below : List Frame} {meth : Method} {c : Code} {Q : State → Prop} {H : Heap} {locs : List Loc} {cells slots : Nat} {lc : Array Slot} (r : Nat → Nat) (lv : List (Nat × Value)), p.tables.exec = Jvm.exec → c.code = M.2.1 → lv_has lc M.2.2.1 lv → (∀ (k : Nat) (v : Value), ls[k]? = some (some v) → (k, am_v r v) ∈ lv) →
      (∀ lc' : Array Slot, lv_has lc' M.2.2.1 ((i, am_v r v) :: lv.filter (fun q => !(q.1 == i) && !(q.1 + 1 == i && q.2.category == 2))) → W p l e R s m args below meth c H locs cells slots Q (F0 m pc' lc' (st'.map (am_v r)))) → W p l e R s m args below meth c H locs cells slots Q (F0 m pc lc (st.map (am_v r)))) (k : am_Ok M sc Z nc ns pc' (ls.set i (some v)) st' h) : am_Ok M sc Z nc ns pc ls st h := by
  intro p l e R s m args below meth c Q D cy A r0 P0 N0 X hR r H locs cells slots lc hZ hS hL hE hN
  obtain ⟨lv, hl, hlv⟩ := id hL
  refine w r lv X.1 X.2.1 hl (fun k v hk => (hlv k v hk).1) (fun lc' hl' => ?_)
  refine k p l e R s m args below meth c Q D cy A r0 P0 N0 X hR r H locs cells slots lc' hZ hS ⟨_, hl', fun j u hj => ?_⟩ hE hN
  by_cases e : j = i
  · subst e
    rw [List.getElem?_set_self (by omega)] at hj
    have e2 : v = u := Option.some.inj (Option.some.inj hj)
    subst e2
    exact ⟨List.mem_cons_self, hv⟩
  · rw [List.getElem?_set_ne (Ne.symm e)] at hj
    obtain ⟨h1, h2⟩ := hlv j u hj
    refine ⟨List.mem_cons_of_mem _ (List.mem_filter.mpr ⟨h1, ?_⟩), h2⟩
    have hc : (am_v r u).category = 1 := by rw [am_v_cat]; exact h2
    simp [e, hc]
theorem am_istore_n {i : Fin 4} {x : Int32} (hd : decode M.2.1 pc = .ok (.istore_n i, 1)) (hi : (i : Nat) < M.2.2.1) (hls : ls.length = M.2.2.1) (k : am_Ok M sc Z nc ns (pc + 1) (ls.set i (some (.int x))) st h) : am_Ok M sc Z nc ns pc ls (.int x :: st) h := am_store (i := (i : Nat)) (v := .int x) hi hls rfl (fun r lv hx hb hl hm w => lv_istore_n hx hb hd rfl hl hi rfl w) k
theorem am_istore {i : Nat} {x : Int32} (hd : decode M.2.1 pc = .ok (.istore i, 2)) (hi : i < M.2.2.1) (hls : ls.length = M.2.2.1) (k : am_Ok M sc Z nc ns (pc + 2) (ls.set i (some (.int x))) st h) : am_Ok M sc Z nc ns pc ls (.int x :: st) h := am_store (i := i) (v := .int x) hi hls rfl (fun r lv hx hb hl hm w => lv_istore hx hb hd hl hi rfl w) k
theorem am_astore_n {i : Fin 4} {x : Nat} (hd : decode M.2.1 pc = .ok (.astore_n i, 1)) (hi : (i : Nat) < M.2.2.1) (hls : ls.length = M.2.2.1) (k : am_Ok M sc Z nc ns (pc + 1) (ls.set i (some (.ref x))) st h) : am_Ok M sc Z nc ns pc ls (.ref x :: st) h := am_store (i := (i : Nat)) (v := .ref x) hi hls rfl (fun r lv hx hb hl hm w => lv_astore_n hx hb hd rfl hl hi rfl w) k
theorem am_astore {i : Nat} {x : Nat} (hd : decode M.2.1 pc = .ok (.astore i, 2)) (hi : i < M.2.2.1) (hls : ls.length = M.2.2.1) (k : am_Ok M sc Z nc ns (pc + 2) (ls.set i (some (.ref x))) st h) : am_Ok M sc Z nc ns pc ls (.ref x :: st) h := am_store (i := i) (v := .ref x) hi hls rfl (fun r lv hx hb hl hm w => lv_astore hx hb hd hl hi rfl w) k
theorem am_astore_nN {i : Fin 4} (hd : decode M.2.1 pc = .ok (.astore_n i, 1)) (hi : (i : Nat) < M.2.2.1) (hls : ls.length = M.2.2.1) (k : am_Ok M sc Z nc ns (pc + 1) (ls.set i (some .null)) st h) : am_Ok M sc Z nc ns pc ls (.null :: st) h := am_store (i := (i : Nat)) (v := .null) hi hls rfl (fun r lv hx hb hl hm w => lv_astore_nN hx hb hd rfl hl hi rfl w) k
theorem am_iinc {i : Nat} {n : Int} {x v : Int32} (hd : decode M.2.1 pc = .ok (.iinc i n, 3)) (hi : i < M.2.2.1) (hls : ls.length = M.2.2.1) (hl : ls[i]? = some (some (.int x))) (hv : x + Int32.ofInt n = v) (k : am_Ok M sc Z nc ns (pc + 3) (ls.set i (some (.int v))) st h) : am_Ok M sc Z nc ns pc ls st h := am_store (i := i) (v := .int v) hi hls rfl (fun r lv hx hb hl2 hm w => by
  obtain ⟨q, hq⟩ := List.getElem?_of_mem (hm i (.int x) hl)
  exact lv_iinc hx hb hd hl2 hq hv hi rfl w) k
end AMR
end
section
/-! rules that read and write cells, and make them -/
/-- a class of the tables -/
def am_cls (ci : Nat) (C : String) (T : u_T) (N : Nat) (ty : Nat → FieldType) : Prop := vwCl[ci]? = some (C, T, N) ∧ (∀ w ∈ u_ws C T N, w ∈ am_T) ∧ (∀ k, k < N → parseFieldDescriptor (T k).2.2.1 = some (ty k)) ∧ (∀ a, a < N → ∀ b, b < N → a ≠ b → (T a).2.1 ≠ (T b).2.1)
/-- a field's link: index in the class's pool, class number, slot -/
def am_fl (own : String) (idx ci k : Nat) : Prop := ∃ (C : String) (T : u_T) (N : Nat) (ty : Nat → FieldType), am_cls ci C T N ty ∧ k < N ∧ (T k).1 = C ∧ (Cond.fieldLink own idx C (T k).2.1 (T k).2.2.1 ∈ am_T ∨ ∃ host, Cond.fieldLinkNest own idx C (T k).2.1 (T k).2.2.1 host ∈ am_N)
/-- .. to be written: type, final -/
def am_fp (own : String) (idx ci k : Nat) (ft : FieldType) (fin : Bool) : Prop := ∃ (C : String) (T : u_T) (N : Nat) (ty : Nat → FieldType), am_cls ci C T N ty ∧ k < N ∧ (T k).1 = C ∧ ty k = ft ∧ (T k).2.2.2 = fin ∧ ((Cond.fieldLink own idx C (T k).2.1 (T k).2.2.1 ∈ am_T ∧ (fin = true → C = own)) ∨ (fin = false ∧ ∃ host, Cond.fieldLinkNest own idx C (T k).2.1 (T k).2.2.1 host ∈ am_N))
section AMH
variable {M : am_M} {sc : Option (Nat × (Nat → Int32))} {Z : Option Value → am_H → Prop} {nc ns pc : Nat} {ls : List (Option Value)} {st st' : List Value} {h : am_H}
/-- a step that reads the heap -/
theorem am_read {pc' : Nat} (w : ∀ {p : Program} {l : Launch} {e : Env} {R : Room} {s : State} {m : MethodId} {args : Array Value} {below : List Frame} {meth : Method} {c : Code} {Q : State → Prop} {H : Heap} {locs : List Loc} {cells slots : Nat} {lc : Array Slot} {D : va_G} {cy : Nat → ClassId} (r : Nat → Nat) (ws : va_W), p.tables.exec = Jvm.exec → c.code = M.2.1 → s.vm.findClass M.1.cls = some m.cls → (∀ w ∈ am_T, w.before args s = true) → am_K D cy s → va_P D vwCl ws H → (∀ (k : Nat) (c : am_C), h[k]? = some (some c) → ∃ q : Nat, ws[q]? = some (r k, am_e cy r c)) →
    W p l e R s m args below meth c H locs cells slots Q (F0 m pc' lc (st'.map (am_v r))) → W p l e R s m args below meth c H locs cells slots Q (F0 m pc lc (st.map (am_v r)))) (k : am_Ok M sc Z nc ns pc' ls st' h) : am_Ok M sc Z nc ns pc ls st h := by
  intro p l e R s m args below meth c Q D cy A r0 P0 N0 X hR r H locs cells slots lc hZ hS hL hE hN
  obtain ⟨ws, hP, hD, cov⟩ := hZ.toW
  exact w r ws X.1 X.2.1 X.2.2.2.1 X.2.2.2.2.1 X.2.2.2.2.2.1 hP cov (k p l e R s m args below meth c Q D cy A r0 P0 N0 X hR r H locs cells slots lc hZ hS hL hE hN)
theorem am_getf {idx q ci i : Nat} {fs : List Value} {v : Value} (hd : decode M.2.1 pc = .ok (.getfield idx, 3)) (hf : am_fl M.1.cls idx ci i) (hq : h[q]? = some (some (.inr (.inr (ci, fs))))) (hv : fs[i]? = some v) (k : am_Ok M sc Z nc ns (pc + 3) ls (v :: st) h) : am_Ok M sc Z nc ns pc ls (.ref q :: st) h := by
  obtain ⟨C, T, N, ty, ⟨h1, h2, h3, h4⟩, h5, h6, h7⟩ := hf
  refine am_read (fun {p l e R s m args below meth c Q H locs cells slots lc D cy} r ws hx hb ho ht hK hP cov w => ?_) k
  obtain ⟨q0, hq0⟩ := cov q _ hq
  have hv' : (fs.map (am_v r))[i]? = some (am_v r v) := by rw [List.getElem?_map, hv]; rfl
  rcases h7 with h7 | ⟨host, h7⟩
  · exact va_get hx hb ht h2 ho hK.1 hP q0 hq0 h1 i h5 (ht _ h7) (fun x hx => by rw [h6] at hx; exact hx) hv' hd w
  · exact va_getN hx hb ht h2 ho hK.1 hP q0 hq0 h1 i h5 (va_Nw.use rfl (hK.2.1 _ h7)) (fun x hx => by rw [h6] at hx; exact hx) hv' hd w
theorem am_iaload {q n : Nat} {f : Nat → Int32} {i : Int32} (hd : decode M.2.1 pc = .ok (.iaload, 1)) (hq : h[q]? = some (some (.inl (0, n, f)))) (hi : vp_in i n) (k : am_Ok M sc Z nc ns (pc + 1) ls (.int (f i.toNatClampNeg) :: st) h) : am_Ok M sc Z nc ns pc ls (.int i :: .ref q :: st) h := by
  refine am_read (fun {p l e R s m args below meth c Q H locs cells slots lc D cy} r ws hx hb ho ht hK hP cov w => ?_) k
  obtain ⟨q0, hq0⟩ := cov q _ hq
  exact va_iald hx hb hK.1 hP q0 0 hq0 rfl hi hd w
theorem am_baload {q n : Nat} {f : Nat → Int32} {i : Int32} (hd : decode M.2.1 pc = .ok (.baload, 1)) (hq : h[q]? = some (some (.inl (1, n, f)))) (hi : vp_in i n) (k : am_Ok M sc Z nc ns (pc + 1) ls (.int (f i.toNatClampNeg) :: st) h) : am_Ok M sc Z nc ns pc ls (.int i :: .ref q :: st) h := by
  refine am_read (fun {p l e R s m args below meth c Q H locs cells slots lc D cy} r ws hx hb ho ht hK hP cov w => ?_) k
  obtain ⟨q0, hq0⟩ := cov q _ hq
  exact va_zald hx hb hK.1 hP q0 1 hq0 rfl hi hd w
theorem am_alen {q n t : Nat} {f : Nat → Int32} {v : Int32} (hd : decode M.2.1 pc = .ok (.arraylength, 1)) (hq : h[q]? = some (some (.inl (0, n, f)))) (hv : Int32.ofNat n = v) (k : am_Ok M sc Z nc ns (pc + 1) ls (.int v :: st) h) : am_Ok M sc Z nc ns pc ls (.ref q :: st) h := by
  refine am_read (fun {p l e R s m args below meth c Q H locs cells slots lc D cy} r ws hx hb ho ht hK hP cov w => ?_) k
  obtain ⟨q0, hq0⟩ := cov q _ hq
  exact va_alen hx hb hK.1 hP q0 0 hq0 rfl hv hd w
def am_rf (o : Option Nat) : Value := match o with
  | none => .null
  | some i => .ref i
theorem am_aaload {q : Nat} {l : List (Option Nat)} {i : Int32} {o : Option Nat} (hd : decode M.2.1 pc = .ok (.aaload, 1)) (hq : h[q]? = some (some (.inr (.inl l)))) (hi : vp_in i l.length) (ho : l.getD i.toNatClampNeg none = o) (k : am_Ok M sc Z nc ns (pc + 1) ls (am_rf o :: st) h) : am_Ok M sc Z nc ns pc ls (.int i :: .ref q :: st) h := by
  refine am_read (fun {p l' e R s m args below meth c Q H locs cells slots lc D cy} r ws hx hb ho' ht hK hP cov w => ?_) k
  obtain ⟨q0, hq0⟩ := cov q _ hq
  refine va_aldq hx hb hK.1 hP q0 2 hq0 rfl hi hd ?_
  subst ho
  have e : va_rf ((l.getD i.toNatClampNeg none).map r) = am_v r (am_rf (l.getD i.toNatClampNeg none)) := by
    cases l.getD i.toNatClampNeg none <;> rfl
  exact W.eq (congrArg (fun z => F0 m (pc + 1) lc (z :: st.map (am_v r))) e) w
/-- the script -/
theorem am_sld {L : Nat} {xs : Nat → Int32} {i : Int32} (hs : sc = some (L, xs)) (hd : decode M.2.1 pc = .ok (.iaload, 1)) (hi : vp_in i L) (k : am_Ok M sc Z nc ns (pc + 1) ls (.int (xs i.toNatClampNeg) :: st) h) : am_Ok M sc Z nc ns pc ls (.int i :: .ref 1000 :: st) h := by
  subst hs
  intro p l e R s m args below meth c Q D cy A r0 P0 N0 X hR r H locs cells slots lc hZ hS hL hE hN
  obtain ⟨x1, x2, x3, x4⟩ := X.2.2.2.2.2.2.2.2.2.2
  have er : r 1000 = r0 1000 := hE.1 1000 x1
  have w := k p l e R s m args below meth c Q D cy A r0 P0 N0 X hR r H locs cells slots lc hZ hS hL hE hN
  show W p l e R s m args below meth c H locs cells slots Q (F0 m pc lc (.int i :: .ref (r 1000) :: st.map (am_v r)))
  rw [er]
  exact va_sld X.1 X.2.1 x2 x3 x4 hS hi hd w
theorem am_slen {L : Nat} {xs : Nat → Int32} (hs : sc = some (L, xs)) (hd : decode M.2.1 pc = .ok (.arraylength, 1)) (k : am_Ok M sc Z nc ns (pc + 1) ls (.int (Int32.ofNat L) :: st) h) : am_Ok M sc Z nc ns pc ls (.ref 1000 :: st) h := by
  subst hs
  intro p l e R s m args below meth c Q D cy A r0 P0 N0 X hR r H locs cells slots lc hZ hS hL hE hN
  obtain ⟨x1, x2, x3, x4⟩ := X.2.2.2.2.2.2.2.2.2.2
  have er : r 1000 = r0 1000 := hE.1 1000 x1
  have w := k p l e R s m args below meth c Q D cy A r0 P0 N0 X hR r H locs cells slots lc hZ hS hL hE hN
  show W p l e R s m args below meth c H locs cells slots Q (F0 m pc lc (.ref (r 1000) :: st.map (am_v r)))
  rw [er]
  exact va_slen X.1 X.2.1 x2 x3 x4 hS hd w
/-- a step that writes one cell -/
theorem am_write {pc' q : Nat} {c0 c1 : am_C} (hq : h[q]? = some (some c0)) (w : ∀ {p : Program} {l : Launch} {e : Env} {R : Room} {s : State} {m : MethodId} {args : Array Value} {below : List Frame} {meth : Method} {c : Code} {Q : State → Prop} {H : Heap} {locs : List Loc} {cells slots : Nat} {lc : Array Slot} {D : va_G} {cy : Nat → ClassId} {A : Nat → Prop} (r : Nat → Nat) (ws : va_W) (q0 : Nat), p.tables.exec = Jvm.exec → c.code = M.2.1 → c.maxLocals = M.2.2.1 → lc.size = M.2.2.1 → s.vm.findClass M.1.cls = some m.cls → (∀ w ∈ am_T, w.before args s = true) → am_K D cy s → (M.1.name = "<init>" → meth.name = "<init>") → R.frames = M.2.2.2.2.1 → R.locals = M.2.2.2.2.2 → va_P D vwCl ws H → va_D A ws → va_S A s.heap H locs → (∀ (k : Nat) (c : am_C), h[k]? = some (some c) → ∃ q : Nat, ws[q]? = some (r k, am_e cy r c)) → ws[q0]? = some (r q, am_e cy r c0) →
    (∀ (H1 : Heap) (locs1 : List Loc), va_P D vwCl (ws.set q0 (r q, am_e cy r c1)) H1 → va_D A (ws.set q0 (r q, am_e cy r c1)) → va_S A s.heap H1 locs1 → W p l e R s m args below meth c H1 locs1 cells slots Q (F0 m pc' lc (st'.map (am_v r)))) → W p l e R s m args below meth c H locs cells slots Q (F0 m pc lc (st.map (am_v r)))) (k : am_Ok M sc Z nc ns pc' ls st' (h.set q (some c1))) : am_Ok M sc Z nc ns pc ls st h := by
  intro p l e R s m args below meth c Q D cy A r0 P0 N0 X hR r H locs cells slots lc hZ hS hL hE hN
  obtain ⟨ws, hP, hD, cov⟩ := hZ.toW
  obtain ⟨q0, hq0⟩ := cov q _ hq
  obtain ⟨lv, hlv, -⟩ := id hL
  refine w r ws q0 X.1 X.2.1 X.2.2.1 hlv.1 X.2.2.2.1 X.2.2.2.2.1 X.2.2.2.2.2.1 X.2.2.2.2.2.2.2.2.2.1 X.2.2.2.2.2.2.2.1 X.2.2.2.2.2.2.2.2.1 hP hD hS cov hq0 (fun H1 locs1 hP1 hD1 hS1 => ?_)
  refine k p l e R s m args below meth c Q D cy A r0 P0 N0 X hR r H1 locs1 cells slots lc (hZ.set hq cov hq0 hP1) hS1 hL ⟨hE.1, fun i hi => ?_, by rw [List.length_set]; exact hE.2.2⟩ hN
  by_cases ei : i = q
  · subst ei; rw [am_set_eq hq]; exact fun z => by cases z
  · rw [am_set_ne ei]; exact hE.2.1 i hi
theorem am_putf {idx q ci i : Nat} {fs : List Value} {v : Value} {ft : FieldType} {fin : Bool} (hd : decode M.2.1 pc = .ok (.putfield idx, 3)) (hf : am_fp M.1.cls idx ci i ft fin) (hfin : fin = true → M.1.name = "<init>") (hv : ∀ r, narrow ft (am_v r v) = am_v r v ∧ fits ft (am_v r v) = true) (hq : h[q]? = some (some (.inr (.inr (ci, fs))))) (hi : i < fs.length) (k : am_Ok M sc Z nc ns (pc + 3) ls st (h.set q (some (.inr (.inr (ci, fs.set i v)))))) : am_Ok M sc Z nc ns pc ls (v :: .ref q :: st) h := by
  obtain ⟨C, T, N, ty, ⟨h1, h2, h3, h4⟩, h5, h6, h7, h8, h9⟩ := hf
  refine am_write hq (fun {p l e R s m args below meth c Q H locs cells slots lc D cy A} r ws q0 hx hb hml hlc ho ht hK hin hfr hlo hP hD hS cov hq0 w => ?_) k
  have hd3 : parseFieldDescriptor (T i).2.2.1 = some ft := by rw [h3 i h5, h7]
  have e : am_e cy r (.inr (.inr (ci, fs.set i v))) = .inr (ci, (fs.map (am_v r)).set i (am_v r v)) := by simp only [am_e]; rw [List.map_set]
  rw [e] at w
  have hl : i < (fs.map (am_v r)).length := by rw [List.length_map]; exact hi
  rcases h9 with ⟨h9, h10⟩ | ⟨h10, host, h9⟩
  · cases fin with
    | false => exact va_put hx hb ht h2 ty h3 h4 ho hK.1 hP hD hS q0 hq0 h1 i h5 (ht _ h9) (fun x hx => by rw [h6] at hx; exact hx) h8 hd3 (hv r).1 (hv r).2 hl hd w
    | true => exact va_putF hx hb ht h2 ty h3 h4 ho hK.1 hP hD hS q0 hq0 h1 i h5 (ht _ h9) (fun x hx => by rw [h6] at hx; exact hx) h8 (hin (hfin rfl)) (by rw [h6]; exact h10 rfl) hd3 (hv r).1 (hv r).2 hl hd w
  · subst h10
    exact va_putN hx hb ht h2 ty h3 h4 ho hK.1 hP hD hS q0 hq0 h1 i h5 (va_Nw.use rfl (hK.2.1 _ h9)) (fun x hx => by rw [h6] at hx; exact hx) h8 hd3 (hv r).1 (hv r).2 hl hd w
theorem am_iastore {q n : Nat} {f : Nat → Int32} {i x : Int32} (hd : decode M.2.1 pc = .ok (.iastore, 1)) (hq : h[q]? = some (some (.inl (0, n, f)))) (hi : vp_in i n) (k : am_Ok M sc Z nc ns (pc + 1) ls st (h.set q (some (.inl (0, n, upd f i.toNatClampNeg x))))) : am_Ok M sc Z nc ns pc ls (.int x :: .int i :: .ref q :: st) h := by
  refine am_write hq (fun {p l e R s m args below meth c Q H locs cells slots lc D cy A} r ws q0 hx hb hml hlc ho ht hK hin hfr hlo hP hD hS cov hq0 w => ?_) k
  exact va_iast hx hb hK.1 hP hD hS q0 0 hq0 rfl hi hd w
theorem am_bastore {q n : Nat} {f : Nat → Int32} {i x : Int32} (hd : decode M.2.1 pc = .ok (.bastore, 1)) (hq : h[q]? = some (some (.inl (1, n, f)))) (hi : vp_in i n) (k : am_Ok M sc Z nc ns (pc + 1) ls st (h.set q (some (.inl (1, n, upd f i.toNatClampNeg (vp_nar .boolean x)))))) : am_Ok M sc Z nc ns pc ls (.int x :: .int i :: .ref q :: st) h := by
  refine am_write hq (fun {p l e R s m args below meth c Q H locs cells slots lc D cy A} r ws q0 hx hb hml hlc ho ht hK hin hfr hlo hP hD hS cov hq0 w => ?_) k
  exact va_zast hx hb hK.1 hP hD hS q0 1 hq0 rfl hi hd w
theorem am_aastore {q y : Nat} {l : List (Option Nat)} {fs : List Value} {i : Int32} (hd : decode M.2.1 pc = .ok (.aastore, 1)) (hq : h[q]? = some (some (.inr (.inl l)))) (hy : h[y]? = some (some (.inr (.inr (3, fs))))) (hi : vp_in i l.length) (k : am_Ok M sc Z nc ns (pc + 1) ls st (h.set q (some (.inr (.inl (l.set i.toNatClampNeg (some y))))))) : am_Ok M sc Z nc ns pc ls (.ref y :: .int i :: .ref q :: st) h := by
  refine am_write hq (fun {p l' e R s m args below meth c Q H locs cells slots lc D cy A} r ws q0 hx hb hml hlc ho ht hK hin hfr hlo hP hD hS cov hq0 w => ?_) k
  obtain ⟨qk, hqk⟩ := cov y _ hy
  have hlt : i.toNatClampNeg < l.length := Nat.not_le.mp fun z => hi (Or.inr z)
  have e : am_e cy r (.inr (.inl (l.set i.toNatClampNeg (some y)))) = .inl (cy 2, l.length, .inr (.inr (.inr (.inr (va_up (fun j => (l.getD j none).map r) i.toNatClampNeg (some (r y))))))) := by
    simp only [am_e, List.length_set]
    refine congrArg (fun z : Nat → Option Nat => (Sum.inl (cy 2, l.length, .inr (.inr (.inr (.inr z)))) : va_E)) (funext fun j => ?_)
    simp only [va_up, List.getD_eq_getElem?_getD]
    by_cases ej : j = i.toNatClampNeg
    · subst ej
      rw [if_pos rfl, List.getElem?_set_self hlt]
      rfl
    · rw [if_neg ej, List.getElem?_set_ne (Ne.symm ej)]
  rw [e] at w
  exact va_astq hx hb hK.1 hP hD hS q0 2 qk 3 hq0 rfl hqk rfl hi hd w
theorem am_copy {idx q0 q1 n0 n1 : Nat} {f g : Nat → Int32} {sp dp n : Int32} (hd : decode M.2.1 pc = .ok (.invokestatic idx, 3)) (hl : Cond.methodLink M.1.cls idx arraycopyName ∈ am_T) (hn : Cond.native arraycopyName ∈ am_T) (hs : Cond.static arraycopyName ∈ am_T) (hini : Cond.initialized "java/lang/System" ∈ am_T)
    (ha : h[q0]? = some (some (.inl (0, n0, f)))) (hb1 : h[q1]? = some (some (.inl (0, n1, g)))) (h1 : ¬ sp < 0) (h2 : ¬ dp < 0) (h3 : ¬ n < 0) (h4 : sp.toNatClampNeg + n.toNatClampNeg ≤ n0) (h5 : dp.toNatClampNeg + n.toNatClampNeg ≤ n1) (hfr0 : 1 ≤ M.2.2.2.2.1) (hlo0 : (st.map fun v => v.category).sum + (nativeFrameWords "java/lang/System" "arraycopy" 5 + 11) ≤ M.2.2.2.2.2)
    (k : am_Ok M sc Z nc ns (pc + 3) ls st (h.set q1 (some (.inl (0, n1, va_cpy f g sp.toNatClampNeg dp.toNatClampNeg n.toNatClampNeg))))) : am_Ok M sc Z nc ns pc ls (.int n :: .int dp :: .ref q1 :: .int sp :: .ref q0 :: st) h := by
  refine am_write hb1 (fun {p l' e R s m args below meth c Q H locs cells slots lc D cy A} r ws w0 hx hb hml hlc ho ht hK hin hfr hlo hP hD hS cov hq0 w => ?_) k
  obtain ⟨qk, hqk⟩ := cov q0 _ ha
  have hst : ((st.map (am_v r)).map fun v => v.category).sum = (st.map fun v => v.category).sum := by
    rw [List.map_map]
    congr 1
    exact List.map_congr_left (fun v _ => am_v_cat r v)
  exact va_copyi hx hb (by rw [hml, hlc]) ho (ht _ hl) (ht _ hn) (ht _ hs) (ht _ hini) hK.1 hP hD hS qk w0 0 0 hqk hq0 rfl rfl rfl h1 h2 h3 h4 h5 (fun i _ => rfl) (by rw [hfr]; exact hfr0) (by rw [hlo, hst]; exact hlo0) hd w
/-- a step that makes a cell at an empty place -/
theorem am_make {pc' q n : Nat} {c1 : am_C} (hq : h[q]? = some none) (hnh : am_nh q h = true) (hnl : am_nl q ls = true) (hns : am_ns q st' = true) (hc1 : ∀ (cy : Nat → ClassId) (r r' : Nat → Nat), am_e cy r c1 = am_e cy r' c1) (hn : 1 ≤ nc ∧ n ≤ ns)
    (w : ∀ {p : Program} {l : Launch} {e : Env} {R : Room} {s : State} {m : MethodId} {args : Array Value} {below : List Frame} {meth : Method} {c : Code} {Q : State → Prop} {H : Heap} {locs : List Loc} {cells slots : Nat} {lc : Array Slot} {D : va_G} {cy : Nat → ClassId} {A : Nat → Prop} (r : Nat → Nat) (ws : va_W), p.tables.exec = Jvm.exec → c.code = M.2.1 → s.vm.findClass M.1.cls = some m.cls → (∀ w ∈ am_T, w.before args s = true) → am_K D cy s → va_P D vwCl ws H → va_D A ws → va_S A s.heap H locs → (∀ q, s.heap.size ≤ q → A q) → cells + 1 ≤ R.cells → slots + n ≤ R.slots →
    (∀ (a : Nat) (H1 : Heap), va_P D vwCl (ws ++ [(a, am_e cy r c1)]) H1 → va_D A (ws ++ [(a, am_e cy r c1)]) → va_S A s.heap H1 locs → W p l e R s m args below meth c H1 locs (cells + 1) (slots + n) Q (F0 m pc' lc (.ref a :: st'.map (am_v r)))) → W p l e R s m args below meth c H locs cells slots Q (F0 m pc lc (st.map (am_v r)))) (k : am_Ok M sc Z (nc - 1) (ns - n) pc' ls (.ref q :: st') (h.set q (some c1))) : am_Ok M sc Z nc ns pc ls st h := by
  intro p l e R s m args below meth c Q D cy A r0 P0 N0 X hR r H locs cells slots lc hZ hS hL hE hN
  obtain ⟨ws, hP, hD, cov⟩ := hZ.toW
  obtain ⟨hn1, hn2⟩ := hn
  obtain ⟨hN1, hN2⟩ := hN
  refine w r ws X.1 X.2.1 X.2.2.2.1 X.2.2.2.2.1 X.2.2.2.2.2.1 hP hD hS X.2.2.2.2.2.2.1 (by omega) (by omega) (fun a H1 hP1 hD1 hS1 => ?_)
  have hr : ∀ i, i ≠ q → (fun i => if i = q then a else r i) i = r i := fun i hi => if_neg hi
  have hst : st'.map (am_v (fun i => if i = q then a else r i)) = st'.map (am_v r) := List.map_congr_left (fun v hv => am_v_eq (fun i e => hr i (am_nv_ne (List.all_eq_true.mp hns v hv) i e)))
  have k1 := k p l e R s m args below meth c Q D cy A r0 P0 N0 X hR (fun i => if i = q then a else r i) H1 locs (cells + 1) (slots + n) lc (hZ.push hq hnh cov (hc1 cy) hP1 hD1) hS1 ?_ ⟨fun i hi => ?_, fun i hi => ?_, by rw [List.length_set]; exact hE.2.2⟩ ⟨by omega, by omega⟩
  · rw [List.map_cons, hst] at k1
    have e1 : am_v (fun i => if i = q then a else r i) (.ref q) = .ref a := by simp [am_v]
    rw [e1] at k1
    exact k1
  · obtain ⟨lv, hlv, hm⟩ := hL
    refine ⟨lv, hlv, fun j v hj => ?_⟩
    rw [am_v_eq (r := r) (fun i e => hr i (am_nv_ne (List.all_eq_true.mp hnl _ (List.mem_of_getElem? hj)) i e))]
    exact hm j v hj
  · have hne : i ≠ q := fun e => hE.2.1 i hi (by rw [e]; exact hq)
    rw [hr i hne]
    exact hE.1 i hi
  · by_cases ei : i = q
    · subst ei; rw [am_set_eq hq]; exact fun z => by cases z
    · rw [am_set_ne ei]; exact hE.2.1 i hi
theorem am_new {idx q ci N : Nat} {C : String} {T : u_T} {ty : Nat → FieldType} {fs : List Value} (hd : decode M.2.1 pc = .ok (.new idx, 3)) (hc : am_cls ci C T N ty) (hcl : Cond.classLink M.1.cls idx C ∈ am_T) (hins : Cond.instantiable C N ∈ am_T) (hini : Cond.initialized C ∈ am_T) (hfs : ∀ j, j < N → defaultValue (ty j) = vp_V fs j) (hfr : ∀ r : Nat → Nat, fs.map (am_v r) = fs)
    (hq : h[q]? = some none) (hnh : am_nh q h = true) (hnl : am_nl q ls = true) (hns : am_ns q st = true) (hn : 1 ≤ nc ∧ N ≤ ns) (k : am_Ok M sc Z (nc - 1) (ns - N) (pc + 3) ls (.ref q :: st) (h.set q (some (.inr (.inr (ci, fs)))))) : am_Ok M sc Z nc ns pc ls st h := by
  obtain ⟨h1, h2, h3, h4⟩ := hc
  refine am_make hq hnh hnl hns (fun cy r r' => by simp only [am_e, hfr]) hn (fun {p l e R s m args below meth c Q H locs cells slots lc D cy A} r ws hx hb ho ht hK hP hD hS hA hcl1 hsl1 w => ?_) k
  refine va_new hx hb ht h2 ty h3 ho (ht _ hcl) (ht _ hins) (ht _ hini) hK.1 hP hD hS hA h1 (fs := fs) hfs hcl1 hsl1 hd (fun a H1 g1 g2 g3 => ?_)
  have e1 : am_e cy r (.inr (.inr (ci, fs))) = .inr (ci, fs) := by simp only [am_e, hfr]
  exact w a H1 (by rw [e1]; exact g1) (by rw [e1]; exact g2) g3
theorem am_newarray {q N t : Nat} {at_ : ArrayType} {n : Int32} {ty : FieldType} (hd : decode M.2.1 pc = .ok (.newarray at_, 2)) (hty : newarray.typeOf at_ = ty) (ht2 : (t = 0 ∧ ty = .int) ∨ (t = 1 ∧ ty = .boolean)) (harr : Cond.arrayClass ty ∈ am_T) (hn0 : ¬ n < 0) (hN : n.toNatClampNeg = N) (hby : N * componentBytes ty ≤ 536870912)
    (hq : h[q]? = some none) (hnh : am_nh q h = true) (hnl : am_nl q ls = true) (hns : am_ns q st = true) (hn : 1 ≤ nc ∧ N ≤ ns) (k : am_Ok M sc Z (nc - 1) (ns - N) (pc + 2) ls (.ref q :: st) (h.set q (some (.inl (t, N, fun _ => 0))))) : am_Ok M sc Z nc ns pc ls (.int n :: st) h := by
  subst hty
  refine am_make hq hnh hnl hns (fun cy r r' => rfl) hn (fun {p l e R s m args below meth c Q H locs cells slots lc D cy A} r ws hx hb ho ht hK hP hD hS hA hcl1 hsl1 w => ?_) k
  refine va_newa hx hb (ht _ harr) rfl hK.1 hP hD hS hA (a0 := (N, .inl (fun _ => 0))) (fun cA => ?_) hn0 hN hby hcl1 hsl1 hd (fun a cA H1 g0 g1 g2 g3 => ?_)
  · rcases ht2 with ⟨-, e⟩ | ⟨-, e⟩ <;> rw [e] <;> rfl
  · have e1 : cA = cy t := by
      have g4 := (g0.2 3 _ rfl).2
      rcases ht2 with ⟨et, e⟩ | ⟨et, e⟩
      · have g5 := (hK.1.2 0 _ rfl).2
        rw [e] at g4
        subst et
        exact Option.some.inj (g4.symm.trans g5)
      · have g5 := (hK.1.2 1 _ rfl).2
        rw [e] at g4
        subst et
        exact Option.some.inj (g4.symm.trans g5)
    rw [e1] at g1 g2
    exact w a H1 g1 g2 g3
theorem am_anewarray {idx q : Nat} {n : Int32} {N : Nat} (hd : decode M.2.1 pc = .ok (.anewarray idx, 3)) (hcl : Cond.classLink M.1.cls idx RX3 ∈ am_T) (hn0 : ¬ n < 0) (hN : n.toNatClampNeg = N) (hby : N * 4 ≤ 536870912)
    (hq : h[q]? = some none) (hnh : am_nh q h = true) (hnl : am_nl q ls = true) (hns : am_ns q st = true) (hn : 1 ≤ nc ∧ N ≤ ns) (k : am_Ok M sc Z (nc - 1) (ns - N) (pc + 3) ls (.ref q :: st) (h.set q (some (.inr (.inl (List.replicate N none)))))) : am_Ok M sc Z nc ns pc ls (.int n :: st) h := by
  have en : ∀ r : Nat → Nat, (fun j => ((List.replicate N (none : Option Nat)).getD j none).map r) = fun _ => none := by
    intro r
    funext j
    have : (List.replicate N (none : Option Nat)).getD j none = none := by
      rw [List.getD_eq_getElem?_getD, List.getElem?_replicate]
      split <;> rfl
    rw [this]
    rfl
  have e1 : ∀ (cy : Nat → ClassId) (r : Nat → Nat), am_e cy r (.inr (.inl (List.replicate N none))) = .inl (cy 2, N, .inr (.inr (.inr (.inr (fun _ => none))))) := by
    intro cy r
    simp only [am_e, en r, List.length_replicate]
  refine am_make hq hnh hnl hns (fun cy r r' => by rw [e1, e1]) hn (fun {p l e R s m args below meth c Q H locs cells slots lc D cy A} r ws hx hb ho ht hK hP hD hS hA hcl1 hsl1 w => ?_) k
  refine va_newq hx hb ho (ht _ hcl) hK.2.2 hK.1 hP hD hS hA hn0 hN hby hcl1 hsl1 hd (fun a cA H1 g0 g1 g2 g3 => ?_)
  have e2 : cA = cy 2 := by
    obtain ⟨_, _, _, _, _, g4⟩ := (g0.2 3 _ rfl).2
    obtain ⟨_, _, _, _, _, g5⟩ := (hK.1.2 2 _ rfl).2
    exact Option.some.inj (g4.symm.trans g5)
  rw [e2] at g1 g2
  exact w a H1 (by rw [e1]; exact g1) (by rw [e1]; exact g2) g3
end AMH
end
section
/-! contracts and calls of the abstract machine -/
def am_A (r : Nat → Nat) (h : am_H) (sz : Nat) : Nat → Prop := fun q => (∃ (k : Nat) (c : am_C), h[k]? = some (some c) ∧ r k = q) ∨ sz ≤ q
def am_P0 (h : am_H) : Nat → Prop := fun i => (∃ c, h[i]? = some (some c)) ∨ i = 1000
def am_Qc (D : va_G) (cy : Nat → ClassId) (r : Nat → Nat) (h : am_H) (sz : Nat) (Z : Option Value → am_H → Prop) : Array Value → State → Outcome → State → Prop := fun _ st oc t =>
  (∃ (v : Option Value) (h' : am_H) (r' : Nat → Nat), Z v h' ∧ oc = .returned (v.map (am_v r')) ∧ am_E (am_P0 h) r h.length r' h' ∧ am_Z D cy r' h' (am_A r h sz) t.heap) ∧ va_F (am_A r h sz) st t
def am_ws (M : am_M) : List Cond := .code M.1 M.2.1 M.2.2.1 M.2.2.2.1 :: am_T
def am_Pc (D : va_G) (cy : Nat → ClassId) (r : Nat → Nat) (args : List Value) (h : am_H) (sz : Nat) : Array Value → State → Prop := va_Pc (args.map (am_v r)) (fun U => U.heap.size = sz ∧ am_Z D cy r h (am_A r h sz) U.heap ∧ am_K D cy U)
/-- a method's contract at these arguments and this world -/
def am_Met (M : am_M) (args : List Value) (h : am_H) (nc ns : Nat) (Z : Option Value → am_H → Prop) : Prop :=
  ∀ (l : Launch) (D : va_G) (cy : Nat → ClassId) (r : Nat → Nat) (sz : Nat), Met l M.1 (am_ws M) { frames := M.2.2.2.2.1, cells := nc, slots := ns, locals := M.2.2.2.2.2 } (am_Pc D cy r args h sz) (am_Qc D cy r h sz Z) nc ns (am_A r h sz)
theorem am_lvargs : ∀ (vs : List Value) (i : Nat), (∀ v ∈ vs, v.category = 1) → ∀ (k : Nat) (v : Value), vs[k]? = some v → (i + k, v) ∈ lv_args i vs
  | [], _, _, k, v, h => by simp at h
  | x :: xs, i, hc, 0, v, h => by
    have : x = v := Option.some.inj h
    subst this
    exact List.mem_cons_self
  | x :: xs, i, hc, k + 1, v, h => by
    have h1 : xs[k]? = some v := h
    have h2 := am_lvargs xs (i + 1) (fun v hv => hc v (List.mem_cons_of_mem _ hv)) k v h1
    have h3 : lv_args i (x :: xs) = (i, x) :: lv_args (i + 1) xs := by
      show (i, x) :: lv_args (if x.category = 2 then i + 2 else i + 1) xs = _
      rw [if_neg (by rw [hc x List.mem_cons_self]; decide)]
    rw [h3]
    refine List.mem_cons_of_mem _ ?_
    rw [show i + (k + 1) = i + 1 + k by omega]
    exact h2
theorem am_sl_len : ∀ (vs : List Value), (∀ v ∈ vs, v.category = 1) → (lg_sl vs).length = vs.length
  | [], _ => rfl
  | x :: xs, hc => by
    have h1 := am_sl_len xs (fun v hv => hc v (List.mem_cons_of_mem _ hv))
    have h2 : lg_sl (x :: xs) = .val x :: lg_sl xs := by
      simp only [lg_sl, List.flatMap_cons]
      rw [if_neg (by rw [hc x List.mem_cons_self]; decide)]
      rfl
    rw [h2, List.length_cons, h1, List.length_cons]
/-- the locals at a method's entry -/
def am_l0 (n : Nat) (args : List Value) : List (Option Value) := args.map some ++ List.replicate (n - args.length) none
theorem am_entry {n : Nat} {args : List Value} {r : Nat → Nat} (hc : ∀ v ∈ args, v.category = 1) (hn : args.length ≤ n) : am_L ((lg_sl (args.map (am_v r)) ++ List.replicate (n - (lg_sl (args.map (am_v r))).length) Slot.unset).toArray) n (am_l0 n args) r := by
  have hc' : ∀ v ∈ args.map (am_v r), v.category = 1 := by
    intro v hv
    obtain ⟨u, hu, rfl⟩ := List.mem_map.mp hv
    rw [am_v_cat]
    exact hc u hu
  refine ⟨_, lv_entry (args.map (am_v r)) (by rw [am_sl_len _ hc', List.length_map]; exact hn), fun k v hk => ?_⟩
  have hk2 : args[k]? = some v := by
    unfold am_l0 at hk
    by_cases hl : k < (args.map some).length
    · rw [List.getElem?_append_left hl, List.getElem?_map] at hk
      cases ha : args[k]? with
      | none => rw [ha] at hk; cases hk
      | some x => rw [ha] at hk; exact congrArg some (Option.some.inj (Option.some.inj hk))
    · rw [List.getElem?_append_right (by omega), List.getElem?_replicate] at hk
      split at hk <;> cases hk
  refine ⟨?_, hc v (List.mem_of_getElem? hk2)⟩
  have h1 := am_lvargs (args.map (am_v r)) 0 hc' k (am_v r v) (by rw [List.getElem?_map, hk2]; rfl)
  rwa [Nat.zero_add] at h1
/-- a contract out of a walk from the entry -/
theorem am_Met.of {M : am_M} {args : List Value} {h : am_H} {nc ns : Nat} {Z : Option Value → am_H → Prop} (hy : plainFor M.1 = true) (hh : h.length ≤ 1000) (hc : ∀ v ∈ args, v.category = 1) (hn : args.length ≤ M.2.2.1) (k : am_Ok M none Z nc ns 0 (am_l0 M.2.2.1 args) [] h) : am_Met M args h nc ns Z := by
  intro l D cy r sz
  refine va_MetF (cc := M.2.1) (maxL := M.2.2.1) (ret := M.2.2.2.1) hy rfl ?_
  intro p e s m as below meth c s₁ B hml hv
  obtain ⟨rfl, hsz, hZ, hK⟩ := hv
  have hts := atoms_spec (ws := am_ws M) B.pre
  have hlocks := B.notSynchronized
  rw [lg_entry_eq]
  subst hsz
  have X : am_X M none p { frames := M.2.2.2.2.1, cells := nc, slots := ns, locals := M.2.2.2.2.2 } s m (args.map (am_v r)).toArray meth c D cy (am_A r h s.heap.size) r (am_P0 h) :=
    ⟨B.exec, B.bytes, hml, findClass_of_methodNamed B.named, fun w hw => hts w (List.mem_cons_of_mem _ hw), hK, fun q hq => Or.inr hq, rfl, rfl, fun hi => by rw [(name_of_methodNamed B.named B.method).1]; exact hi, trivial⟩
  refine k p l e _ s m _ below meth c _ D cy (am_A r h s.heap.size) r (am_P0 h) h.length X ?_ r s.heap [] 0 0 _ hZ va_S.rf (am_entry hc hn) ⟨fun _ _ => rfl, fun i hi => ?_, rfl⟩ ⟨by show 0 + nc ≤ nc; omega, by show 0 + ns ≤ ns; omega⟩
  · intro v h' r' H locs cells slots lc pc hz hZ' hS hE hcl hsl hri
    refine W.widen hcl hsl ?_
    have hq : ∀ (t : State), t.heap = H → am_Qc D cy r h s.heap.size Z (args.map (am_v r)).toArray s (.returned (v.map (am_v r'))) t := fun t ht => ⟨⟨v, h', r', hz, rfl, hE, by rw [ht]; exact hZ'⟩, hS.F ht⟩
    cases v with
    | none =>
      obtain ⟨g1, g2⟩ := hri
      exact W.vret B.exec B.bytes (by rw [B.returns]; exact g2) (fun t ht hW => hq t ht) hS.2.2 g1
    | some w =>
      cases w with
      | int x =>
        obtain ⟨g1, ty, g2, g3⟩ := hri
        exact W.zret B.exec B.bytes (by rw [B.returns]; exact g2) g3 (fun t ht hW => hq t ht) hS.2.2 g1
      | ref a =>
        obtain ⟨g1, g2, C, g3⟩ := hri
        exact W.aret B.exec B.bytes (by rw [B.returns]; exact g3) (Or.inl ⟨C, rfl⟩) (Or.inr ⟨_, rfl⟩) (fun t ht hW => hq t ht) hS.2.2 g1
      | null =>
        obtain ⟨g1, g2, C, g3⟩ := hri
        exact W.aret B.exec B.bytes (by rw [B.returns]; exact g3) (Or.inl ⟨C, rfl⟩) (Or.inl rfl) (fun t ht hW => hq t ht) hS.2.2 g1
      | _ => obtain ⟨-, g2 | ⟨_, g2⟩, -⟩ := hri <;> cases g2
  · rcases hi with ⟨c, hi⟩ | hi
    · rw [hi]; exact fun z => by cases z
    · subst hi
      have : h[1000]? = none := List.getElem?_eq_none hh
      rw [this]
      exact fun z => by cases z
theorem am_Met.mono {M : am_M} {args : List Value} {h : am_H} {nc ns : Nat} {Z Z' : Option Value → am_H → Prop} (k : am_Met M args h nc ns Z) (hz : ∀ v h', Z v h' → Z' v h') : am_Met M args h nc ns Z' := by
  intro l D cy r sz p e ha hc hk s m as below hf happ hP hT
  obtain ⟨kk, o, h1, h2, h3, ⟨⟨⟨v, h', r', z1, z2⟩, hF⟩, hL⟩⟩ := k l D cy r sz p e ha hc hk s m as below hf happ hP hT
  exact ⟨kk, o, h1, h2, h3, ⟨⟨⟨v, h', r', hz v h' z1, z2⟩, hF⟩, hL⟩⟩
end
section
/-! the rule of a call: the callee's world is a part of the caller's, by its places -/
def am_ix (is : List Nat) (j : Nat) : Nat := is.getD j j
def am_rn (is : List Nat) : am_C → am_C := fun c => match c with
  | .inl a => .inl a
  | .inr (.inl l) => .inr (.inl (l.map (Option.map (am_ix is))))
  | .inr (.inr o) => .inr (.inr (o.1, o.2.map (am_v (am_ix is))))
def am_put : List Nat → am_H → am_H → am_H
  | i :: is, o :: os, h => am_put is os (h.set i o)
  | _, _, h => h
def am_okv (n : Nat) : Value → Bool := fun v => match v with
  | .ref j => Nat.blt j n || Nat.beq j 1000
  | _ => true
def am_okc (n : Nat) : am_C → Bool := fun c => match c with
  | .inl _ => true
  | .inr (.inl l) => l.all (fun o => match o with | none => true | some j => Nat.blt j n || Nat.beq j 1000)
  | .inr (.inr o) => o.2.all (am_okv n)
def am_okh (n : Nat) (h : am_H) : Bool := h.all (fun o => match o with | none => true | some c => am_okc n c)
def am_fr : List Nat → am_H → am_H → List (Option Value) → List Value → Bool
  | i :: is, none :: os, h, ls, st => am_nh i h && (am_nl i ls && (am_ns i st && am_fr is os h ls st))
  | _ :: is, some _ :: os, h, ls, st => am_fr is os h ls st
  | _, _, _, _, _ => true
theorem am_fr_at : ∀ (is : List Nat) (hc h : am_H) (ls : List (Option Value)) (st : List Value), am_fr is hc h ls st = true → ∀ (k i : Nat), is[k]? = some i → hc[k]? = some none → am_nh i h = true ∧ am_nl i ls = true ∧ am_ns i st = true
  | [], _, _, _, _, _, k, i, h, _ => by simp at h
  | _ :: _, [], _, _, _, _, k, i, _, h => by simp at h
  | i0 :: is, none :: os, h, ls, st, hf, k, i, hi, hk => by
    simp only [am_fr, Bool.and_eq_true] at hf
    cases k with
    | zero =>
      have : i0 = i := Option.some.inj hi
      subst this
      exact ⟨hf.1, hf.2.1, hf.2.2.1⟩
    | succ k => exact am_fr_at is os h ls st hf.2.2.2 k i hi hk
  | i0 :: is, some c :: os, h, ls, st, hf, k, i, hi, hk => by
    cases k with
    | zero => simp at hk
    | succ k => exact am_fr_at is os h ls st hf k i hi hk
theorem am_put_len : ∀ (is : List Nat) (os h : am_H), (am_put is os h).length = h.length
  | [], _, _ => rfl
  | _ :: _, [], _ => rfl
  | i :: is, o :: os, h => by
    show (am_put is os (h.set i o)).length = _
    rw [am_put_len is os, List.length_set]
theorem am_put_out : ∀ (is : List Nat) (os h : am_H) (i : Nat), i ∉ is → (am_put is os h)[i]? = h[i]?
  | [], _, _, _, _ => rfl
  | _ :: _, [], _, _, _ => rfl
  | j :: is, o :: os, h, i, hi => by
    show (am_put is os (h.set j o))[i]? = _
    rw [am_put_out is os _ i (fun z => hi (List.mem_cons_of_mem _ z)), List.getElem?_set_ne (fun z => hi (by rw [z]; exact List.mem_cons_self))]
theorem am_put_in : ∀ (is : List Nat) (os h : am_H), (∀ (a b x : Nat), is[a]? = some x → is[b]? = some x → a = b) → ∀ (k i : Nat) (o : Option am_C), is[k]? = some i → os[k]? = some o → i < h.length → (am_put is os h)[i]? = some o
  | [], _, _, _, k, i, o, hi, _, _ => by simp at hi
  | _ :: _, [], _, _, k, i, o, _, ho, _ => by simp at ho
  | j :: is, o0 :: os, h, hnd, k, i, o, hi, ho, hl => by
    show (am_put is os (h.set j o0))[i]? = _
    cases k with
    | zero =>
      have e1 : j = i := Option.some.inj hi
      have e2 : o0 = o := Option.some.inj ho
      subst e1; subst e2
      have hni : j ∉ is := fun z => by
        obtain ⟨q, hq⟩ := List.getElem?_of_mem z
        have := hnd 0 (q + 1) j rfl hq
        omega
      rw [am_put_out is os _ j hni, List.getElem?_set_self hl]
    | succ k =>
      exact am_put_in is os _ (fun a b x ha hb => by have := hnd (a + 1) (b + 1) x ha hb; omega) k i o hi ho (by rw [List.length_set]; exact hl)
theorem am_v_v (r f : Nat → Nat) (v : Value) : am_v r (am_v f v) = am_v (fun j => r (f j)) v := by cases v <;> rfl
theorem am_e_rn (cy : Nat → ClassId) (r : Nat → Nat) (is : List Nat) (c : am_C) : am_e cy r (am_rn is c) = am_e cy (fun j => r (am_ix is j)) c := by
  rcases c with a | l | o
  · rfl
  · simp only [am_e, am_rn, List.length_map]
    refine congrArg (fun z : Nat → Option Nat => (Sum.inl (cy 2, l.length, .inr (.inr (.inr (.inr z)))) : va_E)) (funext fun j => ?_)
    simp only [List.getD_eq_getElem?_getD, List.getElem?_map]
    cases l[j]? with
    | none => rfl
    | some x => cases x <;> rfl
  · simp only [am_e, am_rn, List.map_map]
    congr 2
    exact List.map_congr_left (fun v _ => am_v_v r (am_ix is) v)
theorem am_okc_eq {cy : Nat → ClassId} {n : Nat} {r r' : Nat → Nat} {c : am_C} (h : am_okc n c = true) (hr : ∀ i, i < n ∨ i = 1000 → r' i = r i) : am_e cy r' c = am_e cy r c := by
  refine am_e_eq (fun i => ⟨fun o e hm => hr i ?_, fun l e hm => hr i ?_⟩)
  · subst e
    have h1 := List.all_eq_true.mp (show o.2.all (am_okv n) = true from h) _ hm
    simp only [am_okv, Bool.or_eq_true] at h1
    rcases h1 with h1 | h1
    · exact Or.inl (by simpa [Nat.blt_eq] using h1)
    · exact Or.inr (by simpa using h1)
  · subst e
    have h1 := List.all_eq_true.mp (show l.all _ = true from h) _ hm
    simp only [Bool.or_eq_true] at h1
    rcases h1 with h1 | h1
    · exact Or.inl (by simpa [Nat.blt_eq] using h1)
    · exact Or.inr (by simpa using h1)
theorem am_okv_eq {n : Nat} {r r' : Nat → Nat} {v : Value} (h : am_okv n v = true) (hr : ∀ i, i < n ∨ i = 1000 → r' i = r i) : am_v r' v = am_v r v := by
  refine am_v_eq (fun i e => hr i ?_)
  subst e
  simp only [am_okv, Bool.or_eq_true] at h
  rcases h with h1 | h1
  · exact Or.inl (by simpa [Nat.blt_eq] using h1)
  · exact Or.inr (by simpa using h1)
/-- what the caller's world gives the callee -/
theorem am_sub_get {is : List Nat} {hc h : am_H} (hsub : is.map (fun i => h[i]?) = hc.map (fun o => some (o.map (am_rn is)))) : is.length = hc.length ∧ ∀ (k : Nat) (o : Option am_C), hc[k]? = some o → ∃ i, is[k]? = some i ∧ h[i]? = some (o.map (am_rn is)) := by
  have hl : is.length = hc.length := by
    have := congrArg List.length hsub
    simpa using this
  refine ⟨hl, fun k o hk => ?_⟩
  have h1 : (is.map (fun i => h[i]?))[k]? = some (some (o.map (am_rn is))) := by rw [hsub, List.getElem?_map, hk]; rfl
  rw [List.getElem?_map] at h1
  cases hi : is[k]? with
  | none => rw [hi] at h1; cases h1
  | some i => rw [hi] at h1; exact ⟨i, rfl, Option.some.inj h1⟩
theorem am_ix_at {is : List Nat} {k i : Nat} (h : is[k]? = some i) : am_ix is k = i := by
  unfold am_ix
  rw [List.getD_eq_getElem?_getD, h]
  rfl
theorem am_Z.sub {D : va_G} {cy : Nat → ClassId} {r : Nat → Nat} {h hc : am_H} {A : Nat → Prop} {H : Heap} {is : List Nat} (z : am_Z D cy r h A H) (hsub : is.map (fun i => h[i]?) = hc.map (fun o => some (o.map (am_rn is)))) (hnd : va_nd is = true) (sz : Nat) : am_Z D cy (fun j => r (am_ix is j)) hc (am_A (fun j => r (am_ix is j)) hc sz) H := by
  obtain ⟨hl, hget⟩ := am_sub_get hsub
  refine ⟨fun k c hk => ?_, fun i j c d hi hj e => ?_, fun k c hk => Or.inl ⟨k, c, hk, rfl⟩⟩
  · obtain ⟨i, h1, h2⟩ := hget k _ hk
    have := z.1 i _ h2
    rw [am_e_rn] at this
    simp only [am_ix_at h1]
    exact this
  · obtain ⟨a, h1, h2⟩ := hget i _ hi
    obtain ⟨b, h3, h4⟩ := hget j _ hj
    simp only [am_ix_at h1, am_ix_at h3] at e
    have := z.2.1 a b _ _ h2 h4 e
    subst this
    exact va_nd_inj is hnd i j a h1 h3
end
section
section AMC
variable {M M' : am_M} {sc : Option (Nat × (Nat → Int32))} {Z Zc : Option Value → am_H → Prop} {nc ns n1 s1 pc : Nat} {ls : List (Option Value)} {st st0 : List Value} {h hc : am_H} {is : List Nat}
theorem am_callcore (hsub : is.map (fun i => h[i]?) = hc.map (fun o => some (o.map (am_rn is)))) (hnd : va_nd is = true) (hlen : h.length ≤ 1000) (hil : is.length ≤ 1000) (hfr : am_fr is hc h ls st = true) (hn : n1 ≤ nc ∧ s1 ≤ ns)
    (hok : ∀ v h1, Zc v h1 → am_okh hc.length h1 = true ∧ ∀ w, v = some w → am_okv hc.length w = true)
    (run : ∀ {p : Program} {l : Launch} {e : Env} {R : Room} {s : State} {m : MethodId} {args : Array Value} {below : List Frame} {meth : Method} {c : Code} {H : Heap} {locs : List Loc} {cells slots : Nat} {lc : Array Slot} {D : va_G} {cy : Nat → ClassId} {A : Nat → Prop} {r0 : Nat → Nat} {P0 : Nat → Prop} (r : Nat → Nat), am_X M sc p R s m args meth c D cy A r0 P0 → am_Z D cy r h A H → lc.size = M.2.2.1 → cells + n1 ≤ R.cells ∧ slots + s1 ≤ R.slots →
      ∃ a0, va_Run p l e R s m args below meth c H locs cells slots n1 s1 (F0 m pc lc (st0.map (am_v r))) (st.map (am_v r)) (am_Qc D cy (fun j => r (am_ix is j)) hc H.size Zc a0) (am_A (fun j => r (am_ix is j)) hc H.size))
    (k : ∀ v h1, Zc v h1 → h1.length = hc.length → am_Ok M sc Z (nc - n1) (ns - s1) (pc + 3) ls ((v.map (am_v (am_ix is))).toList ++ st) (am_put is (h1.map (Option.map (am_rn is))) h)) : am_Ok M sc Z nc ns pc ls st0 h := by
  intro p l e R s m args below meth c Q D cy A r0 P0 N0 X hR r H locs cells slots lc hZ hS hL hE hN
  obtain ⟨hN1, hN2⟩ := hN
  obtain ⟨hn1, hn2⟩ := hn
  obtain ⟨hl, hget⟩ := am_sub_get hsub
  have hinj := va_nd_inj is hnd
  obtain ⟨lv, hlv, hlm⟩ := id hL
  obtain ⟨a0, hrun⟩ := run (l := l) (e := e) (below := below) (locs := locs) (cells := cells) (slots := slots) r X hZ hlv.1 ⟨by omega, by omega⟩
  intro T hT XS
  obtain ⟨v0, st₀, t, T', L, h0, X2, hLf, e1, e2, ⟨⟨v, h1, r1c, hz, hv, hE1, hZ1⟩, hF⟩, go⟩ := hrun T hT XS
  have hv0 : v0 = v.map (am_v r1c) := by cases hv; rfl
  subst hv0
  obtain ⟨hok1, hok2⟩ := hok v h1 hz
  have hl1 : h1.length = hc.length := hE1.2.2
  rw [← e1] at hZ1
  have hF2 : H.size ≤ T'.heap.size ∧ ∀ q : Nat, q < H.size → ¬ am_A (fun j => r (am_ix is j)) hc H.size q → T'.heap[q]? = H[q]? := by
    obtain ⟨f1, f2⟩ := hF
    rw [h0] at f1 f2
    exact ⟨by rw [e1]; exact f1, fun q g1 g2 => by rw [e1]; exact f2 q g1 g2⟩
  -- the new addresses
  obtain ⟨r1, hr1, hr2⟩ : ∃ r1 : Nat → Nat, (∀ k i, is[k]? = some i → r1 i = r1c k) ∧ ∀ i, i ∉ is → r1 i = r i := by
    classical
    refine ⟨fun i => if hx : ∃ k, is[k]? = some i then r1c hx.choose else r i, fun k i hk => ?_, fun i hi => ?_⟩
    · have hx : ∃ k, is[k]? = some i := ⟨k, hk⟩
      simp only [dif_pos hx]
      rw [hinj _ k i hx.choose_spec hk]
    · have hx : ¬ ∃ k, is[k]? = some i := fun ⟨k, hk⟩ => hi (List.mem_of_getElem? hk)
      simp only [dif_neg hx]
  have hisb : ∀ (k i : Nat), is[k]? = some i → ∃ o, hc[k]? = some o ∧ h[i]? = some (o.map (am_rn is)) := by
    intro k i hk
    have hk2 : k < hc.length := by rw [← hl]; exact (List.getElem?_eq_some_iff.mp hk).1
    obtain ⟨o, ho⟩ : ∃ o, hc[k]? = some o := ⟨_, List.getElem?_eq_getElem hk2⟩
    obtain ⟨i', h3, h4⟩ := hget k o ho
    have : i' = i := Option.some.inj (h3.symm.trans hk)
    subst this
    exact ⟨o, ho, h4⟩
  have h1000 : 1000 ∉ is := fun z => by
    obtain ⟨k, hk⟩ := List.getElem?_of_mem z
    obtain ⟨o, -, h4⟩ := hisb k 1000 hk
    have := (List.getElem?_eq_some_iff.mp h4).1
    omega
  -- where nothing is new, the addresses stay
  have hstay : ∀ (k i : Nat), is[k]? = some i → hc[k]? ≠ some none → r1 i = r i := by
    intro k i hk hne
    obtain ⟨o, ho, -⟩ := hisb k i hk
    cases o with
    | none => exact absurd ho hne
    | some c0 =>
      rw [hr1 k i hk, hE1.1 k (Or.inl ⟨c0, ho⟩)]
      simp only [am_ix_at hk]
  have hkeep : ∀ i : Nat, (am_nh i h = true ∧ am_nl i ls = true ∧ am_ns i st = true → False) → r1 i = r i := by
    intro i hi
    by_cases hm : i ∈ is
    · obtain ⟨k, hk⟩ := List.getElem?_of_mem hm
      exact hstay k i hk (fun z => hi (am_fr_at is hc h ls st hfr k i hk z))
    · exact hr2 i hm
  have hix : ∀ j, j < hc.length ∨ j = 1000 → r1 (am_ix is j) = r1c j := by
    intro j hj
    rcases hj with hj | hj
    · have hj2 : j < is.length := by rw [hl]; exact hj
      have hk : is[j]? = some is[j] := List.getElem?_eq_getElem hj2
      rw [am_ix_at hk, hr1 j _ hk]
    · subst hj
      have hix0 : am_ix is 1000 = 1000 := by
        unfold am_ix
        rw [List.getD_eq_getElem?_getD]
        rw [List.getElem?_eq_none hil]
        rfl
      rw [hix0, hr2 1000 h1000, hE1.1 1000 (Or.inr rfl)]
      simp only [hix0]
  have hlenp := am_put_len is (h1.map (Option.map (am_rn is))) h
  have hin : ∀ (k i : Nat), is[k]? = some i → ∃ o, h1[k]? = some o ∧ (am_put is (h1.map (Option.map (am_rn is))) h)[i]? = some (o.map (am_rn is)) := by
    intro k i hk
    have hk2 : k < h1.length := by rw [hl1, ← hl]; exact (List.getElem?_eq_some_iff.mp hk).1
    obtain ⟨o, ho⟩ : ∃ o, h1[k]? = some o := ⟨_, List.getElem?_eq_getElem hk2⟩
    obtain ⟨o2, -, h4⟩ := hisb k i hk
    exact ⟨o, ho, am_put_in is _ h hinj k i _ hk (by rw [List.getElem?_map, ho]; rfl) (List.getElem?_eq_some_iff.mp h4).1⟩
  have hAin : ∀ q, am_A (fun j => r (am_ix is j)) hc H.size q → A q := by
    intro q hq
    rcases hq with ⟨k, c0, hk, rfl⟩ | hq
    · obtain ⟨i, h3, h4⟩ := hget k _ hk
      simp only [am_ix_at h3]
      exact hZ.2.2 i _ h4
    · exact X.2.2.2.2.2.2.1 q (Nat.le_trans hS.1 hq)
  have hold : ∀ (i : Nat) (c0 : am_C), i ∉ is → h[i]? = some (some c0) → r i < H.size ∧ ¬ am_A (fun j => r (am_ix is j)) hc H.size (r i) := by
    intro i c0 hi hc0
    have hlt := (hZ.1 i c0 hc0).lt
    refine ⟨hlt, fun hq => ?_⟩
    rcases hq with ⟨k, c1, hk, he⟩ | hq
    · obtain ⟨i', h3, h4⟩ := hget k _ hk
      simp only [am_ix_at h3] at he
      have := hZ.2.1 i' i _ _ h4 hc0 he
      subst this
      exact hi (List.mem_of_getElem? h3)
    · have hlt2 : r i < H.size := hlt
      omega
  -- the world behind the call
  have hZ2 : am_Z D cy r1 (am_put is (h1.map (Option.map (am_rn is))) h) A T'.heap := by
    refine ⟨fun i c0 hi => ?_, fun i j c0 d0 hi hj he => ?_, fun i c0 hi => ?_⟩
    · by_cases hm : i ∈ is
      · obtain ⟨k, hk⟩ := List.getElem?_of_mem hm
        obtain ⟨o, ho, hp⟩ := hin k i hk
        rw [hi] at hp
        cases o with
        | none => cases hp
        | some c1 =>
          have ec : c0 = am_rn is c1 := Option.some.inj (Option.some.inj hp)
          rw [ec, am_e_rn, hr1 k i hk, am_okc_eq (r := r1c) (List.all_eq_true.mp hok1 _ (List.mem_of_getElem? ho)) hix]
          exact hZ1.1 k c1 ho
      · rw [am_put_out is _ h i hm] at hi
        obtain ⟨g1, g2⟩ := hold i c0 hm hi
        have ec : am_e cy r1 c0 = am_e cy r c0 := by
          refine am_e_eq (fun j => ⟨fun o eo hmem => hkeep j ?_, fun l0 el hmem => hkeep j ?_⟩)
          · rintro ⟨b1, -, -⟩
            have b2 := List.all_eq_true.mp b1 _ (List.mem_of_getElem? hi)
            subst eo
            have b3 := List.all_eq_true.mp (show o.2.all (am_nv j) = true from b2) _ hmem
            exact am_nv_ne b3 j rfl rfl
          · rintro ⟨b1, -, -⟩
            have b2 := List.all_eq_true.mp b1 _ (List.mem_of_getElem? hi)
            subst el
            have b3 := List.all_eq_true.mp (show l0.all _ = true from b2) _ hmem
            simp at b3
        rw [ec, hr2 i hm]
        exact (hZ.1 i c0 hi).kept (hF2.2 (r i) g1 g2)
    · by_cases hm : i ∈ is <;> by_cases hm2 : j ∈ is
      · obtain ⟨k, hk⟩ := List.getElem?_of_mem hm
        obtain ⟨k2, hk2⟩ := List.getElem?_of_mem hm2
        obtain ⟨o, ho, hp⟩ := hin k i hk
        obtain ⟨o2, ho2, hp2⟩ := hin k2 j hk2
        rw [hi] at hp
        rw [hj] at hp2
        cases o with
        | none => cases hp
        | some c1 =>
          cases o2 with
          | none => cases hp2
          | some c2 =>
            rw [hr1 k i hk, hr1 k2 j hk2] at he
            have := hZ1.2.1 k k2 c1 c2 ho ho2 he
            subst this
            exact Option.some.inj (hk.symm.trans hk2)
      · exfalso
        obtain ⟨k, hk⟩ := List.getElem?_of_mem hm
        obtain ⟨o, ho, hp⟩ := hin k i hk
        rw [hi] at hp
        rw [am_put_out is _ h j hm2] at hj
        cases o with
        | none => cases hp
        | some c1 =>
          rw [hr1 k i hk, hr2 j hm2] at he
          have := hZ1.2.2 k c1 ho
          rw [he] at this
          exact (hold j d0 hm2 hj).2 this
      · exfalso
        obtain ⟨k, hk⟩ := List.getElem?_of_mem hm2
        obtain ⟨o, ho, hp⟩ := hin k j hk
        rw [hj] at hp
        rw [am_put_out is _ h i hm] at hi
        cases o with
        | none => cases hp
        | some c1 =>
          rw [hr1 k j hk, hr2 i hm] at he
          have := hZ1.2.2 k c1 ho
          rw [← he] at this
          exact (hold i c0 hm hi).2 this
      · rw [am_put_out is _ h i hm] at hi
        rw [am_put_out is _ h j hm2] at hj
        rw [hr2 i hm, hr2 j hm2] at he
        exact hZ.2.1 i j _ _ hi hj he
    · by_cases hm : i ∈ is
      · obtain ⟨k, hk⟩ := List.getElem?_of_mem hm
        obtain ⟨o, ho, hp⟩ := hin k i hk
        rw [hi] at hp
        cases o with
        | none => cases hp
        | some c1 =>
          rw [hr1 k i hk]
          exact hAin _ (hZ1.2.2 k c1 ho)
      · rw [am_put_out is _ h i hm] at hi
        rw [hr2 i hm]
        exact hZ.2.2 i c0 hi
  have hE2 : am_E P0 r0 N0 r1 (am_put is (h1.map (Option.map (am_rn is))) h) := by
    refine ⟨fun i hi => ?_, fun i hi => ?_, by rw [hlenp]; exact hE.2.2⟩
    · rw [← hE.1 i hi]
      by_cases hm : i ∈ is
      · obtain ⟨k, hk⟩ := List.getElem?_of_mem hm
        refine hstay k i hk (fun z => ?_)
        obtain ⟨o, ho, h4⟩ := hisb k i hk
        have : o = none := Option.some.inj (ho.symm.trans z)
        subst this
        exact hE.2.1 i hi h4
      · exact hr2 i hm
    · by_cases hm : i ∈ is
      · obtain ⟨k, hk⟩ := List.getElem?_of_mem hm
        obtain ⟨o, ho, hp⟩ := hin k i hk
        obtain ⟨o2, ho2, h4⟩ := hisb k i hk
        rw [hp]
        intro z
        cases o with
        | some c1 => cases z
        | none =>
          cases o2 with
          | none => exact hE.2.1 i hi h4
          | some c2 => exact hE1.2.1 k (Or.inl ⟨c2, ho2⟩) ho
      · rw [am_put_out is _ h i hm]
        exact hE.2.1 i hi
  have hS2 : va_S A s.heap T'.heap (locs ++ L) := by
    refine ⟨Nat.le_trans hS.1 hF2.1, fun q g1 g2 => ?_, fun q hq => ?_⟩
    · rw [hF2.2 q (Nat.lt_of_lt_of_le g1 hS.1) (fun z => g2 (hAin q z))]
      exact hS.2.1 q g1 g2
    · rcases List.mem_append.mp hq with hq | hq
      · exact hS.2.2 q hq
      · exact hAin _ (hLf q hq)
  have hst : st.map (am_v r1) = st.map (am_v r) := List.map_congr_left (fun v hv => am_v_eq (fun i ei => hkeep i (by
    rintro ⟨-, -, b⟩
    exact am_nv_ne (List.all_eq_true.mp b v hv) i ei rfl)))
  have hL2 : am_L lc M.2.2.1 ls r1 := ⟨lv, hlv, fun j v hj => by
    rw [am_v_eq (r := r) (fun i ei => hkeep i (by
      rintro ⟨-, b, -⟩
      exact am_nv_ne (List.all_eq_true.mp b _ (List.mem_of_getElem? hj)) i ei rfl))]
    exact hlm j v hj⟩
  have w := k v h1 hz hl1 p l e R s m args below meth c Q D cy A r0 P0 N0 X hR r1 T'.heap (locs ++ L) (cells + n1) (slots + s1) lc hZ2 hS2 hL2 hE2 ⟨by omega, by omega⟩
  have hret : ((v.map (am_v (am_ix is))).toList ++ st).map (am_v r1) = (v.map (am_v r1c)).toList ++ st.map (am_v r) := by
    rw [List.map_append, hst]
    congr 1
    cases v with
    | none => rfl
    | some u =>
      show [am_v r1 (am_v (am_ix is) u)] = [am_v r1c u]
      rw [am_v_v, am_okv_eq (r := r1c) (hok2 u rfl) hix]
  rw [hret] at w
  obtain ⟨t2, a1, b1⟩ := w T' rfl X2
  exact ⟨t2, go t2 a1, b1⟩
/-- a call's static facts: index, callee, number of arguments -/
def am_cb (M : am_M) (idx : Nat) (M' : am_M) (n : Nat) : Prop := Cond.code M'.1 M'.2.1 M'.2.2.1 M'.2.2.2.1 ∈ am_T ∧ Cond.initialized M'.1.cls ∈ am_T ∧ (M'.1.cls ≠ "java/lang/invoke/MethodHandle" ∧ M'.1.cls ≠ "java/lang/invoke/VarHandle" ∧ (parseMethodDescriptor M'.1.desc).map (fun d => d.parameters.length) = some n) ∧ M'.2.2.2.2.1 + 1 ≤ M.2.2.2.2.1 ∧ 8 + (M'.2.2.1 + 11) + M'.2.2.2.2.2 ≤ M.2.2.2.2.2
theorem am_good_T : ∀ w ∈ am_T, goodWord w = true := fun w hw => (List.mem_filter.mp hw).2
theorem am_goodIn (hc : Cond.code M'.1 M'.2.1 M'.2.2.1 M'.2.2.2.1 ∈ am_T) : GoodIn am_T (am_ws M') := by
  intro w hw
  rcases List.mem_cons.mp hw with rfl | hw
  · exact ⟨hc, good_of_word (am_good_T _ hc)⟩
  · exact ⟨hw, good_of_word (am_good_T _ hw)⟩
theorem am_blind {D : va_G} {cy : Nat → ClassId} {r : Nat → Nat} {args : List Value} {h : am_H} {sz : Nat} : FrameBlind (am_Pc D cy r args h sz) := fun a U g mk q => by
  obtain ⟨q0, q1, q2, q3⟩ := q
  exact ⟨q0, q1, q2, am_K.same (s := U) (U := U.calling g mk a) rfl q3⟩
theorem am_cat_map (r : Nat → Nat) (st : List Value) : ((st.map (am_v r)).map fun v => v.category).sum = (st.map fun v => v.category).sum := by
  rw [List.map_map]
  congr 1
  exact List.map_congr_left (fun v _ => am_v_cat r v)
theorem am_pre {D : va_G} {cy : Nat → ClassId} {r : Nat → Nat} {A : Nat → Prop} {H : Heap} {s : State} {args' as : List Value} (hsub : is.map (fun i => h[i]?) = hc.map (fun o => some (o.map (am_rn is)))) (hnd : va_nd is = true) (z : am_Z D cy r h A H) (hK : am_K D cy s) (ha : args'.map (am_v (am_ix is)) = as) : ∀ U : State, U.heap = H → s.WarmedH U.vm → am_Pc D cy (fun j => r (am_ix is j)) args' hc H.size (as.map (am_v r)).toArray U := by
  intro U hU hW
  refine ⟨?_, by rw [hU], by rw [hU]; exact z.sub hsub hnd _, hK.warm hW⟩
  rw [← ha, List.map_map]
  congr 1
  exact List.map_congr_left (fun v _ => am_v_v r (am_ix is) v)
/-- invokevirtual -/
theorem am_callV {idx n b ci : Nat} {fs args' As : List Value} {T : u_T} {N : Nat} (hd : decode M.2.1 pc = .ok (.invokevirtual idx, 3)) (cb : am_cb M idx M' n) (hl : Cond.methodLink M.1.cls idx M'.1 ∈ am_T) (hi : Cond.instanceMethod M'.1 ∈ am_T) (hsel : Cond.selects M'.1.cls M'.1 M'.1 ∈ am_T) (hcl : vwCl[ci]? = some (M'.1.cls, T, N))
    (hM : am_Met M' args' hc n1 s1 Zc) (hb : h[b]? = some (some (.inr (.inr (ci, fs))))) (ha : args'.map (am_v (am_ix is)) = .ref b :: As) (hAs : As.length = n) (hst0 : As.reverse ++ .ref b :: st = st0) (hcat : (st.map fun v => v.category).sum ≤ 8)
    (hsub : is.map (fun i => h[i]?) = hc.map (fun o => some (o.map (am_rn is)))) (hnd : va_nd is = true) (hlen : h.length ≤ 1000) (hil : is.length ≤ 1000) (hfr : am_fr is hc h ls st = true) (hn : n1 ≤ nc ∧ s1 ≤ ns)
    (hok : ∀ v h1, Zc v h1 → am_okh hc.length h1 = true ∧ ∀ w, v = some w → am_okv hc.length w = true)
    (k : ∀ v h1, Zc v h1 → h1.length = hc.length → am_Ok M sc Z (nc - n1) (ns - s1) (pc + 3) ls ((v.map (am_v (am_ix is))).toList ++ st) (am_put is (h1.map (Option.map (am_rn is))) h)) : am_Ok M sc Z nc ns pc ls st0 h := by
  obtain ⟨c1, c2, c3, c4, c5⟩ := cb
  subst hst0
  refine am_callcore hsub hnd hlen hil hfr hn hok (fun {p l e R s m args below meth c H locs cells slots lc D cy A r0 P0} r X hZ hlc hf => ?_) k
  obtain ⟨ws, hP, hD, cov⟩ := hZ.toW
  obtain ⟨q0, hq0⟩ := cov b _ hb
  refine ⟨_, va_runV (own := M.1.cls) (C := M'.1.cls) (nL := M.2.2.1) (As := As.map (am_v r)) (b := r b) (bytes := M'.2.1) (maxL := M'.2.2.1) (ret := M'.2.2.2.1) (n := n) ⟨X.1, X.2.1, X.2.2.1, X.2.2.2.1, X.2.2.2.2.1⟩ (hM l D cy (fun j => r (am_ix is j)) H.size)
    ⟨callB_of n X.2.2.2.2.1 (am_goodIn c1) rfl rfl rfl (X.2.2.2.2.1 _ c2) (X.2.2.2.2.1 _ hl) c3 ⟨by rw [X.2.2.2.2.2.2.2.1]; exact c4, by rw [X.2.2.2.2.2.2.2.2.1]; exact c5⟩, X.2.2.2.2.1 _ hi, X.2.2.2.2.1 _ hsel⟩
    ⟨am_blind, va_recv X.2.2.2.2.2.1.1 hP hcl hq0, am_pre (as := .ref b :: As) hsub hnd hZ X.2.2.2.2.2.1 ha⟩ rfl (by rw [List.length_map]; exact hAs) hlc (by simp [am_v]) ?_ hd hf⟩
  rw [am_cat_map]
  show 2 * 0 + _ ≤ 8
  omega
/-- invokestatic -/
theorem am_callS {idx n : Nat} {args' As : List Value} (hd : decode M.2.1 pc = .ok (.invokestatic idx, 3)) (cb : am_cb M idx M' n) (hl : Cond.methodLink M.1.cls idx M'.1 ∈ am_T) (hs : Cond.static M'.1 ∈ am_T)
    (hM : am_Met M' args' hc n1 s1 Zc) (ha : args'.map (am_v (am_ix is)) = As) (hAs : As.length = n) (hst0 : As.reverse ++ st = st0) (hcat : (st.map fun v => v.category).sum ≤ 8)
    (hsub : is.map (fun i => h[i]?) = hc.map (fun o => some (o.map (am_rn is)))) (hnd : va_nd is = true) (hlen : h.length ≤ 1000) (hil : is.length ≤ 1000) (hfr : am_fr is hc h ls st = true) (hn : n1 ≤ nc ∧ s1 ≤ ns)
    (hok : ∀ v h1, Zc v h1 → am_okh hc.length h1 = true ∧ ∀ w, v = some w → am_okv hc.length w = true)
    (k : ∀ v h1, Zc v h1 → h1.length = hc.length → am_Ok M sc Z (nc - n1) (ns - s1) (pc + 3) ls ((v.map (am_v (am_ix is))).toList ++ st) (am_put is (h1.map (Option.map (am_rn is))) h)) : am_Ok M sc Z nc ns pc ls st0 h := by
  obtain ⟨c1, c2, c3, c4, c5⟩ := cb
  subst hst0
  refine am_callcore hsub hnd hlen hil hfr hn hok (fun {p l e R s m args below meth c H locs cells slots lc D cy A r0 P0} r X hZ hlc hf => ?_) k
  refine ⟨_, va_runS (own := M.1.cls) (nL := M.2.2.1) (As := As.map (am_v r)) (bytes := M'.2.1) (maxL := M'.2.2.1) (ret := M'.2.2.2.1) (n := n) ⟨X.1, X.2.1, X.2.2.1, X.2.2.2.1, X.2.2.2.2.1⟩ (hM l D cy (fun j => r (am_ix is j)) H.size)
    ⟨callB_of n X.2.2.2.2.1 (am_goodIn c1) rfl rfl rfl (X.2.2.2.2.1 _ c2) (X.2.2.2.2.1 _ hl) c3 ⟨by rw [X.2.2.2.2.2.2.2.1]; exact c4, by rw [X.2.2.2.2.2.2.2.2.1]; exact c5⟩, X.2.2.2.2.1 _ hs⟩
    ⟨am_blind, am_pre (as := As) hsub hnd hZ X.2.2.2.2.2.1 ha⟩ rfl (by rw [List.length_map]; exact hAs) hlc (by simp) ?_ hd hf⟩
  rw [am_cat_map]
  show 2 * 0 + _ ≤ 8
  omega
/-- invokestatic of a nest mate's private method -/
theorem am_callSN {idx n : Nat} {host : String} {args' As : List Value} (hd : decode M.2.1 pc = .ok (.invokestatic idx, 3)) (cb : am_cb M idx M' n) (hl : Cond.methodLinkNest M.1.cls idx M'.1 host ∈ am_N) (hs : Cond.static M'.1 ∈ am_T)
    (hM : am_Met M' args' hc n1 s1 Zc) (ha : args'.map (am_v (am_ix is)) = As) (hAs : As.length = n) (hst0 : As.reverse ++ st = st0) (hcat : (st.map fun v => v.category).sum ≤ 8)
    (hsub : is.map (fun i => h[i]?) = hc.map (fun o => some (o.map (am_rn is)))) (hnd : va_nd is = true) (hlen : h.length ≤ 1000) (hil : is.length ≤ 1000) (hfr : am_fr is hc h ls st = true) (hn : n1 ≤ nc ∧ s1 ≤ ns)
    (hok : ∀ v h1, Zc v h1 → am_okh hc.length h1 = true ∧ ∀ w, v = some w → am_okv hc.length w = true)
    (k : ∀ v h1, Zc v h1 → h1.length = hc.length → am_Ok M sc Z (nc - n1) (ns - s1) (pc + 3) ls ((v.map (am_v (am_ix is))).toList ++ st) (am_put is (h1.map (Option.map (am_rn is))) h)) : am_Ok M sc Z nc ns pc ls st0 h := by
  obtain ⟨c1, c2, c3, c4, c5⟩ := cb
  subst hst0
  refine am_callcore hsub hnd hlen hil hfr hn hok (fun {p l e R s m args below meth c H locs cells slots lc D cy A r0 P0} r X hZ hlc hf => ?_) k
  refine ⟨_, va_runSN (own := M.1.cls) (host := host) (nL := M.2.2.1) (As := As.map (am_v r)) (bytes := M'.2.1) (maxL := M'.2.2.1) (ret := M'.2.2.2.1) (n := n) ⟨X.1, X.2.1, X.2.2.1, X.2.2.2.1, X.2.2.2.2.1⟩ (hM l D cy (fun j => r (am_ix is j)) H.size)
    ⟨va_cnB n X.2.2.2.2.1 (am_goodIn c1) rfl rfl rfl (X.2.2.2.2.2.1.2.1 _ hl) (X.2.2.2.2.1 _ c2) c3 ⟨by rw [X.2.2.2.2.2.2.2.1]; exact c4, by rw [X.2.2.2.2.2.2.2.2.1]; exact c5⟩, X.2.2.2.2.1 _ hs, trivial⟩
    ⟨am_blind, am_pre (as := As) hsub hnd hZ X.2.2.2.2.2.1 ha⟩ rfl (by rw [List.length_map]; exact hAs) hlc (by simp) ?_ hd hf⟩
  rw [am_cat_map]
  show 2 * 0 + _ ≤ 8
  omega
/-- invokespecial of a constructor -/
theorem am_callI {idx n b : Nat} {args' As : List Value} (hd : decode M.2.1 pc = .ok (.invokespecial idx, 3)) (cb : am_cb M idx M' n) (hret : M'.2.2.2.1 = none) (hy1 : M'.1.name = "<init>") (hl : Cond.methodLink M.1.cls idx M'.1 ∈ am_T) (hi : Cond.instanceMethod M'.1 ∈ am_T)
    (hM : am_Met M' args' hc n1 s1 Zc) (ha : args'.map (am_v (am_ix is)) = .ref b :: As) (hAs : As.length = n) (hst0 : As.reverse ++ .ref b :: st = st0) (hcat : (st.map fun v => v.category).sum ≤ 8)
    (hsub : is.map (fun i => h[i]?) = hc.map (fun o => some (o.map (am_rn is)))) (hnd : va_nd is = true) (hlen : h.length ≤ 1000) (hil : is.length ≤ 1000) (hfr : am_fr is hc h ls st = true) (hn : n1 ≤ nc ∧ s1 ≤ ns)
    (hok : ∀ v h1, Zc v h1 → am_okh hc.length h1 = true ∧ ∀ w, v = some w → am_okv hc.length w = true)
    (k : ∀ v h1, Zc v h1 → h1.length = hc.length → am_Ok M sc Z (nc - n1) (ns - s1) (pc + 3) ls ((v.map (am_v (am_ix is))).toList ++ st) (am_put is (h1.map (Option.map (am_rn is))) h)) : am_Ok M sc Z nc ns pc ls st0 h := by
  obtain ⟨c1, c2, c3, c4, c5⟩ := cb
  subst hst0
  refine am_callcore hsub hnd hlen hil hfr hn hok (fun {p l e R s m args below meth c H locs cells slots lc D cy A r0 P0} r X hZ hlc hf => ?_) k
  refine ⟨_, va_runI (own := M.1.cls) (nL := M.2.2.1) (As := As.map (am_v r)) (b := r b) (bytes := M'.2.1) (maxL := M'.2.2.1) (n := n) ⟨X.1, X.2.1, X.2.2.1, X.2.2.2.1, X.2.2.2.2.1⟩ (hM l D cy (fun j => r (am_ix is j)) H.size)
    ⟨callB_of n X.2.2.2.2.1 (am_goodIn c1) (by rw [am_ws, hret]) rfl rfl (X.2.2.2.2.1 _ c2) (X.2.2.2.2.1 _ hl) c3 ⟨by rw [X.2.2.2.2.2.2.2.1]; exact c4, by rw [X.2.2.2.2.2.2.2.2.1]; exact c5⟩, hy1, X.2.2.2.2.1 _ hi⟩
    ⟨am_blind, am_pre (as := .ref b :: As) hsub hnd hZ X.2.2.2.2.2.1 ha⟩ rfl (by rw [List.length_map]; exact hAs) hlc (by simp [am_v]) ?_ hd hf⟩
  rw [am_cat_map]
  show 2 * 0 + _ ≤ 8
  omega
/-- Object.<init> -/
theorem am_objInit {idx a : Nat} (hd : decode M.2.1 pc = .ok (.invokespecial idx, 3)) (hl : Cond.methodLink M.1.cls idx objectInit ∈ am_T) (hi : Cond.instanceMethod objectInit ∈ am_T) (hc1 : Cond.code objectInit ⟨#[0xb1]⟩ 1 none ∈ am_T) (hcat : (st.map fun v => v.category).sum ≤ 8) (hfr : 1 ≤ M.2.2.2.2.1) (hlo : 20 ≤ M.2.2.2.2.2) (k : am_Ok M sc Z nc ns (pc + 3) ls st h) : am_Ok M sc Z nc ns pc ls (.ref a :: st) h := by
  intro p l e R s m args below meth c Q D cy A r0 P0 N0 X hR r H locs cells slots lc hZ hS hL hE hN
  obtain ⟨lv, hlv, -⟩ := id hL
  refine W.objInit (g := F0 m pc lc (.ref (r a) :: st.map (am_v r))) X.1 X.2.1 X.2.2.2.1 (X.2.2.2.2.1 _ hl) (X.2.2.2.2.1 _ hi) (X.2.2.2.2.1 _ hc1) rfl (by rw [X.2.2.1]; exact hlv.1) rfl hd (by rw [X.2.2.2.2.2.2.2.1]; exact hfr) ?_ (k p l e R s m args below meth c Q D cy A r0 P0 N0 X hR r H locs cells slots lc hZ hS hL hE hN)
  rw [am_cat_map, X.2.2.2.2.2.2.2.2.1]
  show 2 * 0 + _ + 12 ≤ _
  omega
end AMC
end
section
/-! the rules as the printed walks use them -/
abbrev Mu : Type := Nat → Nat → Int32
def mu_set (m : Mu) (a : Nat) (f : Nat → Int32) : Mu := fun b => cond (Nat.beq b a) f (m b)
def mu_up (m : Mu) (a i : Nat) (x : Int32) : Mu := mu_set m a (upd (m a) i x)
def mu_sub (m : Mu) (o : Nat) : Mu := fun a => m (o + a)
def mu_put (m : Mu) (o n : Nat) (k : Mu) : Mu := fun a => cond (Nat.ble o a && Nat.blt a (o + n)) (k (a - o)) (m a)
def am_rem (x y : Int32) : Int32 := x - x / y * y
def am_ush (x y : Int32) : Int32 := (x.toUInt32 >>> (y.toUInt32 &&& Int32.toUInt32 31)).toInt32
def zI (F : Mu → am_H) (K : Int32 → Mu → Prop) : Option Value → am_H → Prop := fun v h => ∃ (x : Int32) (m : Mu), v = some (.int x) ∧ h = F m ∧ K x m
def zV (F : Mu → am_H) (K : Mu → Prop) : Option Value → am_H → Prop := fun v h => ∃ m : Mu, v = none ∧ h = F m ∧ K m
def zP (h0 : am_H) (K : Int32 → Prop) : Option Value → am_H → Prop := fun v h => ∃ x : Int32, v = some (.int x) ∧ h = h0 ∧ K x
/-- a reference of its own world comes back -/
def zQ (h0 : am_H) (K : Nat → Prop) : Option Value → am_H → Prop := fun v h => ∃ j : Nat, v = some (.ref j) ∧ h = h0 ∧ j < h0.length ∧ K j
theorem am_Met.of2 {M : am_M} {args : List Value} {h : am_H} {nc ns : Nat} {Z : Option Value → am_H → Prop} {ls : List (Option Value)} (hy : plainFor M.1 = true) (hh : Nat.ble h.length 1000 = true) (hc : (args.all fun v => Nat.beq v.category 1) = true) (hn : Nat.ble args.length M.2.2.1 = true) (hl : am_l0 M.2.2.1 args = ls) (k : am_Ok M none Z nc ns 0 ls [] h) : am_Met M args h nc ns Z :=
  am_Met.of hy (Nat.le_of_ble_eq_true hh) (fun v hv => Nat.eq_of_beq_eq_true (List.all_eq_true.mp hc v hv)) (Nat.le_of_ble_eq_true hn) (by rw [hl]; exact k)
section AMI
variable {M M' : am_M} {sc : Option (Nat × (Nat → Int32))} {Z Zc : Option Value → am_H → Prop} {nc ns n1 s1 pc : Nat} {ls ls' : List (Option Value)} {st st0 : List Value} {h hc : am_H} {is : List Nat}
theorem am_top {x : Int32} (k : ∀ y : Int32, y = x → am_Ok M sc Z nc ns pc ls (.int y :: st) h) : am_Ok M sc Z nc ns pc ls (.int x :: st) h := k x rfl
theorem am_hm {F : Mu → am_H} {m : Mu} (e : h = F m) (k : ∀ m' : Mu, m' = m → am_Ok M sc Z nc ns pc ls st (F m')) : am_Ok M sc Z nc ns pc ls st h := by rw [e]; exact k m rfl
theorem am_hp {h2 : am_H} (e : h = h2) (k : am_Ok M sc Z nc ns pc ls st h2) : am_Ok M sc Z nc ns pc ls st h := by rw [e]; exact k
theorem am_lp (e : ls = ls') (k : am_Ok M sc Z nc ns pc ls' st h) : am_Ok M sc Z nc ns pc ls st h := by rw [e]; exact k
/-- locals that are forgotten -/
def am_mk : List Bool → List (Option Value) → List (Option Value)
  | b :: bs, o :: os => cond b o none :: am_mk bs os
  | _, os => os
theorem am_mk_at : ∀ (bs : List Bool) (os : List (Option Value)) (k : Nat) (v : Value), (am_mk bs os)[k]? = some (some v) → os[k]? = some (some v)
  | [], _, _, _, h => h
  | _ :: _, [], _, _, h => h
  | b :: bs, o :: os, 0, v, h => by
    cases b with
    | true => exact h
    | false => cases h
  | b :: bs, o :: os, k + 1, v, h => am_mk_at bs os k v h
theorem am_forget (bs : List Bool) (e : am_mk bs ls = ls') (k : am_Ok M sc Z nc ns pc ls' st h) : am_Ok M sc Z nc ns pc ls st h := by
  intro p l e' R s m args below meth c Q D cy A r0 P0 N0 X hR r H locs cells slots lc hZ hS hL hE hN
  refine k p l e' R s m args below meth c Q D cy A r0 P0 N0 X hR r H locs cells slots lc hZ hS ?_ hE hN
  obtain ⟨lv, h1, h2⟩ := hL
  exact ⟨lv, h1, fun j v hj => h2 j v (am_mk_at bs ls j v (by rw [e]; exact hj))⟩
theorem am_irem' {x y : Int32} (hd : decode M.2.1 pc = .ok (.irem, 1)) (hy : ¬ y = 0) (k : am_Ok M sc Z nc ns (pc + 1) ls (.int (am_rem x y) :: st) h) : am_Ok M sc Z nc ns pc ls (.int y :: .int x :: st) h := am_irem hd hy k
theorem am_iushr' {x y : Int32} (hd : decode M.2.1 pc = .ok (.iushr, 1)) (k : am_Ok M sc Z nc ns (pc + 1) ls (.int (am_ush x y) :: st) h) : am_Ok M sc Z nc ns pc ls (.int y :: .int x :: st) h := am_iushr hd k
theorem am_istore_n' {i : Fin 4} {x : Int32} (hd : decode M.2.1 pc = .ok (.istore_n i, 1)) (hi : Nat.blt i M.2.2.1 = true) (hls : ls.length = M.2.2.1) (hs : ls.set i (some (.int x)) = ls') (k : am_Ok M sc Z nc ns (pc + 1) ls' st h) : am_Ok M sc Z nc ns pc ls (.int x :: st) h := am_istore_n hd (Nat.le_of_ble_eq_true hi) hls (by rw [hs]; exact k)
theorem am_istore' {i : Nat} {x : Int32} (hd : decode M.2.1 pc = .ok (.istore i, 2)) (hi : Nat.blt i M.2.2.1 = true) (hls : ls.length = M.2.2.1) (hs : ls.set i (some (.int x)) = ls') (k : am_Ok M sc Z nc ns (pc + 2) ls' st h) : am_Ok M sc Z nc ns pc ls (.int x :: st) h := am_istore hd (Nat.le_of_ble_eq_true hi) hls (by rw [hs]; exact k)
theorem am_astore_n' {i : Fin 4} {x : Nat} (hd : decode M.2.1 pc = .ok (.astore_n i, 1)) (hi : Nat.blt i M.2.2.1 = true) (hls : ls.length = M.2.2.1) (hs : ls.set i (some (.ref x)) = ls') (k : am_Ok M sc Z nc ns (pc + 1) ls' st h) : am_Ok M sc Z nc ns pc ls (.ref x :: st) h := am_astore_n hd (Nat.le_of_ble_eq_true hi) hls (by rw [hs]; exact k)
theorem am_astore' {i : Nat} {x : Nat} (hd : decode M.2.1 pc = .ok (.astore i, 2)) (hi : Nat.blt i M.2.2.1 = true) (hls : ls.length = M.2.2.1) (hs : ls.set i (some (.ref x)) = ls') (k : am_Ok M sc Z nc ns (pc + 2) ls' st h) : am_Ok M sc Z nc ns pc ls (.ref x :: st) h := am_astore hd (Nat.le_of_ble_eq_true hi) hls (by rw [hs]; exact k)
/-- iinc, the new number named -/
theorem am_iinc' {i : Nat} {n : Int} {x d : Int32} {lf : Int32 → List (Option Value)} (hd : decode M.2.1 pc = .ok (.iinc i n, 3)) (hi : Nat.blt i M.2.2.1 = true) (hls : ls.length = M.2.2.1) (hl : ls[i]? = some (some (.int x))) (hv : Int32.ofInt n = d) (hs : ∀ y, ls.set i (some (.int y)) = lf y) (k : ∀ y : Int32, y = x + d → am_Ok M sc Z nc ns (pc + 3) (lf y) st h) : am_Ok M sc Z nc ns pc ls st h :=
  am_iinc (v := x + d) hd (Nat.le_of_ble_eq_true hi) hls hl (by rw [hv]) (by rw [hs]; exact k _ rfl)
theorem am_putf' {F : Mu → am_H} {m : Mu} {idx q ci i : Nat} {fs : List Value} {x : Int32} (hd : decode M.2.1 pc = .ok (.putfield idx, 3)) (hf : am_fp M.1.cls idx ci i .int false) (hq : h[q]? = some (some (.inr (.inr (ci, fs))))) (hi : Nat.blt i fs.length = true) (e : h.set q (some (.inr (.inr (ci, fs.set i (.int x))))) = F m) (k : ∀ m' : Mu, m' = m → am_Ok M sc Z nc ns (pc + 3) ls st (F m')) : am_Ok M sc Z nc ns pc ls (.int x :: .ref q :: st) h :=
  am_putf hd hf (fun z => by cases z) (fun _ => ⟨rfl, rfl⟩) hq (Nat.le_of_ble_eq_true hi) (am_hm e k)
theorem am_iastore' {F : Mu → am_H} {m : Mu} {q n : Nat} {f : Nat → Int32} {i x : Int32} (hd : decode M.2.1 pc = .ok (.iastore, 1)) (hq : h[q]? = some (some (.inl (0, n, f)))) (hi : vp_in i n) (e : h.set q (some (.inl (0, n, upd f i.toNatClampNeg x))) = F m) (k : ∀ m' : Mu, m' = m → am_Ok M sc Z nc ns (pc + 1) ls st (F m')) : am_Ok M sc Z nc ns pc ls (.int x :: .int i :: .ref q :: st) h := am_iastore hd hq hi (am_hm e k)
theorem am_bastore' {F : Mu → am_H} {m : Mu} {q n : Nat} {f : Nat → Int32} {i x : Int32} (hd : decode M.2.1 pc = .ok (.bastore, 1)) (hq : h[q]? = some (some (.inl (1, n, f)))) (hi : vp_in i n) (e : h.set q (some (.inl (1, n, upd f i.toNatClampNeg (vp_nar .boolean x)))) = F m) (k : ∀ m' : Mu, m' = m → am_Ok M sc Z nc ns (pc + 1) ls st (F m')) : am_Ok M sc Z nc ns pc ls (.int x :: .int i :: .ref q :: st) h := am_bastore hd hq hi (am_hm e k)
-- the static facts of a call
def am_qV (M : am_M) (idx : Nat) (M' : am_M) (n : Nat) : Prop := am_cb M idx M' n ∧ Cond.methodLink M.1.cls idx M'.1 ∈ am_T ∧ Cond.instanceMethod M'.1 ∈ am_T ∧ Cond.selects M'.1.cls M'.1 M'.1 ∈ am_T
def am_qS (M : am_M) (idx : Nat) (M' : am_M) (n : Nat) : Prop := am_cb M idx M' n ∧ Cond.methodLink M.1.cls idx M'.1 ∈ am_T ∧ Cond.static M'.1 ∈ am_T
def am_qN (M : am_M) (idx : Nat) (M' : am_M) (n : Nat) : Prop := am_cb M idx M' n ∧ (∃ host, Cond.methodLinkNest M.1.cls idx M'.1 host ∈ am_N) ∧ Cond.static M'.1 ∈ am_T
def am_qI (M : am_M) (idx : Nat) (M' : am_M) (n : Nat) : Prop := am_cb M idx M' n ∧ Cond.methodLink M.1.cls idx M'.1 ∈ am_T ∧ Cond.instanceMethod M'.1 ∈ am_T
-- the same world
theorem am_ix_range (n : Nat) : am_ix (List.range n) = fun j => j := by
  funext j
  unfold am_ix
  rw [List.getD_eq_getElem?_getD]
  by_cases hj : j < n
  · rw [List.getElem?_range hj]; rfl
  · rw [List.getElem?_eq_none (by simpa using Nat.not_lt.mp hj)]; rfl
theorem am_v_id (v : Value) : am_v (fun j => j) v = v := by cases v <;> rfl
theorem am_rn_range (n : Nat) (c : am_C) : am_rn (List.range n) c = c := by
  rcases c with a | l | o
  · rfl
  · simp only [am_rn, am_ix_range]
    congr 2
    conv => rhs; rw [← List.map_id l]
    exact List.map_congr_left (fun o _ => by cases o <;> rfl)
  · simp only [am_rn, am_ix_range]
    congr 2
    conv => rhs; rw [← Prod.eta o, ← List.map_id o.2]
    congr 1
    exact List.map_congr_left (fun v _ => am_v_id v)
theorem am_map_rn_range (n : Nat) (os : am_H) : os.map (Option.map (am_rn (List.range n))) = os := by
  conv => rhs; rw [← List.map_id os]
  exact List.map_congr_left (fun o _ => by
    cases o with
    | none => rfl
    | some c => show some (am_rn (List.range n) c) = some c; rw [am_rn_range])
theorem am_sub_range (h : am_H) : (List.range h.length).map (fun i => h[i]?) = h.map (fun o => some (o.map (am_rn (List.range h.length)))) := by
  apply List.ext_getElem?
  intro i
  rw [List.getElem?_map, List.getElem?_map]
  by_cases hi : i < h.length
  · rw [List.getElem?_range hi, List.getElem?_eq_getElem hi]
    simp only [Option.map_some, List.getElem?_eq_getElem hi]
    congr 2
    cases h[i] with
    | none => rfl
    | some c => show some c = some (am_rn _ c); rw [am_rn_range]
  · rw [List.getElem?_eq_none (by simpa using Nat.not_lt.mp hi), List.getElem?_eq_none (Nat.not_lt.mp hi)]
    rfl
theorem am_nd_range : ∀ n, va_nd (List.range n) = true := by
  have key : ∀ (l : List Nat), l.Nodup → va_nd l = true := by
    intro l
    induction l with
    | nil => intro _; rfl
    | cons a l ih =>
      intro h
      have h1 := List.nodup_cons.mp h
      have h2 := ih h1.2
      simp [va_nd, h2, h1.1]
  exact fun n => key _ List.nodup_range
theorem am_put_range {n : Nat} {os h : am_H} (h1 : os.length = n) (h2 : h.length = n) : am_put (List.range n) os h = os := by
  apply List.ext_getElem?
  intro i
  by_cases hi : i < n
  · have ho : os[i]? = some os[i] := List.getElem?_eq_getElem (by omega)
    rw [ho]
    exact am_put_in (List.range n) os h (va_nd_inj _ (am_nd_range n)) i i _ (List.getElem?_range hi) ho (by omega)
  · rw [List.getElem?_eq_none (by rw [am_put_len]; omega), List.getElem?_eq_none (by omega)]
theorem am_fr_some : ∀ (is : List Nat) (hc h : am_H) (ls : List (Option Value)) (st : List Value), (hc.all fun o => o.isSome) = true → am_fr is hc h ls st = true
  | [], _, _, _, _, _ => by unfold am_fr; rfl
  | _ :: _, [], _, _, _, _ => by unfold am_fr; rfl
  | i :: is, none :: os, h, ls, st, hh => by simp at hh
  | i :: is, some c :: os, h, ls, st, hh => by
    have h2 : (os.all fun o => o.isSome) = true := by simpa using hh
    exact am_fr_some is os h ls st h2
/-- a family of worlds: full places, as many, references within -/
def am_fam (F : Mu → am_H) (n : Nat) : Prop := ∀ m, (F m).length = n ∧ am_okh n (F m) = true ∧ ((F m).all fun o => o.isSome) = true
theorem am_tail (v : Option Value) (st : List Value) (n : Nat) : (v.map (am_v (am_ix (List.range n)))).toList ++ st = v.toList ++ st := by
  rw [am_ix_range]
  cases v with
  | none => rfl
  | some w => show [am_v (fun j => j) w] ++ st = _; rw [am_v_id]; rfl
/-- a call on the same world (virtual) -/
theorem am_selfV {F : Mu → am_H} {n0 idx n ci : Nat} {fs args As : List Value} {T : u_T} {N : Nat} {m : Mu} {b : Nat} (hF : am_fam F n0) (hn0 : Nat.ble n0 1000 = true) (hd : decode M.2.1 pc = .ok (.invokevirtual idx, 3)) (q : am_qV M idx M' n) (hcl : vwCl[ci]? = some (M'.1.cls, T, N)) (hM : am_Met M' args (F m) 0 0 Zc) (hb : (F m)[b]? = some (some (.inr (.inr (ci, fs))))) (ha : args = .ref b :: As) (hAs : As.length = n) (hst0 : As.reverse ++ .ref b :: st = st0) (hcat : Nat.ble (st.map fun v => v.category).sum 8 = true)
    (hok : ∀ v h1, Zc v h1 → am_okh n0 h1 = true ∧ ∀ w, v = some w → am_okv n0 w = true)
    (k : ∀ v h1, Zc v h1 → am_Ok M sc Z nc ns (pc + 3) ls (v.toList ++ st) h1) : am_Ok M sc Z nc ns pc ls st0 (F m) := by
  obtain ⟨q1, q2, q3, q4⟩ := q
  have hl := (hF m).1
  have hb0 := Nat.le_of_ble_eq_true hn0
  have hmap : args.map (am_v (am_ix (List.range n0))) = args := by
    rw [am_ix_range]
    conv => rhs; rw [← List.map_id args]
    exact List.map_congr_left (fun v _ => am_v_id v)
  refine am_callV (is := List.range n0) (n1 := 0) (s1 := 0) hd q1 q2 q3 q4 hcl hM hb (by rw [hmap]; exact ha) hAs hst0 (Nat.le_of_ble_eq_true hcat) (by have := am_sub_range (F m); rw [hl] at this; exact this) (am_nd_range n0) (by rw [hl]; exact hb0) (by rw [List.length_range]; exact hb0) (am_fr_some _ _ _ _ _ (hF m).2.2) ⟨Nat.zero_le _, Nat.zero_le _⟩ (by rw [hl]; exact hok) (fun v h1 hz hl1 => ?_)
  rw [am_tail, am_map_rn_range, am_put_range (by rw [hl1, hl]) hl]
  exact k v h1 hz
/-- a call on a part of the world (virtual) -/
theorem am_partV {F : Mu → am_H} {n0 idx n ci b : Nat} {fs args' As : List Value} {T : u_T} {N : Nat} {m : Mu} (is : List Nat) (hF : am_fam F n0) (hd : decode M.2.1 pc = .ok (.invokevirtual idx, 3)) (q : am_qV M idx M' n) (hcl : vwCl[ci]? = some (M'.1.cls, T, N)) (hM : am_Met M' args' (F m) 0 0 Zc) (hb : h[b]? = some (some (.inr (.inr (ci, fs))))) (ha : args'.map (am_v (am_ix is)) = .ref b :: As) (hAs : As.length = n) (hst0 : As.reverse ++ .ref b :: st = st0) (hcat : Nat.ble (st.map fun v => v.category).sum 8 = true)
    (hsub : is.map (fun i => h[i]?) = (F m).map (fun o => some (o.map (am_rn is)))) (hnd : va_nd is = true) (hlen : Nat.ble h.length 1000 = true) (hil : Nat.ble is.length 1000 = true)
    (hok : ∀ v h1, Zc v h1 → am_okh n0 h1 = true ∧ ∀ w, v = some w → am_okv n0 w = true)
    (k : ∀ v h1, Zc v h1 → am_Ok M sc Z nc ns (pc + 3) ls ((v.map (am_v (am_ix is))).toList ++ st) (am_put is (h1.map (Option.map (am_rn is))) h)) : am_Ok M sc Z nc ns pc ls st0 h := by
  obtain ⟨q1, q2, q3, q4⟩ := q
  exact am_callV (is := is) (n1 := 0) (s1 := 0) hd q1 q2 q3 q4 hcl hM hb ha hAs hst0 (Nat.le_of_ble_eq_true hcat) hsub hnd (Nat.le_of_ble_eq_true hlen) (Nat.le_of_ble_eq_true hil) (am_fr_some _ _ _ _ _ (hF m).2.2) ⟨Nat.zero_le _, Nat.zero_le _⟩ (by rw [(hF m).1]; exact hok) (fun v h1 hz hl1 => k v h1 hz)
/-- a static call without a world -/
theorem am_stS {idx n : Nat} {As : List Value} {K : Int32 → Prop} (hd : decode M.2.1 pc = .ok (.invokestatic idx, 3)) (q : am_qS M idx M' n ∨ am_qN M idx M' n) (hM : am_Met M' As [] 0 0 (zP [] K)) (hAs : As.length = n) (hst0 : As.reverse ++ st = st0) (hcat : Nat.ble (st.map fun v => v.category).sum 8 = true) (hlen : Nat.ble h.length 1000 = true)
    (k : ∀ x : Int32, K x → am_Ok M sc Z nc ns (pc + 3) ls (.int x :: st) h) : am_Ok M sc Z nc ns pc ls st0 h := by
  have hmap : As.map (am_v (am_ix [])) = As := by
    conv => rhs; rw [← List.map_id As]
    exact List.map_congr_left (fun v _ => by
      show am_v (am_ix []) v = v
      rw [show am_ix [] = fun j => j from funext fun j => rfl, am_v_id])
  have hok : ∀ v h1, zP [] K v h1 → am_okh ([] : am_H).length h1 = true ∧ ∀ w, v = some w → am_okv ([] : am_H).length w = true := by
    rintro v h1 ⟨x, rfl, rfl, -⟩
    exact ⟨rfl, fun w hw => by cases hw; rfl⟩
  have k2 : ∀ v h1, zP [] K v h1 → h1.length = ([] : am_H).length → am_Ok M sc Z (nc - 0) (ns - 0) (pc + 3) ls ((v.map (am_v (am_ix []))).toList ++ st) (am_put [] (h1.map (Option.map (am_rn []))) h) := by
    rintro v h1 ⟨x, rfl, rfl, hK⟩ -
    exact k x hK
  rcases q with ⟨q1, q2, q3⟩ | ⟨q1, ⟨host, q2⟩, q3⟩
  · exact am_callS (is := []) (hc := []) (n1 := 0) (s1 := 0) hd q1 q2 q3 hM hmap hAs hst0 (Nat.le_of_ble_eq_true hcat) rfl rfl (Nat.le_of_ble_eq_true hlen) (Nat.zero_le _) (by unfold am_fr; rfl) ⟨Nat.zero_le _, Nat.zero_le _⟩ hok k2
  · exact am_callSN (is := []) (hc := []) (n1 := 0) (s1 := 0) hd q1 q2 q3 hM hmap hAs hst0 (Nat.le_of_ble_eq_true hcat) rfl rfl (Nat.le_of_ble_eq_true hlen) (Nat.zero_le _) (by unfold am_fr; rfl) ⟨Nat.zero_le _, Nat.zero_le _⟩ hok k2
-- what the answers' forms give
theorem zI_ok {F : Mu → am_H} {n0 : Nat} {K : Int32 → Mu → Prop} (hF : am_fam F n0) : ∀ v h1, zI F K v h1 → am_okh n0 h1 = true ∧ ∀ w, v = some w → am_okv n0 w = true := by
  rintro v h1 ⟨x, m, rfl, rfl, -⟩
  exact ⟨(hF m).2.1, fun w hw => by cases hw; rfl⟩
theorem zV_ok {F : Mu → am_H} {n0 : Nat} {K : Mu → Prop} (hF : am_fam F n0) : ∀ v h1, zV F K v h1 → am_okh n0 h1 = true ∧ ∀ w, v = some w → am_okv n0 w = true := by
  rintro v h1 ⟨m, rfl, rfl, -⟩
  exact ⟨(hF m).2.1, fun w hw => by cases hw⟩
theorem zP_ok {F : Mu → am_H} {n0 : Nat} {m : Mu} {K : Int32 → Prop} (hF : am_fam F n0) : ∀ v h1, zP (F m) K v h1 → am_okh n0 h1 = true ∧ ∀ w, v = some w → am_okv n0 w = true := by
  rintro v h1 ⟨x, rfl, rfl, -⟩
  exact ⟨(hF m).2.1, fun w hw => by cases hw; rfl⟩
theorem zQ_ok {F : Mu → am_H} {n0 : Nat} {m : Mu} {K : Nat → Prop} (hF : am_fam F n0) : ∀ v h1, zQ (F m) K v h1 → am_okh n0 h1 = true ∧ ∀ w, v = some w → am_okv n0 w = true := by
  rintro v h1 ⟨j, rfl, rfl, hj, -⟩
  refine ⟨(hF m).2.1, fun w hw => ?_⟩
  cases hw
  rw [(hF m).1] at hj
  simp [am_okv, Nat.blt_eq, hj]
end AMI
end
section
theorem am_sub_r (ws : List Cond) (ps : List Nat) (hp : ws = ps.filterMap (fun i => lw_tbl[i]?)) (hg : ws.all goodWord = true) : ∀ w ∈ ws, w ∈ am_T := by
  intro w hw
  have h1 := List.all_eq_true.mp hg w hw
  rw [hp] at hw
  obtain ⟨i, -, hi⟩ := List.mem_filterMap.mp hw
  exact am_T_in i hi h1
section AMW
variable {M M' : am_M} {sc : Option (Nat × (Nat → Int32))} {Z : Option Value → am_H → Prop} {nc ns pc : Nat} {ls : List (Option Value)} {st st0 : List Value} {h : am_H} {F : Mu → am_H} {n0 idx n ci b : Nat} {fs args As : List Value} {T : u_T} {N : Nat} {m : Mu}
theorem am_selfP {K : Int32 → Prop} (hF : am_fam F n0) (hn0 : Nat.ble n0 1000 = true) (hd : decode M.2.1 pc = .ok (.invokevirtual idx, 3)) (q : am_qV M idx M' n) (hcl : vwCl[ci]? = some (M'.1.cls, T, N)) (hM : am_Met M' args (F m) 0 0 (zP (F m) K)) (hb : (F m)[b]? = some (some (.inr (.inr (ci, fs))))) (ha : args = .ref b :: As) (hAs : As.length = n) (hst0 : As.reverse ++ .ref b :: st = st0) (hcat : Nat.ble (st.map fun v => v.category).sum 8 = true)
    (k : ∀ x, K x → am_Ok M sc Z nc ns (pc + 3) ls (.int x :: st) (F m)) : am_Ok M sc Z nc ns pc ls st0 (F m) :=
  am_selfV hF hn0 hd q hcl hM hb ha hAs hst0 hcat (zP_ok hF) (by rintro v h1 ⟨x, rfl, rfl, hK⟩; exact k x hK)
theorem am_selfQ {K : Nat → Prop} (hF : am_fam F n0) (hn0 : Nat.ble n0 1000 = true) (hd : decode M.2.1 pc = .ok (.invokevirtual idx, 3)) (q : am_qV M idx M' n) (hcl : vwCl[ci]? = some (M'.1.cls, T, N)) (hM : am_Met M' args (F m) 0 0 (zQ (F m) K)) (hb : (F m)[b]? = some (some (.inr (.inr (ci, fs))))) (ha : args = .ref b :: As) (hAs : As.length = n) (hst0 : As.reverse ++ .ref b :: st = st0) (hcat : Nat.ble (st.map fun v => v.category).sum 8 = true)
    (k : ∀ x, K x → am_Ok M sc Z nc ns (pc + 3) ls (.ref x :: st) (F m)) : am_Ok M sc Z nc ns pc ls st0 (F m) :=
  am_selfV hF hn0 hd q hcl hM hb ha hAs hst0 hcat (zQ_ok hF) (by rintro v h1 ⟨x, rfl, rfl, -, hK⟩; exact k x hK)
theorem am_selfI {K : Int32 → Mu → Prop} (hF : am_fam F n0) (hn0 : Nat.ble n0 1000 = true) (hd : decode M.2.1 pc = .ok (.invokevirtual idx, 3)) (q : am_qV M idx M' n) (hcl : vwCl[ci]? = some (M'.1.cls, T, N)) (hM : am_Met M' args (F m) 0 0 (zI F K)) (hb : (F m)[b]? = some (some (.inr (.inr (ci, fs))))) (ha : args = .ref b :: As) (hAs : As.length = n) (hst0 : As.reverse ++ .ref b :: st = st0) (hcat : Nat.ble (st.map fun v => v.category).sum 8 = true)
    (k : ∀ x m1, K x m1 → am_Ok M sc Z nc ns (pc + 3) ls (.int x :: st) (F m1)) : am_Ok M sc Z nc ns pc ls st0 (F m) :=
  am_selfV hF hn0 hd q hcl hM hb ha hAs hst0 hcat (zI_ok hF) (by rintro v h1 ⟨x, m1, rfl, rfl, hK⟩; exact k x m1 hK)
theorem am_selfU {K : Mu → Prop} (hF : am_fam F n0) (hn0 : Nat.ble n0 1000 = true) (hd : decode M.2.1 pc = .ok (.invokevirtual idx, 3)) (q : am_qV M idx M' n) (hcl : vwCl[ci]? = some (M'.1.cls, T, N)) (hM : am_Met M' args (F m) 0 0 (zV F K)) (hb : (F m)[b]? = some (some (.inr (.inr (ci, fs))))) (ha : args = .ref b :: As) (hAs : As.length = n) (hst0 : As.reverse ++ .ref b :: st = st0) (hcat : Nat.ble (st.map fun v => v.category).sum 8 = true)
    (k : ∀ m1, K m1 → am_Ok M sc Z nc ns (pc + 3) ls st (F m1)) : am_Ok M sc Z nc ns pc ls st0 (F m) :=
  am_selfV hF hn0 hd q hcl hM hb ha hAs hst0 hcat (zV_ok hF) (by rintro v h1 ⟨m1, rfl, rfl, hK⟩; exact k m1 hK)
theorem am_partP {K : Int32 → Prop} {args' : List Value} (is : List Nat) (hF : am_fam F n0) (hd : decode M.2.1 pc = .ok (.invokevirtual idx, 3)) (q : am_qV M idx M' n) (hcl : vwCl[ci]? = some (M'.1.cls, T, N)) (hM : am_Met M' args' (F m) 0 0 (zP (F m) K)) (hb : h[b]? = some (some (.inr (.inr (ci, fs))))) (ha : args'.map (am_v (am_ix is)) = .ref b :: As) (hAs : As.length = n) (hst0 : As.reverse ++ .ref b :: st = st0) (hcat : Nat.ble (st.map fun v => v.category).sum 8 = true)
    (hsub : is.map (fun i => h[i]?) = (F m).map (fun o => some (o.map (am_rn is)))) (hnd : va_nd is = true) (hlen : Nat.ble h.length 1000 = true) (hil : Nat.ble is.length 1000 = true) (hput : am_put is ((F m).map (Option.map (am_rn is))) h = h)
    (k : ∀ x, K x → am_Ok M sc Z nc ns (pc + 3) ls (.int x :: st) h) : am_Ok M sc Z nc ns pc ls st0 h :=
  am_partV is hF hd q hcl hM hb ha hAs hst0 hcat hsub hnd hlen hil (zP_ok hF) (by rintro v h1 ⟨x, rfl, rfl, hK⟩; rw [hput]; exact k x hK)
theorem am_partI {K : Int32 → Mu → Prop} {args' : List Value} (is : List Nat) (hF : am_fam F n0) (hd : decode M.2.1 pc = .ok (.invokevirtual idx, 3)) (q : am_qV M idx M' n) (hcl : vwCl[ci]? = some (M'.1.cls, T, N)) (hM : am_Met M' args' (F m) 0 0 (zI F K)) (hb : h[b]? = some (some (.inr (.inr (ci, fs))))) (ha : args'.map (am_v (am_ix is)) = .ref b :: As) (hAs : As.length = n) (hst0 : As.reverse ++ .ref b :: st = st0) (hcat : Nat.ble (st.map fun v => v.category).sum 8 = true)
    (hsub : is.map (fun i => h[i]?) = (F m).map (fun o => some (o.map (am_rn is)))) (hnd : va_nd is = true) (hlen : Nat.ble h.length 1000 = true) (hil : Nat.ble is.length 1000 = true)
    (k : ∀ x m1, K x m1 → am_Ok M sc Z nc ns (pc + 3) ls (.int x :: st) (am_put is ((F m1).map (Option.map (am_rn is))) h)) : am_Ok M sc Z nc ns pc ls st0 h :=
  am_partV is hF hd q hcl hM hb ha hAs hst0 hcat hsub hnd hlen hil (zI_ok hF) (by rintro v h1 ⟨x, m1, rfl, rfl, hK⟩; exact k x m1 hK)
theorem am_partU {K : Mu → Prop} {args' : List Value} (is : List Nat) (hF : am_fam F n0) (hd : decode M.2.1 pc = .ok (.invokevirtual idx, 3)) (q : am_qV M idx M' n) (hcl : vwCl[ci]? = some (M'.1.cls, T, N)) (hM : am_Met M' args' (F m) 0 0 (zV F K)) (hb : h[b]? = some (some (.inr (.inr (ci, fs))))) (ha : args'.map (am_v (am_ix is)) = .ref b :: As) (hAs : As.length = n) (hst0 : As.reverse ++ .ref b :: st = st0) (hcat : Nat.ble (st.map fun v => v.category).sum 8 = true)
    (hsub : is.map (fun i => h[i]?) = (F m).map (fun o => some (o.map (am_rn is)))) (hnd : va_nd is = true) (hlen : Nat.ble h.length 1000 = true) (hil : Nat.ble is.length 1000 = true)
    (k : ∀ m1, K m1 → am_Ok M sc Z nc ns (pc + 3) ls st (am_put is ((F m1).map (Option.map (am_rn is))) h)) : am_Ok M sc Z nc ns pc ls st0 h :=
  am_partV is hF hd q hcl hM hb ha hAs hst0 hcat hsub hnd hlen hil (zV_ok hF) (by rintro v h1 ⟨m1, rfl, rfl, hK⟩; exact k m1 hK)
end AMW
def am_fill (n : Nat) (v : Int32) (f : Nat → Int32) : Nat → Int32 := fun j => if j < n then v else f j
end
section
def fX0 (m : Mu) : am_H := [some (.inr (.inr (0, [.ref 1, .int (m 2 1)]))), some (.inl (0, 40, m 0))]
theorem fam_X0 : am_fam fX0 2 := fun m => ⟨rfl, rfl, rfl⟩
def fX2 (m : Mu) : am_H := [some (.inr (.inr (2, [.ref 1, .int (m 3 1), .int (m 3 2)]))), some (.inl (0, 4032, m 0))]
theorem fam_X2 : am_fam fX2 2 := fun m => ⟨rfl, rfl, rfl⟩
def fX3 (m : Mu) : am_H := [some (.inr (.inr (3, [.ref 1, .ref 2, .ref 3, .ref 4, .ref 5, .int (m 8 5), .int (m 8 6), .int (m 8 7)]))), some (.inl (0, 13, m 0)), some (.inl (0, 13, m 1)), some (.inl (0, 13, m 2)), some (.inl (0, 104, m 3)), some (.inl (0, 8, m 4))]
theorem fam_X3 : am_fam fX3 6 := fun m => ⟨rfl, rfl, rfl⟩
def fX1 (m : Mu) : am_H := [some (.inr (.inr (1, [.ref 1, .ref 7, .ref 8, .ref 9, .ref 10, .ref 11, .ref 12, .ref 14, .int (m 13 8), .int (m 13 9), .int (m 13 10), .int (m 13 11), .int (m 13 12)]))), some (.inr (.inr (3, [.ref 2, .ref 3, .ref 4, .ref 5, .ref 6, .int (m 28 5), .int (m 28 6), .int (m 28 7)]))), some (.inl (0, 13, m 20)), some (.inl (0, 13, m 21)), some (.inl (0, 13, m 22)), some (.inl (0, 104, m 23)), some (.inl (0, 8, m 24)), some (.inl (0, 6, m 1)), some (.inl (0, 3, m 2)), some (.inl (0, 14, m 3)), some (.inl (0, 14, m 4)), some (.inl (0, 4032, m 5)), some (.inr (.inr (2, [.ref 13, .int (m 33 1), .int (m 33 2)]))), some (.inl (0, 4032, m 30)), some (.inr (.inr (2, [.ref 15, .int (m 43 1), .int (m 43 2)]))), some (.inl (0, 4032, m 40))]
theorem fam_X1 : am_fam fX1 16 := fun m => ⟨rfl, rfl, rfl⟩
def fX5 (m : Mu) : am_H := [some (.inr (.inr (5, [.ref 1, .ref 2, .ref 3, .int (m 32 3), .int (m 32 4), .ref 4, .int (m 32 6), .int (m 32 7), .ref 5, .ref 6, .int (m 32 10), .ref 7, .ref 8, .int (m 32 13), .ref 9, .ref 10, .ref 11, .ref 12, .int (m 32 18), .ref 13, .ref 14, .ref 15, .ref 16, .ref 17, .ref 18, .ref 19, .ref 20, .ref 21, .ref 22, .int (m 32 29), .int (m 32 30), .int (m 32 31)]))), some (.inl (0, 148, m 0)), some (.inl (0, 296, m 1)), some (.inl (1, 2, m 2)), some (.inl (0, 40, m 5)), some (.inl (0, 24, m 8)), some (.inl (0, 64, m 9)), some (.inl (0, 336, m 11)), some (.inl (0, 15625, m 12)), some (.inl (0, 6, m 14)), some (.inl (0, 13, m 15)), some (.inl (0, 24, m 16)), some (.inl (0, 6, m 17)), some (.inl (0, 4032, m 19)), some (.inl (0, 4032, m 20)), some (.inl (1, 4032, m 21)), some (.inl (0, 4032, m 22)), some (.inl (0, 4032, m 23)), some (.inl (0, 4032, m 24)), some (.inl (0, 4032, m 25)), some (.inl (0, 4032, m 26)), some (.inl (0, 4032, m 27)), some (.inl (0, 4032, m 28))]
theorem fam_X5 : am_fam fX5 23 := fun m => ⟨rfl, rfl, rfl⟩
def fX4 (hp s0 s1 : Bool) (m : Mu) : am_H := [some (.inr (.inr (4, [.ref 1, .ref 7, .ref 8, cond hp (.ref 10) .null, .int (m 5 4)]))), some (.inr (.inr (3, [.ref 2, .ref 3, .ref 4, .ref 5, .ref 6, .int (m 18 5), .int (m 18 6), .int (m 18 7)]))), some (.inl (0, 13, m 10)), some (.inl (0, 13, m 11)), some (.inl (0, 13, m 12)), some (.inl (0, 104, m 13)), some (.inl (0, 8, m 14)), some (.inr (.inl [cond s0 (some 26) none, cond s1 (some 32) none])), some (.inr (.inr (0, [.ref 9, .int (m 22 1)]))), some (.inl (0, 40, m 20)), cond hp (some (.inr (.inr (1, [.ref 11, .ref 17, .ref 18, .ref 19, .ref 20, .ref 21, .ref 22, .ref 24, .int (m 63 8), .int (m 63 9), .int (m 63 10), .int (m 63 11), .int (m 63 12)])))) none, cond hp (some (.inr (.inr (3, [.ref 12, .ref 13, .ref 14, .ref 15, .ref 16, .int (m 78 5), .int (m 78 6), .int (m 78 7)])))) none, cond hp (some (.inl (0, 13, m 70))) none, cond hp (some (.inl (0, 13, m 71))) none, cond hp (some (.inl (0, 13, m 72))) none, cond hp (some (.inl (0, 104, m 73))) none, cond hp (some (.inl (0, 8, m 74))) none, cond hp (some (.inl (0, 6, m 51))) none, cond hp (some (.inl (0, 3, m 52))) none, cond hp (some (.inl (0, 14, m 53))) none, cond hp (some (.inl (0, 14, m 54))) none, cond hp (some (.inl (0, 4032, m 55))) none, cond hp (some (.inr (.inr (2, [.ref 23, .int (m 83 1), .int (m 83 2)])))) none, cond hp (some (.inl (0, 4032, m 80))) none, cond hp (some (.inr (.inr (2, [.ref 25, .int (m 93 1), .int (m 93 2)])))) none, cond hp (some (.inl (0, 4032, m 90))) none, cond s0 (some (.inr (.inr (3, [.ref 27, .ref 28, .ref 29, .ref 30, .ref 31, .int (m 38 5), .int (m 38 6), .int (m 38 7)])))) none, cond s0 (some (.inl (0, 13, m 30))) none, cond s0 (some (.inl (0, 13, m 31))) none, cond s0 (some (.inl (0, 13, m 32))) none, cond s0 (some (.inl (0, 104, m 33))) none, cond s0 (some (.inl (0, 8, m 34))) none, cond s1 (some (.inr (.inr (3, [.ref 33, .ref 34, .ref 35, .ref 36, .ref 37, .int (m 48 5), .int (m 48 6), .int (m 48 7)])))) none, cond s1 (some (.inl (0, 13, m 40))) none, cond s1 (some (.inl (0, 13, m 41))) none, cond s1 (some (.inl (0, 13, m 42))) none, cond s1 (some (.inl (0, 104, m 43))) none, cond s1 (some (.inl (0, 8, m 44))) none]
def mJ7_fill_53178 : am_M := (yJ7_fill_53178, cJ7_fill_53178, 4, none, 0, 0)
theorem pf_J7_fill_53178 : plainFor yJ7_fill_53178 = true := by decide +kernel
theorem ic_0 : Int32.ofInt 0 = 0 := by decide +kernel
theorem ic_1 : Int32.ofInt 1 = 1 := by decide +kernel
theorem pf_J6_bitCount_0f7a4 : plainFor yJ6_bitCount_0f7a4 = true := by decide +kernel
def mJ6_bitCount_0f7a4 : am_M := (yJ6_bitCount_0f7a4, cJ6_bitCount_0f7a4, 1, some .int, 0, 0)
theorem wd_514 : Cond.constant RJ6 265 1431655765 ∈ am_T := am_T_in 514 (by decide +kernel) (by decide +kernel)
theorem wd_515 : Cond.constant RJ6 266 858993459 ∈ am_T := am_T_in 515 (by decide +kernel) (by decide +kernel)
theorem ic_2 : Int32.ofInt 2 = 2 := by decide +kernel
theorem ic_4 : Int32.ofInt 4 = 4 := by decide +kernel
theorem wd_516 : Cond.constant RJ6 267 252645135 ∈ am_T := am_T_in 516 (by decide +kernel) (by decide +kernel)
theorem bc_8 : (Int8.ofInt 8).toInt32 = 8 := by decide +kernel
theorem bc_16 : (Int8.ofInt 16).toInt32 = 16 := by decide +kernel
theorem bc_63 : (Int8.ofInt 63).toInt32 = 63 := by decide +kernel
theorem pf_J9_floorMod_7cf53 : plainFor yJ9_floorMod_7cf53 = true := by decide +kernel
def mJ9_floorMod_7cf53 : am_M := (yJ9_floorMod_7cf53, cJ9_floorMod_7cf53, 3, some .int, 0, 0)
theorem pf_J9_abs_0f7a4 : plainFor yJ9_abs_0f7a4 = true := by decide +kernel
def mJ9_abs_0f7a4 : am_M := (yJ9_abs_0f7a4, cJ9_abs_0f7a4, 1, some .int, 0, 0)
theorem pf_J9_max_7cf53 : plainFor yJ9_max_7cf53 = true := by decide +kernel
def mJ9_max_7cf53 : am_M := (yJ9_max_7cf53, cJ9_max_7cf53, 2, some .int, 0, 0)
theorem pf_J9_min_7cf53 : plainFor yJ9_min_7cf53 = true := by decide +kernel
def mJ9_min_7cf53 : am_M := (yJ9_min_7cf53, cJ9_min_7cf53, 2, some .int, 0, 0)
theorem pn_X4 : plainName RX4 = true := by decide +kernel
theorem pf_X4_isPosition : plainFor yX4_isPosition = true := by unfold plainFor; rw [show plainName yX4_isPosition.cls = true from pn_X4]; rfl
def mX4_isPosition : am_M := (yX4_isPosition, cX4_isPosition, 1, some .boolean, 0, 0)
theorem bc_12 : (Int8.ofInt 12).toInt32 = 12 := by decide +kernel
theorem pf_X4_isEnd : plainFor yX4_isEnd = true := by unfold plainFor; rw [show plainName yX4_isEnd.cls = true from pn_X4]; rfl
def mX4_isEnd : am_M := (yX4_isEnd, cX4_isEnd, 1, some .boolean, 0, 0)
theorem pf_X4_isSlot : plainFor yX4_isSlot = true := by unfold plainFor; rw [show plainName yX4_isSlot.cls = true from pn_X4]; rfl
def mX4_isSlot : am_M := (yX4_isSlot, cX4_isSlot, 1, some .boolean, 0, 0)
theorem pf_X4_endOf : plainFor yX4_endOf = true := by unfold plainFor; rw [show plainName yX4_endOf.cls = true from pn_X4]; rfl
def mX4_endOf : am_M := (yX4_endOf, cX4_endOf, 1, some .int, 0, 0)
theorem bc_10 : (Int8.ofInt 10).toInt32 = 10 := by decide +kernel
theorem bc_30 : (Int8.ofInt 30).toInt32 = 30 := by decide +kernel
theorem pf_X4_reverseOf : plainFor yX4_reverseOf = true := by unfold plainFor; rw [show plainName yX4_reverseOf.cls = true from pn_X4]; rfl
def mX4_reverseOf : am_M := (yX4_reverseOf, cX4_reverseOf, 1, some .int, 0, 0)
theorem bc_20 : (Int8.ofInt 20).toInt32 = 20 := by decide +kernel
theorem pn_X0 : plainName RX0 = true := by decide +kernel
theorem pf_X0_append : plainFor yX0_append = true := by unfold plainFor; rw [show plainName yX0_append.cls = true from pn_X0]; rfl
def mX0_append : am_M := (yX0_append, cX0_append, 3, none, 0, 0)
theorem cl_X0 : am_cls 0 RX0 TX0 2 tyX0 := ⟨rfl, am_sub_r _ [119, 121] (by decide +kernel) (by decide +kernel), tyX0_ok, nmX0⟩
theorem wd_117 : Cond.fieldLink RX0 15 RX0 "count" "I" ∈ am_T := am_T_in 117 (by decide +kernel) (by decide +kernel)
theorem fl_X0_15 : am_fl RX0 15 0 1 := ⟨RX0, TX0, 2, tyX0, cl_X0, Nat.le_of_ble_eq_true rfl, rfl, Or.inl wd_117⟩
theorem bc_40 : (Int8.ofInt 40).toInt32 = 40 := by decide +kernel
theorem wd_116 : Cond.fieldLink RX0 9 RX0 "codes" "[I" ∈ am_T := am_T_in 116 (by decide +kernel) (by decide +kernel)
theorem fl_X0_9 : am_fl RX0 9 0 0 := ⟨RX0, TX0, 2, tyX0, cl_X0, Nat.le_of_ble_eq_true rfl, rfl, Or.inl wd_116⟩
theorem fp_X0_15 : am_fp RX0 15 0 1 .int false := ⟨RX0, TX0, 2, tyX0, cl_X0, Nat.le_of_ble_eq_true rfl, rfl, rfl, rfl, Or.inl ⟨wd_117, fun _ => rfl⟩⟩
theorem bc_39 : (Int8.ofInt 39).toInt32 = 39 := by decide +kernel
theorem pf_X0_forgetAll : plainFor yX0_forgetAll = true := by unfold plainFor; rw [show plainName yX0_forgetAll.cls = true from pn_X0]; rfl
def mX0_forgetAll : am_M := (yX0_forgetAll, cX0_forgetAll, 1, none, 0, 0)
theorem pf_X0_latest : plainFor yX0_latest = true := by unfold plainFor; rw [show plainName yX0_latest.cls = true from pn_X0]; rfl
def mX0_latest : am_M := (yX0_latest, cX0_latest, 2, some .int, 0, 0)
theorem bc_m11 : (Int8.ofInt (-11)).toInt32 = (-11) := by decide +kernel
theorem pf_X0_removeLatest : plainFor yX0_removeLatest = true := by unfold plainFor; rw [show plainName yX0_removeLatest.cls = true from pn_X0]; rfl
def mX0_removeLatest : am_M := (yX0_removeLatest, cX0_removeLatest, 2, some .int, 1, 21)
theorem pl_X0 : RX0 ≠ "java/lang/invoke/MethodHandle" ∧ RX0 ≠ "java/lang/invoke/VarHandle" := by decide +kernel
theorem pd_X0_latest : (parseMethodDescriptor yX0_latest.desc).map (fun d => d.parameters.length) = some 1 := by decide +kernel
theorem wd_351 : Cond.code yX0_latest cX0_latest 2 (some .int) ∈ am_T := am_T_in 351 (by decide +kernel) (by decide +kernel)
theorem wd_57 : Cond.initialized RX0 ∈ am_T := am_T_in 57 (by decide +kernel) (by decide +kernel)
theorem cb_X0_removeLatest_X0_latest (i : Nat) : am_cb mX0_removeLatest i mX0_latest 1 := ⟨wd_351, wd_57, ⟨pl_X0.1, pl_X0.2, pd_X0_latest⟩, Nat.le_of_ble_eq_true rfl, Nat.le_of_ble_eq_true rfl⟩
theorem wd_348 : Cond.methodLink RX0 19 yX0_latest ∈ am_T := am_T_in 348 (by decide +kernel) (by decide +kernel)
theorem wd_349 : Cond.instanceMethod yX0_latest ∈ am_T := am_T_in 349 (by decide +kernel) (by decide +kernel)
theorem wd_350 : Cond.selects RX0 yX0_latest yX0_latest ∈ am_T := am_T_in 350 (by decide +kernel) (by decide +kernel)
theorem q_X0_removeLatest_19 : am_qV mX0_removeLatest 19 mX0_latest 1 := ⟨cb_X0_removeLatest_X0_latest 19, wd_348, wd_349, wd_350⟩
theorem pn_X2 : plainName RX2 = true := by decide +kernel
theorem pf_X2_reset : plainFor yX2_reset = true := by unfold plainFor; rw [show plainName yX2_reset.cls = true from pn_X2]; rfl
def mX2_reset : am_M := (yX2_reset, cX2_reset, 1, none, 0, 0)
theorem cl_X2 : am_cls 2 RX2 TX2 3 tyX2 := ⟨rfl, am_sub_r _ [393, 395, 397] (by decide +kernel) (by decide +kernel), tyX2_ok, nmX2⟩
theorem wd_391 : Cond.fieldLink RX2 15 RX2 "head" "I" ∈ am_T := am_T_in 391 (by decide +kernel) (by decide +kernel)
theorem fp_X2_15 : am_fp RX2 15 2 1 .int false := ⟨RX2, TX2, 3, tyX2, cl_X2, Nat.le_of_ble_eq_true rfl, rfl, rfl, rfl, Or.inl ⟨wd_391, fun _ => rfl⟩⟩
theorem wd_392 : Cond.fieldLink RX2 19 RX2 "tail" "I" ∈ am_T := am_T_in 392 (by decide +kernel) (by decide +kernel)
theorem fp_X2_19 : am_fp RX2 19 2 2 .int false := ⟨RX2, TX2, 3, tyX2, cl_X2, Nat.le_of_ble_eq_true rfl, rfl, rfl, rfl, Or.inl ⟨wd_392, fun _ => rfl⟩⟩
theorem pf_X2_add : plainFor yX2_add = true := by unfold plainFor; rw [show plainName yX2_add.cls = true from pn_X2]; rfl
def mX2_add : am_M := (yX2_add, cX2_add, 2, none, 0, 0)
theorem fl_X2_19 : am_fl RX2 19 2 2 := ⟨RX2, TX2, 3, tyX2, cl_X2, Nat.le_of_ble_eq_true rfl, rfl, Or.inl wd_392⟩
theorem sc_4032 : (Int16.ofInt 4032).toInt32 = 4032 := by decide +kernel
theorem wd_390 : Cond.fieldLink RX2 9 RX2 "states" "[I" ∈ am_T := am_T_in 390 (by decide +kernel) (by decide +kernel)
theorem fl_X2_9 : am_fl RX2 9 2 0 := ⟨RX2, TX2, 3, tyX2, cl_X2, Nat.le_of_ble_eq_true rfl, rfl, Or.inl wd_390⟩
theorem pf_X2_first : plainFor yX2_first = true := by unfold plainFor; rw [show plainName yX2_first.cls = true from pn_X2]; rfl
def mX2_first : am_M := (yX2_first, cX2_first, 1, some .int, 0, 0)
theorem fl_X2_15 : am_fl RX2 15 2 1 := ⟨RX2, TX2, 3, tyX2, cl_X2, Nat.le_of_ble_eq_true rfl, rfl, Or.inl wd_391⟩
theorem pf_X2_removeFirst : plainFor yX2_removeFirst = true := by unfold plainFor; rw [show plainName yX2_removeFirst.cls = true from pn_X2]; rfl
def mX2_removeFirst : am_M := (yX2_removeFirst, cX2_removeFirst, 2, some .int, 1, 20)
theorem pl_X2 : RX2 ≠ "java/lang/invoke/MethodHandle" ∧ RX2 ≠ "java/lang/invoke/VarHandle" := by decide +kernel
theorem pd_X2_first : (parseMethodDescriptor yX2_first.desc).map (fun d => d.parameters.length) = some 0 := by decide +kernel
theorem wd_527 : Cond.code yX2_first cX2_first 1 (some .int) ∈ am_T := am_T_in 527 (by decide +kernel) (by decide +kernel)
theorem wd_61 : Cond.initialized RX2 ∈ am_T := am_T_in 61 (by decide +kernel) (by decide +kernel)
theorem cb_X2_removeFirst_X2_first (i : Nat) : am_cb mX2_removeFirst i mX2_first 0 := ⟨wd_527, wd_61, ⟨pl_X2.1, pl_X2.2, pd_X2_first⟩, Nat.le_of_ble_eq_true rfl, Nat.le_of_ble_eq_true rfl⟩
theorem wd_536 : Cond.methodLink RX2 22 yX2_first ∈ am_T := am_T_in 536 (by decide +kernel) (by decide +kernel)
theorem wd_525 : Cond.instanceMethod yX2_first ∈ am_T := am_T_in 525 (by decide +kernel) (by decide +kernel)
theorem wd_526 : Cond.selects RX2 yX2_first yX2_first ∈ am_T := am_T_in 526 (by decide +kernel) (by decide +kernel)
theorem q_X2_removeFirst_22 : am_qV mX2_removeFirst 22 mX2_first 0 := ⟨cb_X2_removeFirst_X2_first 22, wd_536, wd_525, wd_526⟩
theorem pn_X3 : plainName RX3 = true := by decide +kernel
theorem pf_X3_isLocomotive : plainFor yX3_isLocomotive = true := by unfold plainFor; rw [show plainName yX3_isLocomotive.cls = true from pn_X3]; rfl
def mX3_isLocomotive : am_M := (yX3_isLocomotive, cX3_isLocomotive, 2, some .boolean, 0, 0)
theorem cl_X3 : am_cls 3 RX3 TX3 8 tyX3 := ⟨rfl, am_sub_r _ [91, 93, 95, 97, 99, 101, 103, 105] (by decide +kernel) (by decide +kernel), tyX3_ok, nmX3⟩
theorem wd_84 : Cond.fieldLink RX3 33 RX3 "locomotiveCount" "I" ∈ am_T := am_T_in 84 (by decide +kernel) (by decide +kernel)
theorem fl_X3_33 : am_fl RX3 33 3 5 := ⟨RX3, TX3, 8, tyX3, cl_X3, Nat.le_of_ble_eq_true rfl, rfl, Or.inl wd_84⟩
theorem pf_X3_isAlive : plainFor yX3_isAlive = true := by unfold plainFor; rw [show plainName yX3_isAlive.cls = true from pn_X3]; rfl
def mX3_isAlive : am_M := (yX3_isAlive, cX3_isAlive, 2, some .boolean, 1, 21)
theorem pl_X3 : RX3 ≠ "java/lang/invoke/MethodHandle" ∧ RX3 ≠ "java/lang/invoke/VarHandle" := by decide +kernel
theorem pd_X3_isLocomotive : (parseMethodDescriptor yX3_isLocomotive.desc).map (fun d => d.parameters.length) = some 1 := by decide +kernel
theorem wd_200 : Cond.code yX3_isLocomotive cX3_isLocomotive 2 (some .boolean) ∈ am_T := am_T_in 200 (by decide +kernel) (by decide +kernel)
theorem wd_56 : Cond.initialized RX3 ∈ am_T := am_T_in 56 (by decide +kernel) (by decide +kernel)
theorem cb_X3_isAlive_X3_isLocomotive (i : Nat) : am_cb mX3_isAlive i mX3_isLocomotive 1 := ⟨wd_200, wd_56, ⟨pl_X3.1, pl_X3.2, pd_X3_isLocomotive⟩, Nat.le_of_ble_eq_true rfl, Nat.le_of_ble_eq_true rfl⟩
theorem wd_197 : Cond.methodLink RX3 43 yX3_isLocomotive ∈ am_T := am_T_in 197 (by decide +kernel) (by decide +kernel)
theorem wd_198 : Cond.instanceMethod yX3_isLocomotive ∈ am_T := am_T_in 198 (by decide +kernel) (by decide +kernel)
theorem wd_199 : Cond.selects RX3 yX3_isLocomotive yX3_isLocomotive ∈ am_T := am_T_in 199 (by decide +kernel) (by decide +kernel)
theorem q_X3_isAlive_43 : am_qV mX3_isAlive 43 mX3_isLocomotive 1 := ⟨cb_X3_isAlive_X3_isLocomotive 43, wd_197, wd_198, wd_199⟩
theorem wd_87 : Cond.fieldLink RX3 37 RX3 "deadBits" "I" ∈ am_T := am_T_in 87 (by decide +kernel) (by decide +kernel)
theorem fl_X3_37 : am_fl RX3 37 3 6 := ⟨RX3, TX3, 8, tyX3, cl_X3, Nat.le_of_ble_eq_true rfl, rfl, Or.inl wd_87⟩
theorem pf_X3_sizeOf : plainFor yX3_sizeOf = true := by unfold plainFor; rw [show plainName yX3_sizeOf.cls = true from pn_X3]; rfl
def mX3_sizeOf : am_M := (yX3_sizeOf, cX3_sizeOf, 2, some .int, 0, 0)
theorem wd_83 : Cond.fieldLink RX3 24 RX3 "sizes" "[I" ∈ am_T := am_T_in 83 (by decide +kernel) (by decide +kernel)
theorem fl_X3_24 : am_fl RX3 24 3 4 := ⟨RX3, TX3, 8, tyX3, cl_X3, Nat.le_of_ble_eq_true rfl, rfl, Or.inl wd_83⟩
theorem pf_X3_lengthAt : plainFor yX3_lengthAt = true := by unfold plainFor; rw [show plainName yX3_lengthAt.cls = true from pn_X3]; rfl
def mX3_lengthAt : am_M := (yX3_lengthAt, cX3_lengthAt, 2, some .int, 0, 0)
theorem bc_13 : (Int8.ofInt 13).toInt32 = 13 := by decide +kernel
theorem wd_79 : Cond.fieldLink RX3 9 RX3 "lengths" "[I" ∈ am_T := am_T_in 79 (by decide +kernel) (by decide +kernel)
theorem fl_X3_9 : am_fl RX3 9 3 0 := ⟨RX3, TX3, 8, tyX3, cl_X3, Nat.le_of_ble_eq_true rfl, rfl, Or.inl wd_79⟩
theorem pf_X3_usedAt : plainFor yX3_usedAt = true := by unfold plainFor; rw [show plainName yX3_usedAt.cls = true from pn_X3]; rfl
def mX3_usedAt : am_M := (yX3_usedAt, cX3_usedAt, 2, some .int, 0, 0)
theorem wd_80 : Cond.fieldLink RX3 15 RX3 "used" "[I" ∈ am_T := am_T_in 80 (by decide +kernel) (by decide +kernel)
theorem fl_X3_15 : am_fl RX3 15 3 1 := ⟨RX3, TX3, 8, tyX3, cl_X3, Nat.le_of_ble_eq_true rfl, rfl, Or.inl wd_80⟩
theorem pf_X3_freeAt : plainFor yX3_freeAt = true := by unfold plainFor; rw [show plainName yX3_freeAt.cls = true from pn_X3]; rfl
def mX3_freeAt : am_M := (yX3_freeAt, cX3_freeAt, 2, some .int, 1, 21)
theorem pd_X3_lengthAt : (parseMethodDescriptor yX3_lengthAt.desc).map (fun d => d.parameters.length) = some 1 := by decide +kernel
theorem wd_158 : Cond.code yX3_lengthAt cX3_lengthAt 2 (some .int) ∈ am_T := am_T_in 158 (by decide +kernel) (by decide +kernel)
theorem cb_X3_freeAt_X3_lengthAt (i : Nat) : am_cb mX3_freeAt i mX3_lengthAt 1 := ⟨wd_158, wd_56, ⟨pl_X3.1, pl_X3.2, pd_X3_lengthAt⟩, Nat.le_of_ble_eq_true rfl, Nat.le_of_ble_eq_true rfl⟩
theorem wd_187 : Cond.methodLink RX3 47 yX3_lengthAt ∈ am_T := am_T_in 187 (by decide +kernel) (by decide +kernel)
theorem wd_156 : Cond.instanceMethod yX3_lengthAt ∈ am_T := am_T_in 156 (by decide +kernel) (by decide +kernel)
theorem wd_157 : Cond.selects RX3 yX3_lengthAt yX3_lengthAt ∈ am_T := am_T_in 157 (by decide +kernel) (by decide +kernel)
theorem q_X3_freeAt_47 : am_qV mX3_freeAt 47 mX3_lengthAt 1 := ⟨cb_X3_freeAt_X3_lengthAt 47, wd_187, wd_156, wd_157⟩
theorem pd_X3_usedAt : (parseMethodDescriptor yX3_usedAt.desc).map (fun d => d.parameters.length) = some 1 := by decide +kernel
theorem wd_154 : Cond.code yX3_usedAt cX3_usedAt 2 (some .int) ∈ am_T := am_T_in 154 (by decide +kernel) (by decide +kernel)
theorem cb_X3_freeAt_X3_usedAt (i : Nat) : am_cb mX3_freeAt i mX3_usedAt 1 := ⟨wd_154, wd_56, ⟨pl_X3.1, pl_X3.2, pd_X3_usedAt⟩, Nat.le_of_ble_eq_true rfl, Nat.le_of_ble_eq_true rfl⟩
theorem wd_188 : Cond.methodLink RX3 51 yX3_usedAt ∈ am_T := am_T_in 188 (by decide +kernel) (by decide +kernel)
theorem wd_152 : Cond.instanceMethod yX3_usedAt ∈ am_T := am_T_in 152 (by decide +kernel) (by decide +kernel)
theorem wd_153 : Cond.selects RX3 yX3_usedAt yX3_usedAt ∈ am_T := am_T_in 153 (by decide +kernel) (by decide +kernel)
theorem q_X3_freeAt_51 : am_qV mX3_freeAt 51 mX3_usedAt 1 := ⟨cb_X3_freeAt_X3_usedAt 51, wd_188, wd_152, wd_153⟩
theorem pf_X3_countAt : plainFor yX3_countAt = true := by unfold plainFor; rw [show plainName yX3_countAt.cls = true from pn_X3]; rfl
def mX3_countAt : am_M := (yX3_countAt, cX3_countAt, 2, some .int, 0, 0)
theorem wd_81 : Cond.fieldLink RX3 18 RX3 "counts" "[I" ∈ am_T := am_T_in 81 (by decide +kernel) (by decide +kernel)
theorem fl_X3_18 : am_fl RX3 18 3 2 := ⟨RX3, TX3, 8, tyX3, cl_X3, Nat.le_of_ble_eq_true rfl, rfl, Or.inl wd_81⟩
theorem pf_X3_locomotiveAt : plainFor yX3_locomotiveAt = true := by unfold plainFor; rw [show plainName yX3_locomotiveAt.cls = true from pn_X3]; rfl
def mX3_locomotiveAt : am_M := (yX3_locomotiveAt, cX3_locomotiveAt, 3, some .int, 0, 0)
theorem wd_82 : Cond.fieldLink RX3 21 RX3 "rows" "[I" ∈ am_T := am_T_in 82 (by decide +kernel) (by decide +kernel)
theorem fl_X3_21 : am_fl RX3 21 3 3 := ⟨RX3, TX3, 8, tyX3, cl_X3, Nat.le_of_ble_eq_true rfl, rfl, Or.inl wd_82⟩
theorem pf_X3_indexIn : plainFor yX3_indexIn = true := by unfold plainFor; rw [show plainName yX3_indexIn.cls = true from pn_X3]; rfl
def mX3_indexIn : am_M := (yX3_indexIn, cX3_indexIn, 5, some .int, 1, 22)
theorem pd_X3_countAt : (parseMethodDescriptor yX3_countAt.desc).map (fun d => d.parameters.length) = some 1 := by decide +kernel
theorem wd_208 : Cond.code yX3_countAt cX3_countAt 2 (some .int) ∈ am_T := am_T_in 208 (by decide +kernel) (by decide +kernel)
theorem cb_X3_indexIn_X3_countAt (i : Nat) : am_cb mX3_indexIn i mX3_countAt 1 := ⟨wd_208, wd_56, ⟨pl_X3.1, pl_X3.2, pd_X3_countAt⟩, Nat.le_of_ble_eq_true rfl, Nat.le_of_ble_eq_true rfl⟩
theorem wd_205 : Cond.methodLink RX3 58 yX3_countAt ∈ am_T := am_T_in 205 (by decide +kernel) (by decide +kernel)
theorem wd_206 : Cond.instanceMethod yX3_countAt ∈ am_T := am_T_in 206 (by decide +kernel) (by decide +kernel)
theorem wd_207 : Cond.selects RX3 yX3_countAt yX3_countAt ∈ am_T := am_T_in 207 (by decide +kernel) (by decide +kernel)
theorem q_X3_indexIn_58 : am_qV mX3_indexIn 58 mX3_countAt 1 := ⟨cb_X3_indexIn_X3_countAt 58, wd_205, wd_206, wd_207⟩
theorem pd_X3_locomotiveAt : (parseMethodDescriptor yX3_locomotiveAt.desc).map (fun d => d.parameters.length) = some 2 := by decide +kernel
theorem wd_232 : Cond.code yX3_locomotiveAt cX3_locomotiveAt 3 (some .int) ∈ am_T := am_T_in 232 (by decide +kernel) (by decide +kernel)
theorem cb_X3_indexIn_X3_locomotiveAt (i : Nat) : am_cb mX3_indexIn i mX3_locomotiveAt 2 := ⟨wd_232, wd_56, ⟨pl_X3.1, pl_X3.2, pd_X3_locomotiveAt⟩, Nat.le_of_ble_eq_true rfl, Nat.le_of_ble_eq_true rfl⟩
theorem wd_229 : Cond.methodLink RX3 61 yX3_locomotiveAt ∈ am_T := am_T_in 229 (by decide +kernel) (by decide +kernel)
theorem wd_230 : Cond.instanceMethod yX3_locomotiveAt ∈ am_T := am_T_in 230 (by decide +kernel) (by decide +kernel)
theorem wd_231 : Cond.selects RX3 yX3_locomotiveAt yX3_locomotiveAt ∈ am_T := am_T_in 231 (by decide +kernel) (by decide +kernel)
theorem q_X3_indexIn_61 : am_qV mX3_indexIn 61 mX3_locomotiveAt 2 := ⟨cb_X3_indexIn_X3_locomotiveAt 61, wd_229, wd_230, wd_231⟩
theorem pf_X3_placeOf : plainFor yX3_placeOf = true := by unfold plainFor; rw [show plainName yX3_placeOf.cls = true from pn_X3]; rfl
def mX3_placeOf : am_M := (yX3_placeOf, cX3_placeOf, 3, some .int, 2, 46)
theorem pd_X3_indexIn : (parseMethodDescriptor yX3_indexIn.desc).map (fun d => d.parameters.length) = some 2 := by decide +kernel
theorem wd_228 : Cond.code yX3_indexIn cX3_indexIn 5 (some .int) ∈ am_T := am_T_in 228 (by decide +kernel) (by decide +kernel)
theorem cb_X3_placeOf_X3_indexIn (i : Nat) : am_cb mX3_placeOf i mX3_indexIn 2 := ⟨wd_228, wd_56, ⟨pl_X3.1, pl_X3.2, pd_X3_indexIn⟩, Nat.le_of_ble_eq_true rfl, Nat.le_of_ble_eq_true rfl⟩
theorem wd_225 : Cond.methodLink RX3 54 yX3_indexIn ∈ am_T := am_T_in 225 (by decide +kernel) (by decide +kernel)
theorem wd_226 : Cond.instanceMethod yX3_indexIn ∈ am_T := am_T_in 226 (by decide +kernel) (by decide +kernel)
theorem wd_227 : Cond.selects RX3 yX3_indexIn yX3_indexIn ∈ am_T := am_T_in 227 (by decide +kernel) (by decide +kernel)
theorem q_X3_placeOf_54 : am_qV mX3_placeOf 54 mX3_indexIn 2 := ⟨cb_X3_placeOf_X3_indexIn 54, wd_225, wd_226, wd_227⟩
theorem pf_X3_trackCount : plainFor yX3_trackCount = true := by unfold plainFor; rw [show plainName yX3_trackCount.cls = true from pn_X3]; rfl
def mX3_trackCount : am_M := (yX3_trackCount, cX3_trackCount, 3, some .int, 0, 0)
theorem pf_X3_positionAt : plainFor yX3_positionAt = true := by unfold plainFor; rw [show plainName yX3_positionAt.cls = true from pn_X3]; rfl
def mX3_positionAt : am_M := (yX3_positionAt, cX3_positionAt, 2, some .int, 0, 0)
theorem wd_88 : Cond.fieldLink RX3 40 RX3 "endA" "I" ∈ am_T := am_T_in 88 (by decide +kernel) (by decide +kernel)
theorem fl_X3_40 : am_fl RX3 40 3 7 := ⟨RX3, TX3, 8, tyX3, cl_X3, Nat.le_of_ble_eq_true rfl, rfl, Or.inl wd_88⟩
theorem bc_6 : (Int8.ofInt 6).toInt32 = 6 := by decide +kernel
theorem nz_12 : ¬ (12 : Int32) = 0 := by decide +kernel
theorem pf_X3_setLength : plainFor yX3_setLength = true := by unfold plainFor; rw [show plainName yX3_setLength.cls = true from pn_X3]; rfl
def mX3_setLength : am_M := (yX3_setLength, cX3_setLength, 3, none, 0, 0)
theorem pf_X3_markDead : plainFor yX3_markDead = true := by unfold plainFor; rw [show plainName yX3_markDead.cls = true from pn_X3]; rfl
def mX3_markDead : am_M := (yX3_markDead, cX3_markDead, 4, none, 1, 21)
theorem cb_X3_markDead_X3_isLocomotive (i : Nat) : am_cb mX3_markDead i mX3_isLocomotive 1 := ⟨wd_200, wd_56, ⟨pl_X3.1, pl_X3.2, pd_X3_isLocomotive⟩, Nat.le_of_ble_eq_true rfl, Nat.le_of_ble_eq_true rfl⟩
theorem q_X3_markDead_43 : am_qV mX3_markDead 43 mX3_isLocomotive 1 := ⟨cb_X3_markDead_X3_isLocomotive 43, wd_197, wd_198, wd_199⟩
theorem ic_m1 : Int32.ofInt (-1) = (-1) := by decide +kernel
theorem fp_X3_37 : am_fp RX3 37 3 6 .int false := ⟨RX3, TX3, 8, tyX3, cl_X3, Nat.le_of_ble_eq_true rfl, rfl, rfl, rfl, Or.inl ⟨wd_87, fun _ => rfl⟩⟩
theorem pf_X3_putIn : plainFor yX3_putIn = true := by unfold plainFor; rw [show plainName yX3_putIn.cls = true from pn_X3]; rfl
def mX3_putIn : am_M := (yX3_putIn, cX3_putIn, 7, none, 1, 21)
theorem cb_X3_putIn_X3_countAt (i : Nat) : am_cb mX3_putIn i mX3_countAt 1 := ⟨wd_208, wd_56, ⟨pl_X3.1, pl_X3.2, pd_X3_countAt⟩, Nat.le_of_ble_eq_true rfl, Nat.le_of_ble_eq_true rfl⟩
theorem q_X3_putIn_58 : am_qV mX3_putIn 58 mX3_countAt 1 := ⟨cb_X3_putIn_X3_countAt 58, wd_205, wd_206, wd_207⟩
theorem pd_X3_sizeOf : (parseMethodDescriptor yX3_sizeOf.desc).map (fun d => d.parameters.length) = some 1 := by decide +kernel
theorem wd_212 : Cond.code yX3_sizeOf cX3_sizeOf 2 (some .int) ∈ am_T := am_T_in 212 (by decide +kernel) (by decide +kernel)
theorem cb_X3_putIn_X3_sizeOf (i : Nat) : am_cb mX3_putIn i mX3_sizeOf 1 := ⟨wd_212, wd_56, ⟨pl_X3.1, pl_X3.2, pd_X3_sizeOf⟩, Nat.le_of_ble_eq_true rfl, Nat.le_of_ble_eq_true rfl⟩
theorem wd_209 : Cond.methodLink RX3 78 yX3_sizeOf ∈ am_T := am_T_in 209 (by decide +kernel) (by decide +kernel)
theorem wd_210 : Cond.instanceMethod yX3_sizeOf ∈ am_T := am_T_in 210 (by decide +kernel) (by decide +kernel)
theorem wd_211 : Cond.selects RX3 yX3_sizeOf yX3_sizeOf ∈ am_T := am_T_in 211 (by decide +kernel) (by decide +kernel)
theorem q_X3_putIn_78 : am_qV mX3_putIn 78 mX3_sizeOf 1 := ⟨cb_X3_putIn_X3_sizeOf 78, wd_209, wd_210, wd_211⟩
theorem pf_X3_addFirst : plainFor yX3_addFirst = true := by unfold plainFor; rw [show plainName yX3_addFirst.cls = true from pn_X3]; rfl
def mX3_addFirst : am_M := (yX3_addFirst, cX3_addFirst, 4, some .int, 2, 47)
theorem bc_m9 : (Int8.ofInt (-9)).toInt32 = (-9) := by decide +kernel
theorem fp_X3_33 : am_fp RX3 33 3 5 .int false := ⟨RX3, TX3, 8, tyX3, cl_X3, Nat.le_of_ble_eq_true rfl, rfl, rfl, rfl, Or.inl ⟨wd_84, fun _ => rfl⟩⟩
theorem pd_X3_markDead : (parseMethodDescriptor yX3_markDead.desc).map (fun d => d.parameters.length) = some 2 := by decide +kernel
theorem wd_196 : Cond.code yX3_markDead cX3_markDead 4 none ∈ am_T := am_T_in 196 (by decide +kernel) (by decide +kernel)
theorem cb_X3_addFirst_X3_markDead (i : Nat) : am_cb mX3_addFirst i mX3_markDead 2 := ⟨wd_196, wd_56, ⟨pl_X3.1, pl_X3.2, pd_X3_markDead⟩, Nat.le_of_ble_eq_true rfl, Nat.le_of_ble_eq_true rfl⟩
theorem wd_193 : Cond.methodLink RX3 64 yX3_markDead ∈ am_T := am_T_in 193 (by decide +kernel) (by decide +kernel)
theorem wd_194 : Cond.instanceMethod yX3_markDead ∈ am_T := am_T_in 194 (by decide +kernel) (by decide +kernel)
theorem wd_195 : Cond.selects RX3 yX3_markDead yX3_markDead ∈ am_T := am_T_in 195 (by decide +kernel) (by decide +kernel)
theorem q_X3_addFirst_64 : am_qV mX3_addFirst 64 mX3_markDead 2 := ⟨cb_X3_addFirst_X3_markDead 64, wd_193, wd_194, wd_195⟩
theorem pd_X3_putIn : (parseMethodDescriptor yX3_putIn.desc).map (fun d => d.parameters.length) = some 3 := by decide +kernel
theorem wd_204 : Cond.code yX3_putIn cX3_putIn 7 none ∈ am_T := am_T_in 204 (by decide +kernel) (by decide +kernel)
theorem cb_X3_addFirst_X3_putIn (i : Nat) : am_cb mX3_addFirst i mX3_putIn 3 := ⟨wd_204, wd_56, ⟨pl_X3.1, pl_X3.2, pd_X3_putIn⟩, Nat.le_of_ble_eq_true rfl, Nat.le_of_ble_eq_true rfl⟩
theorem wd_201 : Cond.methodLink RX3 68 yX3_putIn ∈ am_T := am_T_in 201 (by decide +kernel) (by decide +kernel)
theorem wd_202 : Cond.instanceMethod yX3_putIn ∈ am_T := am_T_in 202 (by decide +kernel) (by decide +kernel)
theorem wd_203 : Cond.selects RX3 yX3_putIn yX3_putIn ∈ am_T := am_T_in 203 (by decide +kernel) (by decide +kernel)
theorem q_X3_addFirst_68 : am_qV mX3_addFirst 68 mX3_putIn 3 := ⟨cb_X3_addFirst_X3_putIn 68, wd_201, wd_202, wd_203⟩
theorem pf_X3_takeOut : plainFor yX3_takeOut = true := by unfold plainFor; rw [show plainName yX3_takeOut.cls = true from pn_X3]; rfl
def mX3_takeOut : am_M := (yX3_takeOut, cX3_takeOut, 6, some .int, 1, 22)
theorem cb_X3_takeOut_X3_locomotiveAt (i : Nat) : am_cb mX3_takeOut i mX3_locomotiveAt 2 := ⟨wd_232, wd_56, ⟨pl_X3.1, pl_X3.2, pd_X3_locomotiveAt⟩, Nat.le_of_ble_eq_true rfl, Nat.le_of_ble_eq_true rfl⟩
theorem q_X3_takeOut_61 : am_qV mX3_takeOut 61 mX3_locomotiveAt 2 := ⟨cb_X3_takeOut_X3_locomotiveAt 61, wd_229, wd_230, wd_231⟩
theorem cb_X3_takeOut_X3_sizeOf (i : Nat) : am_cb mX3_takeOut i mX3_sizeOf 1 := ⟨wd_212, wd_56, ⟨pl_X3.1, pl_X3.2, pd_X3_sizeOf⟩, Nat.le_of_ble_eq_true rfl, Nat.le_of_ble_eq_true rfl⟩
theorem q_X3_takeOut_78 : am_qV mX3_takeOut 78 mX3_sizeOf 1 := ⟨cb_X3_takeOut_X3_sizeOf 78, wd_209, wd_210, wd_211⟩
theorem pf_X3_removeNewest : plainFor yX3_removeNewest = true := by unfold plainFor; rw [show plainName yX3_removeNewest.cls = true from pn_X3]; rfl
def mX3_removeNewest : am_M := (yX3_removeNewest, cX3_removeNewest, 3, some .int, 3, 68)
theorem pd_X3_placeOf : (parseMethodDescriptor yX3_placeOf.desc).map (fun d => d.parameters.length) = some 1 := by decide +kernel
theorem wd_224 : Cond.code yX3_placeOf cX3_placeOf 3 (some .int) ∈ am_T := am_T_in 224 (by decide +kernel) (by decide +kernel)
theorem cb_X3_removeNewest_X3_placeOf (i : Nat) : am_cb mX3_removeNewest i mX3_placeOf 1 := ⟨wd_224, wd_56, ⟨pl_X3.1, pl_X3.2, pd_X3_placeOf⟩, Nat.le_of_ble_eq_true rfl, Nat.le_of_ble_eq_true rfl⟩
theorem wd_221 : Cond.methodLink RX3 72 yX3_placeOf ∈ am_T := am_T_in 221 (by decide +kernel) (by decide +kernel)
theorem wd_222 : Cond.instanceMethod yX3_placeOf ∈ am_T := am_T_in 222 (by decide +kernel) (by decide +kernel)
theorem wd_223 : Cond.selects RX3 yX3_placeOf yX3_placeOf ∈ am_T := am_T_in 223 (by decide +kernel) (by decide +kernel)
theorem q_X3_removeNewest_72 : am_qV mX3_removeNewest 72 mX3_placeOf 1 := ⟨cb_X3_removeNewest_X3_placeOf 72, wd_221, wd_222, wd_223⟩
theorem cb_X3_removeNewest_X3_indexIn (i : Nat) : am_cb mX3_removeNewest i mX3_indexIn 2 := ⟨wd_228, wd_56, ⟨pl_X3.1, pl_X3.2, pd_X3_indexIn⟩, Nat.le_of_ble_eq_true rfl, Nat.le_of_ble_eq_true rfl⟩
theorem q_X3_removeNewest_54 : am_qV mX3_removeNewest 54 mX3_indexIn 2 := ⟨cb_X3_removeNewest_X3_indexIn 54, wd_225, wd_226, wd_227⟩
theorem pd_X3_takeOut : (parseMethodDescriptor yX3_takeOut.desc).map (fun d => d.parameters.length) = some 2 := by decide +kernel
theorem wd_236 : Cond.code yX3_takeOut cX3_takeOut 6 (some .int) ∈ am_T := am_T_in 236 (by decide +kernel) (by decide +kernel)
theorem cb_X3_removeNewest_X3_takeOut (i : Nat) : am_cb mX3_removeNewest i mX3_takeOut 2 := ⟨wd_236, wd_56, ⟨pl_X3.1, pl_X3.2, pd_X3_takeOut⟩, Nat.le_of_ble_eq_true rfl, Nat.le_of_ble_eq_true rfl⟩
theorem wd_233 : Cond.methodLink RX3 75 yX3_takeOut ∈ am_T := am_T_in 233 (by decide +kernel) (by decide +kernel)
theorem wd_234 : Cond.instanceMethod yX3_takeOut ∈ am_T := am_T_in 234 (by decide +kernel) (by decide +kernel)
theorem wd_235 : Cond.selects RX3 yX3_takeOut yX3_takeOut ∈ am_T := am_T_in 235 (by decide +kernel) (by decide +kernel)
theorem q_X3_removeNewest_75 : am_qV mX3_removeNewest 75 mX3_takeOut 2 := ⟨cb_X3_removeNewest_X3_takeOut 75, wd_233, wd_234, wd_235⟩
theorem pf_X3_emptyRows : plainFor yX3_emptyRows = true := by unfold plainFor; rw [show plainName yX3_emptyRows.cls = true from pn_X3]; rfl
def mX3_emptyRows : am_M := (yX3_emptyRows, cX3_emptyRows, 1, none, 1, 23)
theorem pl_J7 : RJ7 ≠ "java/lang/invoke/MethodHandle" ∧ RJ7 ≠ "java/lang/invoke/VarHandle" := by decide +kernel
theorem pd_J7_fill_53178 : (parseMethodDescriptor yJ7_fill_53178.desc).map (fun d => d.parameters.length) = some 2 := by decide +kernel
theorem wd_466 : Cond.code yJ7_fill_53178 cJ7_fill_53178 4 none ∈ am_T := am_T_in 466 (by decide +kernel) (by decide +kernel)
theorem wd_63 : Cond.initialized RJ7 ∈ am_T := am_T_in 63 (by decide +kernel) (by decide +kernel)
theorem cb_X3_emptyRows_J7_fill_53178 (i : Nat) : am_cb mX3_emptyRows i mJ7_fill_53178 2 := ⟨wd_466, wd_63, ⟨pl_J7.1, pl_J7.2, pd_J7_fill_53178⟩, Nat.le_of_ble_eq_true rfl, Nat.le_of_ble_eq_true rfl⟩
theorem wd_483 : Cond.methodLink RX3 81 yJ7_fill_53178 ∈ am_T := am_T_in 483 (by decide +kernel) (by decide +kernel)
theorem wd_465 : Cond.static yJ7_fill_53178 ∈ am_T := am_T_in 465 (by decide +kernel) (by decide +kernel)
theorem q_X3_emptyRows_81 : am_qS mX3_emptyRows 81 mJ7_fill_53178 2 ∨ am_qN mX3_emptyRows 81 mJ7_fill_53178 2 := Or.inl ⟨cb_X3_emptyRows_J7_fill_53178 81, wd_483, wd_465⟩
theorem pf_X3_allFit : plainFor yX3_allFit = true := by unfold plainFor; rw [show plainName yX3_allFit.cls = true from pn_X3]; rfl
def mX3_allFit : am_M := (yX3_allFit, cX3_allFit, 2, some .boolean, 0, 0)
theorem pf_X3_sourceOf : plainFor yX3_sourceOf = true := by unfold plainFor; rw [show plainName yX3_sourceOf.cls = true from pn_X3]; rfl
def mX3_sourceOf : am_M := (yX3_sourceOf, cX3_sourceOf, 2, some .int, 1, 21)
theorem pl_X4 : RX4 ≠ "java/lang/invoke/MethodHandle" ∧ RX4 ≠ "java/lang/invoke/VarHandle" := by decide +kernel
theorem pd_X4_endOf : (parseMethodDescriptor yX4_endOf.desc).map (fun d => d.parameters.length) = some 1 := by decide +kernel
theorem wd_306 : Cond.code yX4_endOf cX4_endOf 1 (some .int) ∈ am_T := am_T_in 306 (by decide +kernel) (by decide +kernel)
theorem wd_55 : Cond.initialized RX4 ∈ am_T := am_T_in 55 (by decide +kernel) (by decide +kernel)
theorem cb_X3_sourceOf_X4_endOf (i : Nat) : am_cb mX3_sourceOf i mX4_endOf 1 := ⟨wd_306, wd_55, ⟨pl_X4.1, pl_X4.2, pd_X4_endOf⟩, Nat.le_of_ble_eq_true rfl, Nat.le_of_ble_eq_true rfl⟩
theorem wd_305 : Cond.static yX4_endOf ∈ am_T := am_T_in 305 (by decide +kernel) (by decide +kernel)
theorem q_X3_sourceOf_87 : am_qS mX3_sourceOf 87 mX4_endOf 1 ∨ am_qN mX3_sourceOf 87 mX4_endOf 1 := Or.inr ⟨cb_X3_sourceOf_X4_endOf 87, ⟨RX4, List.mem_of_getElem? (i := 5) rfl⟩, wd_305⟩
theorem pd_X3_positionAt : (parseMethodDescriptor yX3_positionAt.desc).map (fun d => d.parameters.length) = some 1 := by decide +kernel
theorem wd_284 : Cond.code yX3_positionAt cX3_positionAt 2 (some .int) ∈ am_T := am_T_in 284 (by decide +kernel) (by decide +kernel)
theorem cb_X3_sourceOf_X3_positionAt (i : Nat) : am_cb mX3_sourceOf i mX3_positionAt 1 := ⟨wd_284, wd_56, ⟨pl_X3.1, pl_X3.2, pd_X3_positionAt⟩, Nat.le_of_ble_eq_true rfl, Nat.le_of_ble_eq_true rfl⟩
theorem wd_307 : Cond.methodLink RX3 90 yX3_positionAt ∈ am_T := am_T_in 307 (by decide +kernel) (by decide +kernel)
theorem wd_282 : Cond.instanceMethod yX3_positionAt ∈ am_T := am_T_in 282 (by decide +kernel) (by decide +kernel)
theorem wd_283 : Cond.selects RX3 yX3_positionAt yX3_positionAt ∈ am_T := am_T_in 283 (by decide +kernel) (by decide +kernel)
theorem q_X3_sourceOf_90 : am_qV mX3_sourceOf 90 mX3_positionAt 1 := ⟨cb_X3_sourceOf_X3_positionAt 90, wd_307, wd_282, wd_283⟩
theorem pf_X3_targetOf : plainFor yX3_targetOf = true := by unfold plainFor; rw [show plainName yX3_targetOf.cls = true from pn_X3]; rfl
def mX3_targetOf : am_M := (yX3_targetOf, cX3_targetOf, 2, some .int, 1, 21)
theorem cb_X3_targetOf_X4_endOf (i : Nat) : am_cb mX3_targetOf i mX4_endOf 1 := ⟨wd_306, wd_55, ⟨pl_X4.1, pl_X4.2, pd_X4_endOf⟩, Nat.le_of_ble_eq_true rfl, Nat.le_of_ble_eq_true rfl⟩
theorem q_X3_targetOf_87 : am_qS mX3_targetOf 87 mX4_endOf 1 ∨ am_qN mX3_targetOf 87 mX4_endOf 1 := Or.inr ⟨cb_X3_targetOf_X4_endOf 87, ⟨RX4, List.mem_of_getElem? (i := 5) rfl⟩, wd_305⟩
theorem cb_X3_targetOf_X3_positionAt (i : Nat) : am_cb mX3_targetOf i mX3_positionAt 1 := ⟨wd_284, wd_56, ⟨pl_X3.1, pl_X3.2, pd_X3_positionAt⟩, Nat.le_of_ble_eq_true rfl, Nat.le_of_ble_eq_true rfl⟩
theorem q_X3_targetOf_90 : am_qV mX3_targetOf 90 mX3_positionAt 1 := ⟨cb_X3_targetOf_X3_positionAt 90, wd_307, wd_282, wd_283⟩
theorem pf_X3_movementError : plainFor yX3_movementError = true := by unfold plainFor; rw [show plainName yX3_movementError.cls = true from pn_X3]; rfl
def mX3_movementError : am_M := (yX3_movementError, cX3_movementError, 9, some .int, 2, 42)
theorem cb_X3_movementError_X4_endOf (i : Nat) : am_cb mX3_movementError i mX4_endOf 1 := ⟨wd_306, wd_55, ⟨pl_X4.1, pl_X4.2, pd_X4_endOf⟩, Nat.le_of_ble_eq_true rfl, Nat.le_of_ble_eq_true rfl⟩
theorem q_X3_movementError_87 : am_qS mX3_movementError 87 mX4_endOf 1 ∨ am_qN mX3_movementError 87 mX4_endOf 1 := Or.inr ⟨cb_X3_movementError_X4_endOf 87, ⟨RX4, List.mem_of_getElem? (i := 5) rfl⟩, wd_305⟩
theorem cb_X3_movementError_X3_positionAt (i : Nat) : am_cb mX3_movementError i mX3_positionAt 1 := ⟨wd_284, wd_56, ⟨pl_X3.1, pl_X3.2, pd_X3_positionAt⟩, Nat.le_of_ble_eq_true rfl, Nat.le_of_ble_eq_true rfl⟩
theorem q_X3_movementError_90 : am_qV mX3_movementError 90 mX3_positionAt 1 := ⟨cb_X3_movementError_X3_positionAt 90, wd_307, wd_282, wd_283⟩
theorem cb_X3_movementError_X3_lengthAt (i : Nat) : am_cb mX3_movementError i mX3_lengthAt 1 := ⟨wd_158, wd_56, ⟨pl_X3.1, pl_X3.2, pd_X3_lengthAt⟩, Nat.le_of_ble_eq_true rfl, Nat.le_of_ble_eq_true rfl⟩
theorem q_X3_movementError_47 : am_qV mX3_movementError 47 mX3_lengthAt 1 := ⟨cb_X3_movementError_X3_lengthAt 47, wd_187, wd_156, wd_157⟩
theorem bc_m2 : (Int8.ofInt (-2)).toInt32 = (-2) := by decide +kernel
theorem pd_X3_sourceOf : (parseMethodDescriptor yX3_sourceOf.desc).map (fun d => d.parameters.length) = some 1 := by decide +kernel
theorem wd_303 : Cond.code yX3_sourceOf cX3_sourceOf 2 (some .int) ∈ am_T := am_T_in 303 (by decide +kernel) (by decide +kernel)
theorem cb_X3_movementError_X3_sourceOf (i : Nat) : am_cb mX3_movementError i mX3_sourceOf 1 := ⟨wd_303, wd_56, ⟨pl_X3.1, pl_X3.2, pd_X3_sourceOf⟩, Nat.le_of_ble_eq_true rfl, Nat.le_of_ble_eq_true rfl⟩
theorem wd_300 : Cond.methodLink RX3 93 yX3_sourceOf ∈ am_T := am_T_in 300 (by decide +kernel) (by decide +kernel)
theorem wd_301 : Cond.instanceMethod yX3_sourceOf ∈ am_T := am_T_in 301 (by decide +kernel) (by decide +kernel)
theorem wd_302 : Cond.selects RX3 yX3_sourceOf yX3_sourceOf ∈ am_T := am_T_in 302 (by decide +kernel) (by decide +kernel)
theorem q_X3_movementError_93 : am_qV mX3_movementError 93 mX3_sourceOf 1 := ⟨cb_X3_movementError_X3_sourceOf 93, wd_300, wd_301, wd_302⟩
theorem cb_X3_movementError_X3_countAt (i : Nat) : am_cb mX3_movementError i mX3_countAt 1 := ⟨wd_208, wd_56, ⟨pl_X3.1, pl_X3.2, pd_X3_countAt⟩, Nat.le_of_ble_eq_true rfl, Nat.le_of_ble_eq_true rfl⟩
theorem q_X3_movementError_58 : am_qV mX3_movementError 58 mX3_countAt 1 := ⟨cb_X3_movementError_X3_countAt 58, wd_205, wd_206, wd_207⟩
theorem bc_m7 : (Int8.ofInt (-7)).toInt32 = (-7) := by decide +kernel
theorem pd_X3_targetOf : (parseMethodDescriptor yX3_targetOf.desc).map (fun d => d.parameters.length) = some 1 := by decide +kernel
theorem wd_311 : Cond.code yX3_targetOf cX3_targetOf 2 (some .int) ∈ am_T := am_T_in 311 (by decide +kernel) (by decide +kernel)
theorem cb_X3_movementError_X3_targetOf (i : Nat) : am_cb mX3_movementError i mX3_targetOf 1 := ⟨wd_311, wd_56, ⟨pl_X3.1, pl_X3.2, pd_X3_targetOf⟩, Nat.le_of_ble_eq_true rfl, Nat.le_of_ble_eq_true rfl⟩
theorem wd_308 : Cond.methodLink RX3 99 yX3_targetOf ∈ am_T := am_T_in 308 (by decide +kernel) (by decide +kernel)
theorem wd_309 : Cond.instanceMethod yX3_targetOf ∈ am_T := am_T_in 309 (by decide +kernel) (by decide +kernel)
theorem wd_310 : Cond.selects RX3 yX3_targetOf yX3_targetOf ∈ am_T := am_T_in 310 (by decide +kernel) (by decide +kernel)
theorem q_X3_movementError_99 : am_qV mX3_movementError 99 mX3_targetOf 1 := ⟨cb_X3_movementError_X3_targetOf 99, wd_308, wd_309, wd_310⟩
theorem pd_X3_freeAt : (parseMethodDescriptor yX3_freeAt.desc).map (fun d => d.parameters.length) = some 1 := by decide +kernel
theorem wd_186 : Cond.code yX3_freeAt cX3_freeAt 2 (some .int) ∈ am_T := am_T_in 186 (by decide +kernel) (by decide +kernel)
theorem cb_X3_movementError_X3_freeAt (i : Nat) : am_cb mX3_movementError i mX3_freeAt 1 := ⟨wd_186, wd_56, ⟨pl_X3.1, pl_X3.2, pd_X3_freeAt⟩, Nat.le_of_ble_eq_true rfl, Nat.le_of_ble_eq_true rfl⟩
theorem wd_329 : Cond.methodLink RX3 102 yX3_freeAt ∈ am_T := am_T_in 329 (by decide +kernel) (by decide +kernel)
theorem wd_184 : Cond.instanceMethod yX3_freeAt ∈ am_T := am_T_in 184 (by decide +kernel) (by decide +kernel)
theorem wd_185 : Cond.selects RX3 yX3_freeAt yX3_freeAt ∈ am_T := am_T_in 185 (by decide +kernel) (by decide +kernel)
theorem q_X3_movementError_102 : am_qV mX3_movementError 102 mX3_freeAt 1 := ⟨cb_X3_movementError_X3_freeAt 102, wd_329, wd_184, wd_185⟩
theorem bc_m8 : (Int8.ofInt (-8)).toInt32 = (-8) := by decide +kernel
theorem cb_X3_movementError_X3_locomotiveAt (i : Nat) : am_cb mX3_movementError i mX3_locomotiveAt 2 := ⟨wd_232, wd_56, ⟨pl_X3.1, pl_X3.2, pd_X3_locomotiveAt⟩, Nat.le_of_ble_eq_true rfl, Nat.le_of_ble_eq_true rfl⟩
theorem q_X3_movementError_61 : am_qV mX3_movementError 61 mX3_locomotiveAt 2 := ⟨cb_X3_movementError_X3_locomotiveAt 61, wd_229, wd_230, wd_231⟩
theorem cb_X3_movementError_X3_sizeOf (i : Nat) : am_cb mX3_movementError i mX3_sizeOf 1 := ⟨wd_212, wd_56, ⟨pl_X3.1, pl_X3.2, pd_X3_sizeOf⟩, Nat.le_of_ble_eq_true rfl, Nat.le_of_ble_eq_true rfl⟩
theorem q_X3_movementError_78 : am_qV mX3_movementError 78 mX3_sizeOf 1 := ⟨cb_X3_movementError_X3_sizeOf 78, wd_209, wd_210, wd_211⟩
theorem pd_X3_isAlive : (parseMethodDescriptor yX3_isAlive.desc).map (fun d => d.parameters.length) = some 1 := by decide +kernel
theorem wd_245 : Cond.code yX3_isAlive cX3_isAlive 2 (some .boolean) ∈ am_T := am_T_in 245 (by decide +kernel) (by decide +kernel)
theorem cb_X3_movementError_X3_isAlive (i : Nat) : am_cb mX3_movementError i mX3_isAlive 1 := ⟨wd_245, wd_56, ⟨pl_X3.1, pl_X3.2, pd_X3_isAlive⟩, Nat.le_of_ble_eq_true rfl, Nat.le_of_ble_eq_true rfl⟩
theorem wd_328 : Cond.methodLink RX3 96 yX3_isAlive ∈ am_T := am_T_in 328 (by decide +kernel) (by decide +kernel)
theorem wd_243 : Cond.instanceMethod yX3_isAlive ∈ am_T := am_T_in 243 (by decide +kernel) (by decide +kernel)
theorem wd_244 : Cond.selects RX3 yX3_isAlive yX3_isAlive ∈ am_T := am_T_in 244 (by decide +kernel) (by decide +kernel)
theorem q_X3_movementError_96 : am_qV mX3_movementError 96 mX3_isAlive 1 := ⟨cb_X3_movementError_X3_isAlive 96, wd_328, wd_243, wd_244⟩
theorem bc_m6 : (Int8.ofInt (-6)).toInt32 = (-6) := by decide +kernel
theorem pf_X3_shift : plainFor yX3_shift = true := by unfold plainFor; rw [show plainName yX3_shift.cls = true from pn_X3]; rfl
def mX3_shift : am_M := (yX3_shift, cX3_shift, 7, none, 2, 47)
theorem cb_X3_shift_X3_sourceOf (i : Nat) : am_cb mX3_shift i mX3_sourceOf 1 := ⟨wd_303, wd_56, ⟨pl_X3.1, pl_X3.2, pd_X3_sourceOf⟩, Nat.le_of_ble_eq_true rfl, Nat.le_of_ble_eq_true rfl⟩
theorem q_X3_shift_93 : am_qV mX3_shift 93 mX3_sourceOf 1 := ⟨cb_X3_shift_X3_sourceOf 93, wd_300, wd_301, wd_302⟩
theorem cb_X3_shift_X3_targetOf (i : Nat) : am_cb mX3_shift i mX3_targetOf 1 := ⟨wd_311, wd_56, ⟨pl_X3.1, pl_X3.2, pd_X3_targetOf⟩, Nat.le_of_ble_eq_true rfl, Nat.le_of_ble_eq_true rfl⟩
theorem q_X3_shift_99 : am_qV mX3_shift 99 mX3_targetOf 1 := ⟨cb_X3_shift_X3_targetOf 99, wd_308, wd_309, wd_310⟩
theorem cb_X3_shift_X3_countAt (i : Nat) : am_cb mX3_shift i mX3_countAt 1 := ⟨wd_208, wd_56, ⟨pl_X3.1, pl_X3.2, pd_X3_countAt⟩, Nat.le_of_ble_eq_true rfl, Nat.le_of_ble_eq_true rfl⟩
theorem q_X3_shift_58 : am_qV mX3_shift 58 mX3_countAt 1 := ⟨cb_X3_shift_X3_countAt 58, wd_205, wd_206, wd_207⟩
theorem cb_X3_shift_X3_takeOut (i : Nat) : am_cb mX3_shift i mX3_takeOut 2 := ⟨wd_236, wd_56, ⟨pl_X3.1, pl_X3.2, pd_X3_takeOut⟩, Nat.le_of_ble_eq_true rfl, Nat.le_of_ble_eq_true rfl⟩
theorem q_X3_shift_75 : am_qV mX3_shift 75 mX3_takeOut 2 := ⟨cb_X3_shift_X3_takeOut 75, wd_233, wd_234, wd_235⟩
theorem cb_X3_shift_X3_putIn (i : Nat) : am_cb mX3_shift i mX3_putIn 3 := ⟨wd_204, wd_56, ⟨pl_X3.1, pl_X3.2, pd_X3_putIn⟩, Nat.le_of_ble_eq_true rfl, Nat.le_of_ble_eq_true rfl⟩
theorem q_X3_shift_68 : am_qV mX3_shift 68 mX3_putIn 3 := ⟨cb_X3_shift_X3_putIn 68, wd_201, wd_202, wd_203⟩
theorem pf_X3_carryOut : plainFor yX3_carryOut = true := by unfold plainFor; rw [show plainName yX3_carryOut.cls = true from pn_X3]; rfl
def mX3_carryOut : am_M := (yX3_carryOut, cX3_carryOut, 2, none, 3, 73)
theorem fp_X3_40 : am_fp RX3 40 3 7 .int false := ⟨RX3, TX3, 8, tyX3, cl_X3, Nat.le_of_ble_eq_true rfl, rfl, rfl, rfl, Or.inl ⟨wd_88, fun _ => rfl⟩⟩
theorem nz_10 : ¬ (10 : Int32) = 0 := by decide +kernel
theorem pd_X3_shift : (parseMethodDescriptor yX3_shift.desc).map (fun d => d.parameters.length) = some 2 := by decide +kernel
theorem wd_299 : Cond.code yX3_shift cX3_shift 7 none ∈ am_T := am_T_in 299 (by decide +kernel) (by decide +kernel)
theorem cb_X3_carryOut_X3_shift (i : Nat) : am_cb mX3_carryOut i mX3_shift 2 := ⟨wd_299, wd_56, ⟨pl_X3.1, pl_X3.2, pd_X3_shift⟩, Nat.le_of_ble_eq_true rfl, Nat.le_of_ble_eq_true rfl⟩
theorem wd_296 : Cond.methodLink RX3 105 yX3_shift ∈ am_T := am_T_in 296 (by decide +kernel) (by decide +kernel)
theorem wd_297 : Cond.instanceMethod yX3_shift ∈ am_T := am_T_in 297 (by decide +kernel) (by decide +kernel)
theorem wd_298 : Cond.selects RX3 yX3_shift yX3_shift ∈ am_T := am_T_in 298 (by decide +kernel) (by decide +kernel)
theorem q_X3_carryOut_105 : am_qV mX3_carryOut 105 mX3_shift 2 := ⟨cb_X3_carryOut_X3_shift 105, wd_296, wd_297, wd_298⟩
end
section
theorem dJ7_fill_53178_0 : decode cJ7_fill_53178 0 = .ok (.iconst 0, 1) := by decide +kernel
theorem dJ7_fill_53178_1 : decode cJ7_fill_53178 1 = .ok (.istore_n 2, 1) := by decide +kernel
theorem dJ7_fill_53178_2 : decode cJ7_fill_53178 2 = .ok (.aload_n 0, 1) := by decide +kernel
theorem dJ7_fill_53178_3 : decode cJ7_fill_53178 3 = .ok (.arraylength, 1) := by decide +kernel
theorem dJ7_fill_53178_4 : decode cJ7_fill_53178 4 = .ok (.istore_n 3, 1) := by decide +kernel
theorem dJ7_fill_53178_5 : decode cJ7_fill_53178 5 = .ok (.iload_n 2, 1) := by decide +kernel
theorem dJ7_fill_53178_6 : decode cJ7_fill_53178 6 = .ok (.iload_n 3, 1) := by decide +kernel
theorem dJ7_fill_53178_7 : decode cJ7_fill_53178 7 = .ok (.if_icmp .ge 13, 3) := by decide +kernel
theorem dJ7_fill_53178_10 : decode cJ7_fill_53178 10 = .ok (.aload_n 0, 1) := by decide +kernel
theorem dJ7_fill_53178_11 : decode cJ7_fill_53178 11 = .ok (.iload_n 2, 1) := by decide +kernel
theorem dJ7_fill_53178_12 : decode cJ7_fill_53178 12 = .ok (.iload_n 1, 1) := by decide +kernel
theorem dJ7_fill_53178_13 : decode cJ7_fill_53178 13 = .ok (.iastore, 1) := by decide +kernel
theorem dJ7_fill_53178_14 : decode cJ7_fill_53178 14 = .ok (.iinc 2 1, 3) := by decide +kernel
theorem dJ7_fill_53178_17 : decode cJ7_fill_53178 17 = .ok (.goto (-12), 3) := by decide +kernel
theorem dJ7_fill_53178_20 : decode cJ7_fill_53178 20 = .ok (.return_, 1) := by decide +kernel
theorem dJ6_bitCount_0f7a4_0 : decode cJ6_bitCount_0f7a4 0 = .ok (.iload_n 0, 1) := by decide +kernel
theorem dJ6_bitCount_0f7a4_1 : decode cJ6_bitCount_0f7a4 1 = .ok (.iload_n 0, 1) := by decide +kernel
theorem dJ6_bitCount_0f7a4_2 : decode cJ6_bitCount_0f7a4 2 = .ok (.iconst 1, 1) := by decide +kernel
theorem dJ6_bitCount_0f7a4_3 : decode cJ6_bitCount_0f7a4 3 = .ok (.iushr, 1) := by decide +kernel
theorem dJ6_bitCount_0f7a4_4 : decode cJ6_bitCount_0f7a4 4 = .ok (.ldc_w 265, 3) := by decide +kernel
theorem dJ6_bitCount_0f7a4_7 : decode cJ6_bitCount_0f7a4 7 = .ok (.iand, 1) := by decide +kernel
theorem dJ6_bitCount_0f7a4_8 : decode cJ6_bitCount_0f7a4 8 = .ok (.isub, 1) := by decide +kernel
theorem dJ6_bitCount_0f7a4_9 : decode cJ6_bitCount_0f7a4 9 = .ok (.istore_n 0, 1) := by decide +kernel
theorem dJ6_bitCount_0f7a4_10 : decode cJ6_bitCount_0f7a4 10 = .ok (.iload_n 0, 1) := by decide +kernel
theorem dJ6_bitCount_0f7a4_11 : decode cJ6_bitCount_0f7a4 11 = .ok (.ldc_w 266, 3) := by decide +kernel
theorem dJ6_bitCount_0f7a4_14 : decode cJ6_bitCount_0f7a4 14 = .ok (.iand, 1) := by decide +kernel
theorem dJ6_bitCount_0f7a4_15 : decode cJ6_bitCount_0f7a4 15 = .ok (.iload_n 0, 1) := by decide +kernel
theorem dJ6_bitCount_0f7a4_16 : decode cJ6_bitCount_0f7a4 16 = .ok (.iconst 2, 1) := by decide +kernel
theorem dJ6_bitCount_0f7a4_17 : decode cJ6_bitCount_0f7a4 17 = .ok (.iushr, 1) := by decide +kernel
theorem dJ6_bitCount_0f7a4_18 : decode cJ6_bitCount_0f7a4 18 = .ok (.ldc_w 266, 3) := by decide +kernel
theorem dJ6_bitCount_0f7a4_21 : decode cJ6_bitCount_0f7a4 21 = .ok (.iand, 1) := by decide +kernel
theorem dJ6_bitCount_0f7a4_22 : decode cJ6_bitCount_0f7a4 22 = .ok (.iadd, 1) := by decide +kernel
theorem dJ6_bitCount_0f7a4_23 : decode cJ6_bitCount_0f7a4 23 = .ok (.istore_n 0, 1) := by decide +kernel
theorem dJ6_bitCount_0f7a4_24 : decode cJ6_bitCount_0f7a4 24 = .ok (.iload_n 0, 1) := by decide +kernel
theorem dJ6_bitCount_0f7a4_25 : decode cJ6_bitCount_0f7a4 25 = .ok (.iload_n 0, 1) := by decide +kernel
theorem dJ6_bitCount_0f7a4_26 : decode cJ6_bitCount_0f7a4 26 = .ok (.iconst 4, 1) := by decide +kernel
theorem dJ6_bitCount_0f7a4_27 : decode cJ6_bitCount_0f7a4 27 = .ok (.iushr, 1) := by decide +kernel
theorem dJ6_bitCount_0f7a4_28 : decode cJ6_bitCount_0f7a4 28 = .ok (.iadd, 1) := by decide +kernel
theorem dJ6_bitCount_0f7a4_29 : decode cJ6_bitCount_0f7a4 29 = .ok (.ldc_w 267, 3) := by decide +kernel
theorem dJ6_bitCount_0f7a4_32 : decode cJ6_bitCount_0f7a4 32 = .ok (.iand, 1) := by decide +kernel
theorem dJ6_bitCount_0f7a4_33 : decode cJ6_bitCount_0f7a4 33 = .ok (.istore_n 0, 1) := by decide +kernel
theorem dJ6_bitCount_0f7a4_34 : decode cJ6_bitCount_0f7a4 34 = .ok (.iload_n 0, 1) := by decide +kernel
theorem dJ6_bitCount_0f7a4_35 : decode cJ6_bitCount_0f7a4 35 = .ok (.iload_n 0, 1) := by decide +kernel
theorem dJ6_bitCount_0f7a4_36 : decode cJ6_bitCount_0f7a4 36 = .ok (.bipush 8, 2) := by decide +kernel
theorem dJ6_bitCount_0f7a4_38 : decode cJ6_bitCount_0f7a4 38 = .ok (.iushr, 1) := by decide +kernel
theorem dJ6_bitCount_0f7a4_39 : decode cJ6_bitCount_0f7a4 39 = .ok (.iadd, 1) := by decide +kernel
theorem dJ6_bitCount_0f7a4_40 : decode cJ6_bitCount_0f7a4 40 = .ok (.istore_n 0, 1) := by decide +kernel
theorem dJ6_bitCount_0f7a4_41 : decode cJ6_bitCount_0f7a4 41 = .ok (.iload_n 0, 1) := by decide +kernel
theorem dJ6_bitCount_0f7a4_42 : decode cJ6_bitCount_0f7a4 42 = .ok (.iload_n 0, 1) := by decide +kernel
theorem dJ6_bitCount_0f7a4_43 : decode cJ6_bitCount_0f7a4 43 = .ok (.bipush 16, 2) := by decide +kernel
theorem dJ6_bitCount_0f7a4_45 : decode cJ6_bitCount_0f7a4 45 = .ok (.iushr, 1) := by decide +kernel
theorem dJ6_bitCount_0f7a4_46 : decode cJ6_bitCount_0f7a4 46 = .ok (.iadd, 1) := by decide +kernel
theorem dJ6_bitCount_0f7a4_47 : decode cJ6_bitCount_0f7a4 47 = .ok (.istore_n 0, 1) := by decide +kernel
theorem dJ6_bitCount_0f7a4_48 : decode cJ6_bitCount_0f7a4 48 = .ok (.iload_n 0, 1) := by decide +kernel
theorem dJ6_bitCount_0f7a4_49 : decode cJ6_bitCount_0f7a4 49 = .ok (.bipush 63, 2) := by decide +kernel
theorem dJ6_bitCount_0f7a4_51 : decode cJ6_bitCount_0f7a4 51 = .ok (.iand, 1) := by decide +kernel
theorem dJ6_bitCount_0f7a4_52 : decode cJ6_bitCount_0f7a4 52 = .ok (.ireturn, 1) := by decide +kernel
theorem dJ9_floorMod_7cf53_0 : decode cJ9_floorMod_7cf53 0 = .ok (.iload_n 0, 1) := by decide +kernel
theorem dJ9_floorMod_7cf53_1 : decode cJ9_floorMod_7cf53 1 = .ok (.iload_n 1, 1) := by decide +kernel
theorem dJ9_floorMod_7cf53_2 : decode cJ9_floorMod_7cf53 2 = .ok (.irem, 1) := by decide +kernel
theorem dJ9_floorMod_7cf53_3 : decode cJ9_floorMod_7cf53 3 = .ok (.istore_n 2, 1) := by decide +kernel
theorem dJ9_floorMod_7cf53_4 : decode cJ9_floorMod_7cf53 4 = .ok (.iload_n 0, 1) := by decide +kernel
theorem dJ9_floorMod_7cf53_5 : decode cJ9_floorMod_7cf53 5 = .ok (.iload_n 1, 1) := by decide +kernel
theorem dJ9_floorMod_7cf53_6 : decode cJ9_floorMod_7cf53 6 = .ok (.ixor, 1) := by decide +kernel
theorem dJ9_floorMod_7cf53_7 : decode cJ9_floorMod_7cf53 7 = .ok (.ifCond .ge 11, 3) := by decide +kernel
theorem dJ9_floorMod_7cf53_10 : decode cJ9_floorMod_7cf53 10 = .ok (.iload_n 2, 1) := by decide +kernel
theorem dJ9_floorMod_7cf53_11 : decode cJ9_floorMod_7cf53 11 = .ok (.ifCond .eq 7, 3) := by decide +kernel
theorem dJ9_floorMod_7cf53_14 : decode cJ9_floorMod_7cf53 14 = .ok (.iload_n 2, 1) := by decide +kernel
theorem dJ9_floorMod_7cf53_15 : decode cJ9_floorMod_7cf53 15 = .ok (.iload_n 1, 1) := by decide +kernel
theorem dJ9_floorMod_7cf53_16 : decode cJ9_floorMod_7cf53 16 = .ok (.iadd, 1) := by decide +kernel
theorem dJ9_floorMod_7cf53_17 : decode cJ9_floorMod_7cf53 17 = .ok (.ireturn, 1) := by decide +kernel
theorem dJ9_floorMod_7cf53_18 : decode cJ9_floorMod_7cf53 18 = .ok (.iload_n 2, 1) := by decide +kernel
theorem dJ9_floorMod_7cf53_19 : decode cJ9_floorMod_7cf53 19 = .ok (.ireturn, 1) := by decide +kernel
theorem dJ9_abs_0f7a4_0 : decode cJ9_abs_0f7a4 0 = .ok (.iload_n 0, 1) := by decide +kernel
theorem dJ9_abs_0f7a4_1 : decode cJ9_abs_0f7a4 1 = .ok (.ifCond .ge 8, 3) := by decide +kernel
theorem dJ9_abs_0f7a4_4 : decode cJ9_abs_0f7a4 4 = .ok (.iload_n 0, 1) := by decide +kernel
theorem dJ9_abs_0f7a4_5 : decode cJ9_abs_0f7a4 5 = .ok (.ineg, 1) := by decide +kernel
theorem dJ9_abs_0f7a4_6 : decode cJ9_abs_0f7a4 6 = .ok (.goto 4, 3) := by decide +kernel
theorem dJ9_abs_0f7a4_9 : decode cJ9_abs_0f7a4 9 = .ok (.iload_n 0, 1) := by decide +kernel
theorem dJ9_abs_0f7a4_10 : decode cJ9_abs_0f7a4 10 = .ok (.ireturn, 1) := by decide +kernel
theorem dJ9_max_7cf53_0 : decode cJ9_max_7cf53 0 = .ok (.iload_n 0, 1) := by decide +kernel
theorem dJ9_max_7cf53_1 : decode cJ9_max_7cf53 1 = .ok (.iload_n 1, 1) := by decide +kernel
theorem dJ9_max_7cf53_2 : decode cJ9_max_7cf53 2 = .ok (.if_icmp .lt 7, 3) := by decide +kernel
theorem dJ9_max_7cf53_5 : decode cJ9_max_7cf53 5 = .ok (.iload_n 0, 1) := by decide +kernel
theorem dJ9_max_7cf53_6 : decode cJ9_max_7cf53 6 = .ok (.goto 4, 3) := by decide +kernel
theorem dJ9_max_7cf53_9 : decode cJ9_max_7cf53 9 = .ok (.iload_n 1, 1) := by decide +kernel
theorem dJ9_max_7cf53_10 : decode cJ9_max_7cf53 10 = .ok (.ireturn, 1) := by decide +kernel
theorem dJ9_min_7cf53_0 : decode cJ9_min_7cf53 0 = .ok (.iload_n 0, 1) := by decide +kernel
theorem dJ9_min_7cf53_1 : decode cJ9_min_7cf53 1 = .ok (.iload_n 1, 1) := by decide +kernel
theorem dJ9_min_7cf53_2 : decode cJ9_min_7cf53 2 = .ok (.if_icmp .gt 7, 3) := by decide +kernel
theorem dJ9_min_7cf53_5 : decode cJ9_min_7cf53 5 = .ok (.iload_n 0, 1) := by decide +kernel
theorem dJ9_min_7cf53_6 : decode cJ9_min_7cf53 6 = .ok (.goto 4, 3) := by decide +kernel
theorem dJ9_min_7cf53_9 : decode cJ9_min_7cf53 9 = .ok (.iload_n 1, 1) := by decide +kernel
theorem dJ9_min_7cf53_10 : decode cJ9_min_7cf53 10 = .ok (.ireturn, 1) := by decide +kernel
theorem dX4_isPosition_0 : decode cX4_isPosition 0 = .ok (.iload_n 0, 1) := by decide +kernel
theorem dX4_isPosition_1 : decode cX4_isPosition 1 = .ok (.ifCond .lt 13, 3) := by decide +kernel
theorem dX4_isPosition_4 : decode cX4_isPosition 4 = .ok (.iload_n 0, 1) := by decide +kernel
theorem dX4_isPosition_5 : decode cX4_isPosition 5 = .ok (.bipush 12, 2) := by decide +kernel
theorem dX4_isPosition_7 : decode cX4_isPosition 7 = .ok (.if_icmp .ge 7, 3) := by decide +kernel
theorem dX4_isPosition_10 : decode cX4_isPosition 10 = .ok (.iconst 1, 1) := by decide +kernel
theorem dX4_isPosition_11 : decode cX4_isPosition 11 = .ok (.goto 4, 3) := by decide +kernel
theorem dX4_isPosition_14 : decode cX4_isPosition 14 = .ok (.iconst 0, 1) := by decide +kernel
theorem dX4_isPosition_15 : decode cX4_isPosition 15 = .ok (.ireturn, 1) := by decide +kernel
theorem dX4_isEnd_0 : decode cX4_isEnd 0 = .ok (.iload_n 0, 1) := by decide +kernel
theorem dX4_isEnd_1 : decode cX4_isEnd 1 = .ok (.ifCond .eq 8, 3) := by decide +kernel
theorem dX4_isEnd_4 : decode cX4_isEnd 4 = .ok (.iload_n 0, 1) := by decide +kernel
theorem dX4_isEnd_5 : decode cX4_isEnd 5 = .ok (.iconst 1, 1) := by decide +kernel
theorem dX4_isEnd_6 : decode cX4_isEnd 6 = .ok (.if_icmp .ne 7, 3) := by decide +kernel
theorem dX4_isEnd_9 : decode cX4_isEnd 9 = .ok (.iconst 1, 1) := by decide +kernel
theorem dX4_isEnd_10 : decode cX4_isEnd 10 = .ok (.goto 4, 3) := by decide +kernel
theorem dX4_isEnd_13 : decode cX4_isEnd 13 = .ok (.iconst 0, 1) := by decide +kernel
theorem dX4_isEnd_14 : decode cX4_isEnd 14 = .ok (.ireturn, 1) := by decide +kernel
theorem dX4_isSlot_0 : decode cX4_isSlot 0 = .ok (.iload_n 0, 1) := by decide +kernel
theorem dX4_isSlot_1 : decode cX4_isSlot 1 = .ok (.ifCond .lt 12, 3) := by decide +kernel
theorem dX4_isSlot_4 : decode cX4_isSlot 4 = .ok (.iload_n 0, 1) := by decide +kernel
theorem dX4_isSlot_5 : decode cX4_isSlot 5 = .ok (.iconst 2, 1) := by decide +kernel
theorem dX4_isSlot_6 : decode cX4_isSlot 6 = .ok (.if_icmp .ge 7, 3) := by decide +kernel
theorem dX4_isSlot_9 : decode cX4_isSlot 9 = .ok (.iconst 1, 1) := by decide +kernel
theorem dX4_isSlot_10 : decode cX4_isSlot 10 = .ok (.goto 4, 3) := by decide +kernel
theorem dX4_isSlot_13 : decode cX4_isSlot 13 = .ok (.iconst 0, 1) := by decide +kernel
theorem dX4_isSlot_14 : decode cX4_isSlot 14 = .ok (.ireturn, 1) := by decide +kernel
theorem dX4_endOf_0 : decode cX4_endOf 0 = .ok (.iload_n 0, 1) := by decide +kernel
theorem dX4_endOf_1 : decode cX4_endOf 1 = .ok (.bipush 10, 2) := by decide +kernel
theorem dX4_endOf_3 : decode cX4_endOf 3 = .ok (.if_icmp .eq 9, 3) := by decide +kernel
theorem dX4_endOf_6 : decode cX4_endOf 6 = .ok (.iload_n 0, 1) := by decide +kernel
theorem dX4_endOf_7 : decode cX4_endOf 7 = .ok (.bipush 30, 2) := by decide +kernel
theorem dX4_endOf_9 : decode cX4_endOf 9 = .ok (.if_icmp .ne 7, 3) := by decide +kernel
theorem dX4_endOf_12 : decode cX4_endOf 12 = .ok (.iconst 0, 1) := by decide +kernel
theorem dX4_endOf_13 : decode cX4_endOf 13 = .ok (.goto 4, 3) := by decide +kernel
theorem dX4_endOf_16 : decode cX4_endOf 16 = .ok (.iconst 1, 1) := by decide +kernel
theorem dX4_endOf_17 : decode cX4_endOf 17 = .ok (.ireturn, 1) := by decide +kernel
theorem dX4_reverseOf_0 : decode cX4_reverseOf 0 = .ok (.iload_n 0, 1) := by decide +kernel
theorem dX4_reverseOf_1 : decode cX4_reverseOf 1 = .ok (.ifCond .ne 5, 3) := by decide +kernel
theorem dX4_reverseOf_4 : decode cX4_reverseOf 4 = .ok (.iconst 1, 1) := by decide +kernel
theorem dX4_reverseOf_5 : decode cX4_reverseOf 5 = .ok (.ireturn, 1) := by decide +kernel
theorem dX4_reverseOf_6 : decode cX4_reverseOf 6 = .ok (.iload_n 0, 1) := by decide +kernel
theorem dX4_reverseOf_7 : decode cX4_reverseOf 7 = .ok (.iconst 1, 1) := by decide +kernel
theorem dX4_reverseOf_8 : decode cX4_reverseOf 8 = .ok (.if_icmp .ne 5, 3) := by decide +kernel
theorem dX4_reverseOf_11 : decode cX4_reverseOf 11 = .ok (.iconst 0, 1) := by decide +kernel
theorem dX4_reverseOf_12 : decode cX4_reverseOf 12 = .ok (.ireturn, 1) := by decide +kernel
theorem dX4_reverseOf_13 : decode cX4_reverseOf 13 = .ok (.iload_n 0, 1) := by decide +kernel
theorem dX4_reverseOf_14 : decode cX4_reverseOf 14 = .ok (.bipush 30, 2) := by decide +kernel
theorem dX4_reverseOf_16 : decode cX4_reverseOf 16 = .ok (.if_icmp .ge 10, 3) := by decide +kernel
theorem dX4_reverseOf_19 : decode cX4_reverseOf 19 = .ok (.iload_n 0, 1) := by decide +kernel
theorem dX4_reverseOf_20 : decode cX4_reverseOf 20 = .ok (.bipush 20, 2) := by decide +kernel
theorem dX4_reverseOf_22 : decode cX4_reverseOf 22 = .ok (.iadd, 1) := by decide +kernel
theorem dX4_reverseOf_23 : decode cX4_reverseOf 23 = .ok (.goto 7, 3) := by decide +kernel
theorem dX4_reverseOf_26 : decode cX4_reverseOf 26 = .ok (.iload_n 0, 1) := by decide +kernel
theorem dX4_reverseOf_27 : decode cX4_reverseOf 27 = .ok (.bipush 20, 2) := by decide +kernel
theorem dX4_reverseOf_29 : decode cX4_reverseOf 29 = .ok (.isub, 1) := by decide +kernel
theorem dX4_reverseOf_30 : decode cX4_reverseOf 30 = .ok (.ireturn, 1) := by decide +kernel
theorem dX0_append_0 : decode cX0_append 0 = .ok (.aload_n 0, 1) := by decide +kernel
theorem dX0_append_1 : decode cX0_append 1 = .ok (.getfield 15, 3) := by decide +kernel
theorem dX0_append_4 : decode cX0_append 4 = .ok (.bipush 40, 2) := by decide +kernel
theorem dX0_append_6 : decode cX0_append 6 = .ok (.if_icmp .lt 37, 3) := by decide +kernel
theorem dX0_append_9 : decode cX0_append 9 = .ok (.iconst 1, 1) := by decide +kernel
theorem dX0_append_10 : decode cX0_append 10 = .ok (.istore_n 2, 1) := by decide +kernel
theorem dX0_append_11 : decode cX0_append 11 = .ok (.iload_n 2, 1) := by decide +kernel
theorem dX0_append_12 : decode cX0_append 12 = .ok (.bipush 40, 2) := by decide +kernel
theorem dX0_append_14 : decode cX0_append 14 = .ok (.if_icmp .ge 23, 3) := by decide +kernel
theorem dX0_append_17 : decode cX0_append 17 = .ok (.aload_n 0, 1) := by decide +kernel
theorem dX0_append_18 : decode cX0_append 18 = .ok (.getfield 9, 3) := by decide +kernel
theorem dX0_append_21 : decode cX0_append 21 = .ok (.iload_n 2, 1) := by decide +kernel
theorem dX0_append_22 : decode cX0_append 22 = .ok (.iconst 1, 1) := by decide +kernel
theorem dX0_append_23 : decode cX0_append 23 = .ok (.isub, 1) := by decide +kernel
theorem dX0_append_24 : decode cX0_append 24 = .ok (.aload_n 0, 1) := by decide +kernel
theorem dX0_append_25 : decode cX0_append 25 = .ok (.getfield 9, 3) := by decide +kernel
theorem dX0_append_28 : decode cX0_append 28 = .ok (.iload_n 2, 1) := by decide +kernel
theorem dX0_append_29 : decode cX0_append 29 = .ok (.iaload, 1) := by decide +kernel
theorem dX0_append_30 : decode cX0_append 30 = .ok (.iastore, 1) := by decide +kernel
theorem dX0_append_31 : decode cX0_append 31 = .ok (.iinc 2 1, 3) := by decide +kernel
theorem dX0_append_34 : decode cX0_append 34 = .ok (.goto (-23), 3) := by decide +kernel
theorem dX0_append_37 : decode cX0_append 37 = .ok (.aload_n 0, 1) := by decide +kernel
theorem dX0_append_38 : decode cX0_append 38 = .ok (.bipush 39, 2) := by decide +kernel
theorem dX0_append_40 : decode cX0_append 40 = .ok (.putfield 15, 3) := by decide +kernel
theorem dX0_append_43 : decode cX0_append 43 = .ok (.aload_n 0, 1) := by decide +kernel
theorem dX0_append_44 : decode cX0_append 44 = .ok (.getfield 15, 3) := by decide +kernel
theorem dX0_append_47 : decode cX0_append 47 = .ok (.ifCond .lt 23, 3) := by decide +kernel
theorem dX0_append_50 : decode cX0_append 50 = .ok (.aload_n 0, 1) := by decide +kernel
theorem dX0_append_51 : decode cX0_append 51 = .ok (.getfield 9, 3) := by decide +kernel
theorem dX0_append_54 : decode cX0_append 54 = .ok (.aload_n 0, 1) := by decide +kernel
theorem dX0_append_55 : decode cX0_append 55 = .ok (.getfield 15, 3) := by decide +kernel
theorem dX0_append_58 : decode cX0_append 58 = .ok (.iload_n 1, 1) := by decide +kernel
theorem dX0_append_59 : decode cX0_append 59 = .ok (.iastore, 1) := by decide +kernel
theorem dX0_append_60 : decode cX0_append 60 = .ok (.aload_n 0, 1) := by decide +kernel
theorem dX0_append_61 : decode cX0_append 61 = .ok (.dup, 1) := by decide +kernel
theorem dX0_append_62 : decode cX0_append 62 = .ok (.getfield 15, 3) := by decide +kernel
theorem dX0_append_65 : decode cX0_append 65 = .ok (.iconst 1, 1) := by decide +kernel
theorem dX0_append_66 : decode cX0_append 66 = .ok (.iadd, 1) := by decide +kernel
theorem dX0_append_67 : decode cX0_append 67 = .ok (.putfield 15, 3) := by decide +kernel
theorem dX0_append_70 : decode cX0_append 70 = .ok (.return_, 1) := by decide +kernel
theorem dX0_forgetAll_0 : decode cX0_forgetAll 0 = .ok (.aload_n 0, 1) := by decide +kernel
theorem dX0_forgetAll_1 : decode cX0_forgetAll 1 = .ok (.iconst 0, 1) := by decide +kernel
theorem dX0_forgetAll_2 : decode cX0_forgetAll 2 = .ok (.putfield 15, 3) := by decide +kernel
theorem dX0_forgetAll_5 : decode cX0_forgetAll 5 = .ok (.return_, 1) := by decide +kernel
theorem dX0_latest_0 : decode cX0_latest 0 = .ok (.iload_n 1, 1) := by decide +kernel
theorem dX0_latest_1 : decode cX0_latest 1 = .ok (.ifCond .lt 36, 3) := by decide +kernel
theorem dX0_latest_4 : decode cX0_latest 4 = .ok (.iload_n 1, 1) := by decide +kernel
theorem dX0_latest_5 : decode cX0_latest 5 = .ok (.aload_n 0, 1) := by decide +kernel
theorem dX0_latest_6 : decode cX0_latest 6 = .ok (.getfield 15, 3) := by decide +kernel
theorem dX0_latest_9 : decode cX0_latest 9 = .ok (.if_icmp .ge 28, 3) := by decide +kernel
theorem dX0_latest_12 : decode cX0_latest 12 = .ok (.aload_n 0, 1) := by decide +kernel
theorem dX0_latest_13 : decode cX0_latest 13 = .ok (.getfield 15, 3) := by decide +kernel
theorem dX0_latest_16 : decode cX0_latest 16 = .ok (.bipush 40, 2) := by decide +kernel
theorem dX0_latest_18 : decode cX0_latest 18 = .ok (.if_icmp .gt 19, 3) := by decide +kernel
theorem dX0_latest_21 : decode cX0_latest 21 = .ok (.aload_n 0, 1) := by decide +kernel
theorem dX0_latest_22 : decode cX0_latest 22 = .ok (.getfield 9, 3) := by decide +kernel
theorem dX0_latest_25 : decode cX0_latest 25 = .ok (.aload_n 0, 1) := by decide +kernel
theorem dX0_latest_26 : decode cX0_latest 26 = .ok (.getfield 15, 3) := by decide +kernel
theorem dX0_latest_29 : decode cX0_latest 29 = .ok (.iconst 1, 1) := by decide +kernel
theorem dX0_latest_30 : decode cX0_latest 30 = .ok (.isub, 1) := by decide +kernel
theorem dX0_latest_31 : decode cX0_latest 31 = .ok (.iload_n 1, 1) := by decide +kernel
theorem dX0_latest_32 : decode cX0_latest 32 = .ok (.isub, 1) := by decide +kernel
theorem dX0_latest_33 : decode cX0_latest 33 = .ok (.iaload, 1) := by decide +kernel
theorem dX0_latest_34 : decode cX0_latest 34 = .ok (.goto 5, 3) := by decide +kernel
theorem dX0_latest_37 : decode cX0_latest 37 = .ok (.bipush (-11), 2) := by decide +kernel
theorem dX0_latest_39 : decode cX0_latest 39 = .ok (.ireturn, 1) := by decide +kernel
theorem dX0_removeLatest_0 : decode cX0_removeLatest 0 = .ok (.aload_n 0, 1) := by decide +kernel
theorem dX0_removeLatest_1 : decode cX0_removeLatest 1 = .ok (.iconst 0, 1) := by decide +kernel
theorem dX0_removeLatest_2 : decode cX0_removeLatest 2 = .ok (.invokevirtual 19, 3) := by decide +kernel
theorem dX0_removeLatest_5 : decode cX0_removeLatest 5 = .ok (.istore_n 1, 1) := by decide +kernel
theorem dX0_removeLatest_6 : decode cX0_removeLatest 6 = .ok (.iload_n 1, 1) := by decide +kernel
theorem dX0_removeLatest_7 : decode cX0_removeLatest 7 = .ok (.bipush (-11), 2) := by decide +kernel
theorem dX0_removeLatest_9 : decode cX0_removeLatest 9 = .ok (.if_icmp .eq 13, 3) := by decide +kernel
theorem dX0_removeLatest_12 : decode cX0_removeLatest 12 = .ok (.aload_n 0, 1) := by decide +kernel
theorem dX0_removeLatest_13 : decode cX0_removeLatest 13 = .ok (.dup, 1) := by decide +kernel
theorem dX0_removeLatest_14 : decode cX0_removeLatest 14 = .ok (.getfield 15, 3) := by decide +kernel
theorem dX0_removeLatest_17 : decode cX0_removeLatest 17 = .ok (.iconst 1, 1) := by decide +kernel
theorem dX0_removeLatest_18 : decode cX0_removeLatest 18 = .ok (.isub, 1) := by decide +kernel
theorem dX0_removeLatest_19 : decode cX0_removeLatest 19 = .ok (.putfield 15, 3) := by decide +kernel
theorem dX0_removeLatest_22 : decode cX0_removeLatest 22 = .ok (.iload_n 1, 1) := by decide +kernel
theorem dX0_removeLatest_23 : decode cX0_removeLatest 23 = .ok (.ireturn, 1) := by decide +kernel
theorem dX2_reset_0 : decode cX2_reset 0 = .ok (.aload_n 0, 1) := by decide +kernel
theorem dX2_reset_1 : decode cX2_reset 1 = .ok (.iconst 0, 1) := by decide +kernel
theorem dX2_reset_2 : decode cX2_reset 2 = .ok (.putfield 15, 3) := by decide +kernel
theorem dX2_reset_5 : decode cX2_reset 5 = .ok (.aload_n 0, 1) := by decide +kernel
theorem dX2_reset_6 : decode cX2_reset 6 = .ok (.iconst 0, 1) := by decide +kernel
theorem dX2_reset_7 : decode cX2_reset 7 = .ok (.putfield 19, 3) := by decide +kernel
theorem dX2_reset_10 : decode cX2_reset 10 = .ok (.return_, 1) := by decide +kernel
theorem dX2_add_0 : decode cX2_add 0 = .ok (.aload_n 0, 1) := by decide +kernel
theorem dX2_add_1 : decode cX2_add 1 = .ok (.getfield 19, 3) := by decide +kernel
theorem dX2_add_4 : decode cX2_add 4 = .ok (.ifCond .lt 33, 3) := by decide +kernel
theorem dX2_add_7 : decode cX2_add 7 = .ok (.aload_n 0, 1) := by decide +kernel
theorem dX2_add_8 : decode cX2_add 8 = .ok (.getfield 19, 3) := by decide +kernel
theorem dX2_add_11 : decode cX2_add 11 = .ok (.sipush 4032, 3) := by decide +kernel
theorem dX2_add_14 : decode cX2_add 14 = .ok (.if_icmp .ge 23, 3) := by decide +kernel
theorem dX2_add_17 : decode cX2_add 17 = .ok (.aload_n 0, 1) := by decide +kernel
theorem dX2_add_18 : decode cX2_add 18 = .ok (.getfield 9, 3) := by decide +kernel
theorem dX2_add_21 : decode cX2_add 21 = .ok (.aload_n 0, 1) := by decide +kernel
theorem dX2_add_22 : decode cX2_add 22 = .ok (.getfield 19, 3) := by decide +kernel
theorem dX2_add_25 : decode cX2_add 25 = .ok (.iload_n 1, 1) := by decide +kernel
theorem dX2_add_26 : decode cX2_add 26 = .ok (.iastore, 1) := by decide +kernel
theorem dX2_add_27 : decode cX2_add 27 = .ok (.aload_n 0, 1) := by decide +kernel
theorem dX2_add_28 : decode cX2_add 28 = .ok (.dup, 1) := by decide +kernel
theorem dX2_add_29 : decode cX2_add 29 = .ok (.getfield 19, 3) := by decide +kernel
theorem dX2_add_32 : decode cX2_add 32 = .ok (.iconst 1, 1) := by decide +kernel
theorem dX2_add_33 : decode cX2_add 33 = .ok (.iadd, 1) := by decide +kernel
theorem dX2_add_34 : decode cX2_add 34 = .ok (.putfield 19, 3) := by decide +kernel
theorem dX2_add_37 : decode cX2_add 37 = .ok (.return_, 1) := by decide +kernel
theorem dX2_first_0 : decode cX2_first 0 = .ok (.aload_n 0, 1) := by decide +kernel
theorem dX2_first_1 : decode cX2_first 1 = .ok (.getfield 15, 3) := by decide +kernel
theorem dX2_first_4 : decode cX2_first 4 = .ok (.ifCond .lt 36, 3) := by decide +kernel
theorem dX2_first_7 : decode cX2_first 7 = .ok (.aload_n 0, 1) := by decide +kernel
theorem dX2_first_8 : decode cX2_first 8 = .ok (.getfield 15, 3) := by decide +kernel
theorem dX2_first_11 : decode cX2_first 11 = .ok (.aload_n 0, 1) := by decide +kernel
theorem dX2_first_12 : decode cX2_first 12 = .ok (.getfield 19, 3) := by decide +kernel
theorem dX2_first_15 : decode cX2_first 15 = .ok (.if_icmp .ge 25, 3) := by decide +kernel
theorem dX2_first_18 : decode cX2_first 18 = .ok (.aload_n 0, 1) := by decide +kernel
theorem dX2_first_19 : decode cX2_first 19 = .ok (.getfield 15, 3) := by decide +kernel
theorem dX2_first_22 : decode cX2_first 22 = .ok (.sipush 4032, 3) := by decide +kernel
theorem dX2_first_25 : decode cX2_first 25 = .ok (.if_icmp .ge 15, 3) := by decide +kernel
theorem dX2_first_28 : decode cX2_first 28 = .ok (.aload_n 0, 1) := by decide +kernel
theorem dX2_first_29 : decode cX2_first 29 = .ok (.getfield 9, 3) := by decide +kernel
theorem dX2_first_32 : decode cX2_first 32 = .ok (.aload_n 0, 1) := by decide +kernel
theorem dX2_first_33 : decode cX2_first 33 = .ok (.getfield 15, 3) := by decide +kernel
theorem dX2_first_36 : decode cX2_first 36 = .ok (.iaload, 1) := by decide +kernel
theorem dX2_first_37 : decode cX2_first 37 = .ok (.goto 5, 3) := by decide +kernel
theorem dX2_first_40 : decode cX2_first 40 = .ok (.bipush (-11), 2) := by decide +kernel
theorem dX2_first_42 : decode cX2_first 42 = .ok (.ireturn, 1) := by decide +kernel
theorem dX2_removeFirst_0 : decode cX2_removeFirst 0 = .ok (.aload_n 0, 1) := by decide +kernel
theorem dX2_removeFirst_1 : decode cX2_removeFirst 1 = .ok (.invokevirtual 22, 3) := by decide +kernel
theorem dX2_removeFirst_4 : decode cX2_removeFirst 4 = .ok (.istore_n 1, 1) := by decide +kernel
theorem dX2_removeFirst_5 : decode cX2_removeFirst 5 = .ok (.iload_n 1, 1) := by decide +kernel
theorem dX2_removeFirst_6 : decode cX2_removeFirst 6 = .ok (.bipush (-11), 2) := by decide +kernel
theorem dX2_removeFirst_8 : decode cX2_removeFirst 8 = .ok (.if_icmp .eq 13, 3) := by decide +kernel
theorem dX2_removeFirst_11 : decode cX2_removeFirst 11 = .ok (.aload_n 0, 1) := by decide +kernel
theorem dX2_removeFirst_12 : decode cX2_removeFirst 12 = .ok (.dup, 1) := by decide +kernel
theorem dX2_removeFirst_13 : decode cX2_removeFirst 13 = .ok (.getfield 15, 3) := by decide +kernel
theorem dX2_removeFirst_16 : decode cX2_removeFirst 16 = .ok (.iconst 1, 1) := by decide +kernel
theorem dX2_removeFirst_17 : decode cX2_removeFirst 17 = .ok (.iadd, 1) := by decide +kernel
theorem dX2_removeFirst_18 : decode cX2_removeFirst 18 = .ok (.putfield 15, 3) := by decide +kernel
theorem dX2_removeFirst_21 : decode cX2_removeFirst 21 = .ok (.iload_n 1, 1) := by decide +kernel
theorem dX2_removeFirst_22 : decode cX2_removeFirst 22 = .ok (.ireturn, 1) := by decide +kernel
theorem dX3_isLocomotive_0 : decode cX3_isLocomotive 0 = .ok (.iload_n 1, 1) := by decide +kernel
theorem dX3_isLocomotive_1 : decode cX3_isLocomotive 1 = .ok (.ifCond .lt 21, 3) := by decide +kernel
theorem dX3_isLocomotive_4 : decode cX3_isLocomotive 4 = .ok (.iload_n 1, 1) := by decide +kernel
theorem dX3_isLocomotive_5 : decode cX3_isLocomotive 5 = .ok (.aload_n 0, 1) := by decide +kernel
theorem dX3_isLocomotive_6 : decode cX3_isLocomotive 6 = .ok (.getfield 33, 3) := by decide +kernel
theorem dX3_isLocomotive_9 : decode cX3_isLocomotive 9 = .ok (.if_icmp .ge 13, 3) := by decide +kernel
theorem dX3_isLocomotive_12 : decode cX3_isLocomotive 12 = .ok (.iload_n 1, 1) := by decide +kernel
theorem dX3_isLocomotive_13 : decode cX3_isLocomotive 13 = .ok (.bipush 8, 2) := by decide +kernel
theorem dX3_isLocomotive_15 : decode cX3_isLocomotive 15 = .ok (.if_icmp .ge 7, 3) := by decide +kernel
theorem dX3_isLocomotive_18 : decode cX3_isLocomotive 18 = .ok (.iconst 1, 1) := by decide +kernel
theorem dX3_isLocomotive_19 : decode cX3_isLocomotive 19 = .ok (.goto 4, 3) := by decide +kernel
theorem dX3_isLocomotive_22 : decode cX3_isLocomotive 22 = .ok (.iconst 0, 1) := by decide +kernel
theorem dX3_isLocomotive_23 : decode cX3_isLocomotive 23 = .ok (.ireturn, 1) := by decide +kernel
theorem dX3_isAlive_0 : decode cX3_isAlive 0 = .ok (.aload_n 0, 1) := by decide +kernel
theorem dX3_isAlive_1 : decode cX3_isAlive 1 = .ok (.iload_n 1, 1) := by decide +kernel
theorem dX3_isAlive_2 : decode cX3_isAlive 2 = .ok (.invokevirtual 43, 3) := by decide +kernel
theorem dX3_isAlive_5 : decode cX3_isAlive 5 = .ok (.ifCond .eq 18, 3) := by decide +kernel
theorem dX3_isAlive_8 : decode cX3_isAlive 8 = .ok (.aload_n 0, 1) := by decide +kernel
theorem dX3_isAlive_9 : decode cX3_isAlive 9 = .ok (.getfield 37, 3) := by decide +kernel
theorem dX3_isAlive_12 : decode cX3_isAlive 12 = .ok (.iload_n 1, 1) := by decide +kernel
theorem dX3_isAlive_13 : decode cX3_isAlive 13 = .ok (.ishr, 1) := by decide +kernel
theorem dX3_isAlive_14 : decode cX3_isAlive 14 = .ok (.iconst 1, 1) := by decide +kernel
theorem dX3_isAlive_15 : decode cX3_isAlive 15 = .ok (.iand, 1) := by decide +kernel
theorem dX3_isAlive_16 : decode cX3_isAlive 16 = .ok (.ifCond .ne 7, 3) := by decide +kernel
theorem dX3_isAlive_19 : decode cX3_isAlive 19 = .ok (.iconst 1, 1) := by decide +kernel
theorem dX3_isAlive_20 : decode cX3_isAlive 20 = .ok (.goto 4, 3) := by decide +kernel
theorem dX3_isAlive_23 : decode cX3_isAlive 23 = .ok (.iconst 0, 1) := by decide +kernel
theorem dX3_isAlive_24 : decode cX3_isAlive 24 = .ok (.ireturn, 1) := by decide +kernel
theorem dX3_sizeOf_0 : decode cX3_sizeOf 0 = .ok (.iload_n 1, 1) := by decide +kernel
theorem dX3_sizeOf_1 : decode cX3_sizeOf 1 = .ok (.ifCond .lt 18, 3) := by decide +kernel
theorem dX3_sizeOf_4 : decode cX3_sizeOf 4 = .ok (.iload_n 1, 1) := by decide +kernel
theorem dX3_sizeOf_5 : decode cX3_sizeOf 5 = .ok (.bipush 8, 2) := by decide +kernel
theorem dX3_sizeOf_7 : decode cX3_sizeOf 7 = .ok (.if_icmp .ge 12, 3) := by decide +kernel
theorem dX3_sizeOf_10 : decode cX3_sizeOf 10 = .ok (.aload_n 0, 1) := by decide +kernel
theorem dX3_sizeOf_11 : decode cX3_sizeOf 11 = .ok (.getfield 24, 3) := by decide +kernel
theorem dX3_sizeOf_14 : decode cX3_sizeOf 14 = .ok (.iload_n 1, 1) := by decide +kernel
theorem dX3_sizeOf_15 : decode cX3_sizeOf 15 = .ok (.iaload, 1) := by decide +kernel
theorem dX3_sizeOf_16 : decode cX3_sizeOf 16 = .ok (.goto 4, 3) := by decide +kernel
theorem dX3_sizeOf_19 : decode cX3_sizeOf 19 = .ok (.iconst 0, 1) := by decide +kernel
theorem dX3_sizeOf_20 : decode cX3_sizeOf 20 = .ok (.ireturn, 1) := by decide +kernel
theorem dX3_lengthAt_0 : decode cX3_lengthAt 0 = .ok (.iload_n 1, 1) := by decide +kernel
theorem dX3_lengthAt_1 : decode cX3_lengthAt 1 = .ok (.ifCond .lt 18, 3) := by decide +kernel
theorem dX3_lengthAt_4 : decode cX3_lengthAt 4 = .ok (.iload_n 1, 1) := by decide +kernel
theorem dX3_lengthAt_5 : decode cX3_lengthAt 5 = .ok (.bipush 13, 2) := by decide +kernel
theorem dX3_lengthAt_7 : decode cX3_lengthAt 7 = .ok (.if_icmp .ge 12, 3) := by decide +kernel
theorem dX3_lengthAt_10 : decode cX3_lengthAt 10 = .ok (.aload_n 0, 1) := by decide +kernel
theorem dX3_lengthAt_11 : decode cX3_lengthAt 11 = .ok (.getfield 9, 3) := by decide +kernel
theorem dX3_lengthAt_14 : decode cX3_lengthAt 14 = .ok (.iload_n 1, 1) := by decide +kernel
theorem dX3_lengthAt_15 : decode cX3_lengthAt 15 = .ok (.iaload, 1) := by decide +kernel
theorem dX3_lengthAt_16 : decode cX3_lengthAt 16 = .ok (.goto 4, 3) := by decide +kernel
theorem dX3_lengthAt_19 : decode cX3_lengthAt 19 = .ok (.iconst 0, 1) := by decide +kernel
theorem dX3_lengthAt_20 : decode cX3_lengthAt 20 = .ok (.ireturn, 1) := by decide +kernel
theorem dX3_usedAt_0 : decode cX3_usedAt 0 = .ok (.iload_n 1, 1) := by decide +kernel
theorem dX3_usedAt_1 : decode cX3_usedAt 1 = .ok (.ifCond .lt 18, 3) := by decide +kernel
theorem dX3_usedAt_4 : decode cX3_usedAt 4 = .ok (.iload_n 1, 1) := by decide +kernel
theorem dX3_usedAt_5 : decode cX3_usedAt 5 = .ok (.bipush 13, 2) := by decide +kernel
theorem dX3_usedAt_7 : decode cX3_usedAt 7 = .ok (.if_icmp .ge 12, 3) := by decide +kernel
theorem dX3_usedAt_10 : decode cX3_usedAt 10 = .ok (.aload_n 0, 1) := by decide +kernel
theorem dX3_usedAt_11 : decode cX3_usedAt 11 = .ok (.getfield 15, 3) := by decide +kernel
theorem dX3_usedAt_14 : decode cX3_usedAt 14 = .ok (.iload_n 1, 1) := by decide +kernel
theorem dX3_usedAt_15 : decode cX3_usedAt 15 = .ok (.iaload, 1) := by decide +kernel
theorem dX3_usedAt_16 : decode cX3_usedAt 16 = .ok (.goto 4, 3) := by decide +kernel
theorem dX3_usedAt_19 : decode cX3_usedAt 19 = .ok (.iconst 0, 1) := by decide +kernel
theorem dX3_usedAt_20 : decode cX3_usedAt 20 = .ok (.ireturn, 1) := by decide +kernel
theorem dX3_freeAt_0 : decode cX3_freeAt 0 = .ok (.aload_n 0, 1) := by decide +kernel
theorem dX3_freeAt_1 : decode cX3_freeAt 1 = .ok (.iload_n 1, 1) := by decide +kernel
theorem dX3_freeAt_2 : decode cX3_freeAt 2 = .ok (.invokevirtual 47, 3) := by decide +kernel
theorem dX3_freeAt_5 : decode cX3_freeAt 5 = .ok (.aload_n 0, 1) := by decide +kernel
theorem dX3_freeAt_6 : decode cX3_freeAt 6 = .ok (.iload_n 1, 1) := by decide +kernel
theorem dX3_freeAt_7 : decode cX3_freeAt 7 = .ok (.invokevirtual 51, 3) := by decide +kernel
theorem dX3_freeAt_10 : decode cX3_freeAt 10 = .ok (.isub, 1) := by decide +kernel
theorem dX3_freeAt_11 : decode cX3_freeAt 11 = .ok (.ireturn, 1) := by decide +kernel
theorem dX3_countAt_0 : decode cX3_countAt 0 = .ok (.iload_n 1, 1) := by decide +kernel
theorem dX3_countAt_1 : decode cX3_countAt 1 = .ok (.ifCond .lt 18, 3) := by decide +kernel
theorem dX3_countAt_4 : decode cX3_countAt 4 = .ok (.iload_n 1, 1) := by decide +kernel
theorem dX3_countAt_5 : decode cX3_countAt 5 = .ok (.bipush 13, 2) := by decide +kernel
theorem dX3_countAt_7 : decode cX3_countAt 7 = .ok (.if_icmp .ge 12, 3) := by decide +kernel
theorem dX3_countAt_10 : decode cX3_countAt 10 = .ok (.aload_n 0, 1) := by decide +kernel
theorem dX3_countAt_11 : decode cX3_countAt 11 = .ok (.getfield 18, 3) := by decide +kernel
theorem dX3_countAt_14 : decode cX3_countAt 14 = .ok (.iload_n 1, 1) := by decide +kernel
theorem dX3_countAt_15 : decode cX3_countAt 15 = .ok (.iaload, 1) := by decide +kernel
theorem dX3_countAt_16 : decode cX3_countAt 16 = .ok (.goto 4, 3) := by decide +kernel
theorem dX3_countAt_19 : decode cX3_countAt 19 = .ok (.iconst 0, 1) := by decide +kernel
theorem dX3_countAt_20 : decode cX3_countAt 20 = .ok (.ireturn, 1) := by decide +kernel
theorem dX3_locomotiveAt_0 : decode cX3_locomotiveAt 0 = .ok (.iload_n 1, 1) := by decide +kernel
theorem dX3_locomotiveAt_1 : decode cX3_locomotiveAt 1 = .ok (.ifCond .lt 29, 3) := by decide +kernel
theorem dX3_locomotiveAt_4 : decode cX3_locomotiveAt 4 = .ok (.iload_n 1, 1) := by decide +kernel
theorem dX3_locomotiveAt_5 : decode cX3_locomotiveAt 5 = .ok (.bipush 13, 2) := by decide +kernel
theorem dX3_locomotiveAt_7 : decode cX3_locomotiveAt 7 = .ok (.if_icmp .ge 23, 3) := by decide +kernel
theorem dX3_locomotiveAt_10 : decode cX3_locomotiveAt 10 = .ok (.iload_n 2, 1) := by decide +kernel
theorem dX3_locomotiveAt_11 : decode cX3_locomotiveAt 11 = .ok (.ifCond .lt 19, 3) := by decide +kernel
theorem dX3_locomotiveAt_14 : decode cX3_locomotiveAt 14 = .ok (.iload_n 2, 1) := by decide +kernel
theorem dX3_locomotiveAt_15 : decode cX3_locomotiveAt 15 = .ok (.aload_n 0, 1) := by decide +kernel
theorem dX3_locomotiveAt_16 : decode cX3_locomotiveAt 16 = .ok (.getfield 18, 3) := by decide +kernel
theorem dX3_locomotiveAt_19 : decode cX3_locomotiveAt 19 = .ok (.iload_n 1, 1) := by decide +kernel
theorem dX3_locomotiveAt_20 : decode cX3_locomotiveAt 20 = .ok (.iaload, 1) := by decide +kernel
theorem dX3_locomotiveAt_21 : decode cX3_locomotiveAt 21 = .ok (.if_icmp .ge 9, 3) := by decide +kernel
theorem dX3_locomotiveAt_24 : decode cX3_locomotiveAt 24 = .ok (.iload_n 2, 1) := by decide +kernel
theorem dX3_locomotiveAt_25 : decode cX3_locomotiveAt 25 = .ok (.bipush 8, 2) := by decide +kernel
theorem dX3_locomotiveAt_27 : decode cX3_locomotiveAt 27 = .ok (.if_icmp .lt 6, 3) := by decide +kernel
theorem dX3_locomotiveAt_30 : decode cX3_locomotiveAt 30 = .ok (.bipush (-11), 2) := by decide +kernel
theorem dX3_locomotiveAt_32 : decode cX3_locomotiveAt 32 = .ok (.ireturn, 1) := by decide +kernel
theorem dX3_locomotiveAt_33 : decode cX3_locomotiveAt 33 = .ok (.aload_n 0, 1) := by decide +kernel
theorem dX3_locomotiveAt_34 : decode cX3_locomotiveAt 34 = .ok (.getfield 21, 3) := by decide +kernel
theorem dX3_locomotiveAt_37 : decode cX3_locomotiveAt 37 = .ok (.iload_n 1, 1) := by decide +kernel
theorem dX3_locomotiveAt_38 : decode cX3_locomotiveAt 38 = .ok (.bipush 8, 2) := by decide +kernel
theorem dX3_locomotiveAt_40 : decode cX3_locomotiveAt 40 = .ok (.imul, 1) := by decide +kernel
theorem dX3_locomotiveAt_41 : decode cX3_locomotiveAt 41 = .ok (.iload_n 2, 1) := by decide +kernel
theorem dX3_locomotiveAt_42 : decode cX3_locomotiveAt 42 = .ok (.iadd, 1) := by decide +kernel
theorem dX3_locomotiveAt_43 : decode cX3_locomotiveAt 43 = .ok (.iaload, 1) := by decide +kernel
theorem dX3_locomotiveAt_44 : decode cX3_locomotiveAt 44 = .ok (.ireturn, 1) := by decide +kernel
theorem dX3_indexIn_0 : decode cX3_indexIn 0 = .ok (.aload_n 0, 1) := by decide +kernel
theorem dX3_indexIn_1 : decode cX3_indexIn 1 = .ok (.iload_n 1, 1) := by decide +kernel
theorem dX3_indexIn_2 : decode cX3_indexIn 2 = .ok (.invokevirtual 58, 3) := by decide +kernel
theorem dX3_indexIn_5 : decode cX3_indexIn 5 = .ok (.istore_n 3, 1) := by decide +kernel
theorem dX3_indexIn_6 : decode cX3_indexIn 6 = .ok (.iconst 0, 1) := by decide +kernel
theorem dX3_indexIn_7 : decode cX3_indexIn 7 = .ok (.istore 4, 2) := by decide +kernel
theorem dX3_indexIn_9 : decode cX3_indexIn 9 = .ok (.iload 4, 2) := by decide +kernel
theorem dX3_indexIn_11 : decode cX3_indexIn 11 = .ok (.iload_n 3, 1) := by decide +kernel
theorem dX3_indexIn_12 : decode cX3_indexIn 12 = .ok (.if_icmp .ge 23, 3) := by decide +kernel
theorem dX3_indexIn_15 : decode cX3_indexIn 15 = .ok (.aload_n 0, 1) := by decide +kernel
theorem dX3_indexIn_16 : decode cX3_indexIn 16 = .ok (.iload_n 1, 1) := by decide +kernel
theorem dX3_indexIn_17 : decode cX3_indexIn 17 = .ok (.iload 4, 2) := by decide +kernel
theorem dX3_indexIn_19 : decode cX3_indexIn 19 = .ok (.invokevirtual 61, 3) := by decide +kernel
theorem dX3_indexIn_22 : decode cX3_indexIn 22 = .ok (.iload_n 2, 1) := by decide +kernel
theorem dX3_indexIn_23 : decode cX3_indexIn 23 = .ok (.if_icmp .ne 6, 3) := by decide +kernel
theorem dX3_indexIn_26 : decode cX3_indexIn 26 = .ok (.iload 4, 2) := by decide +kernel
theorem dX3_indexIn_28 : decode cX3_indexIn 28 = .ok (.ireturn, 1) := by decide +kernel
theorem dX3_indexIn_29 : decode cX3_indexIn 29 = .ok (.iinc 4 1, 3) := by decide +kernel
theorem dX3_indexIn_32 : decode cX3_indexIn 32 = .ok (.goto (-23), 3) := by decide +kernel
theorem dX3_indexIn_35 : decode cX3_indexIn 35 = .ok (.bipush (-11), 2) := by decide +kernel
theorem dX3_indexIn_37 : decode cX3_indexIn 37 = .ok (.ireturn, 1) := by decide +kernel
theorem dX3_placeOf_0 : decode cX3_placeOf 0 = .ok (.iconst 0, 1) := by decide +kernel
theorem dX3_placeOf_1 : decode cX3_placeOf 1 = .ok (.istore_n 2, 1) := by decide +kernel
theorem dX3_placeOf_2 : decode cX3_placeOf 2 = .ok (.iload_n 2, 1) := by decide +kernel
theorem dX3_placeOf_3 : decode cX3_placeOf 3 = .ok (.bipush 13, 2) := by decide +kernel
theorem dX3_placeOf_5 : decode cX3_placeOf 5 = .ok (.if_icmp .ge 22, 3) := by decide +kernel
theorem dX3_placeOf_8 : decode cX3_placeOf 8 = .ok (.aload_n 0, 1) := by decide +kernel
theorem dX3_placeOf_9 : decode cX3_placeOf 9 = .ok (.iload_n 2, 1) := by decide +kernel
theorem dX3_placeOf_10 : decode cX3_placeOf 10 = .ok (.iload_n 1, 1) := by decide +kernel
theorem dX3_placeOf_11 : decode cX3_placeOf 11 = .ok (.invokevirtual 54, 3) := by decide +kernel
theorem dX3_placeOf_14 : decode cX3_placeOf 14 = .ok (.bipush (-11), 2) := by decide +kernel
theorem dX3_placeOf_16 : decode cX3_placeOf 16 = .ok (.if_icmp .eq 5, 3) := by decide +kernel
theorem dX3_placeOf_19 : decode cX3_placeOf 19 = .ok (.iload_n 2, 1) := by decide +kernel
theorem dX3_placeOf_20 : decode cX3_placeOf 20 = .ok (.ireturn, 1) := by decide +kernel
theorem dX3_placeOf_21 : decode cX3_placeOf 21 = .ok (.iinc 2 1, 3) := by decide +kernel
theorem dX3_placeOf_24 : decode cX3_placeOf 24 = .ok (.goto (-22), 3) := by decide +kernel
theorem dX3_placeOf_27 : decode cX3_placeOf 27 = .ok (.bipush (-11), 2) := by decide +kernel
theorem dX3_placeOf_29 : decode cX3_placeOf 29 = .ok (.ireturn, 1) := by decide +kernel
theorem dX3_trackCount_0 : decode cX3_trackCount 0 = .ok (.iconst 0, 1) := by decide +kernel
theorem dX3_trackCount_1 : decode cX3_trackCount 1 = .ok (.istore_n 1, 1) := by decide +kernel
theorem dX3_trackCount_2 : decode cX3_trackCount 2 = .ok (.iconst 0, 1) := by decide +kernel
theorem dX3_trackCount_3 : decode cX3_trackCount 3 = .ok (.istore_n 2, 1) := by decide +kernel
theorem dX3_trackCount_4 : decode cX3_trackCount 4 = .ok (.iload_n 2, 1) := by decide +kernel
theorem dX3_trackCount_5 : decode cX3_trackCount 5 = .ok (.bipush 12, 2) := by decide +kernel
theorem dX3_trackCount_7 : decode cX3_trackCount 7 = .ok (.if_icmp .ge 21, 3) := by decide +kernel
theorem dX3_trackCount_10 : decode cX3_trackCount 10 = .ok (.aload_n 0, 1) := by decide +kernel
theorem dX3_trackCount_11 : decode cX3_trackCount 11 = .ok (.getfield 9, 3) := by decide +kernel
theorem dX3_trackCount_14 : decode cX3_trackCount 14 = .ok (.iload_n 2, 1) := by decide +kernel
theorem dX3_trackCount_15 : decode cX3_trackCount 15 = .ok (.iaload, 1) := by decide +kernel
theorem dX3_trackCount_16 : decode cX3_trackCount 16 = .ok (.ifCond .le 6, 3) := by decide +kernel
theorem dX3_trackCount_19 : decode cX3_trackCount 19 = .ok (.iinc 1 1, 3) := by decide +kernel
theorem dX3_trackCount_22 : decode cX3_trackCount 22 = .ok (.iinc 2 1, 3) := by decide +kernel
theorem dX3_trackCount_25 : decode cX3_trackCount 25 = .ok (.goto (-21), 3) := by decide +kernel
theorem dX3_trackCount_28 : decode cX3_trackCount 28 = .ok (.iload_n 1, 1) := by decide +kernel
theorem dX3_trackCount_29 : decode cX3_trackCount 29 = .ok (.ireturn, 1) := by decide +kernel
theorem dX3_positionAt_0 : decode cX3_positionAt 0 = .ok (.iload_n 1, 1) := by decide +kernel
theorem dX3_positionAt_1 : decode cX3_positionAt 1 = .ok (.ifCond .ne 10, 3) := by decide +kernel
theorem dX3_positionAt_4 : decode cX3_positionAt 4 = .ok (.aload_n 0, 1) := by decide +kernel
theorem dX3_positionAt_5 : decode cX3_positionAt 5 = .ok (.getfield 40, 3) := by decide +kernel
theorem dX3_positionAt_8 : decode cX3_positionAt 8 = .ok (.goto 13, 3) := by decide +kernel
theorem dX3_positionAt_11 : decode cX3_positionAt 11 = .ok (.aload_n 0, 1) := by decide +kernel
theorem dX3_positionAt_12 : decode cX3_positionAt 12 = .ok (.getfield 40, 3) := by decide +kernel
theorem dX3_positionAt_15 : decode cX3_positionAt 15 = .ok (.bipush 6, 2) := by decide +kernel
theorem dX3_positionAt_17 : decode cX3_positionAt 17 = .ok (.iadd, 1) := by decide +kernel
theorem dX3_positionAt_18 : decode cX3_positionAt 18 = .ok (.bipush 12, 2) := by decide +kernel
theorem dX3_positionAt_20 : decode cX3_positionAt 20 = .ok (.irem, 1) := by decide +kernel
theorem dX3_positionAt_21 : decode cX3_positionAt 21 = .ok (.ireturn, 1) := by decide +kernel
theorem dX3_setLength_0 : decode cX3_setLength 0 = .ok (.iload_n 1, 1) := by decide +kernel
theorem dX3_setLength_1 : decode cX3_setLength 1 = .ok (.ifCond .lt 16, 3) := by decide +kernel
theorem dX3_setLength_4 : decode cX3_setLength 4 = .ok (.iload_n 1, 1) := by decide +kernel
theorem dX3_setLength_5 : decode cX3_setLength 5 = .ok (.bipush 13, 2) := by decide +kernel
theorem dX3_setLength_7 : decode cX3_setLength 7 = .ok (.if_icmp .ge 10, 3) := by decide +kernel
theorem dX3_setLength_10 : decode cX3_setLength 10 = .ok (.aload_n 0, 1) := by decide +kernel
theorem dX3_setLength_11 : decode cX3_setLength 11 = .ok (.getfield 9, 3) := by decide +kernel
theorem dX3_setLength_14 : decode cX3_setLength 14 = .ok (.iload_n 1, 1) := by decide +kernel
theorem dX3_setLength_15 : decode cX3_setLength 15 = .ok (.iload_n 2, 1) := by decide +kernel
theorem dX3_setLength_16 : decode cX3_setLength 16 = .ok (.iastore, 1) := by decide +kernel
theorem dX3_setLength_17 : decode cX3_setLength 17 = .ok (.return_, 1) := by decide +kernel
theorem dX3_markDead_0 : decode cX3_markDead 0 = .ok (.aload_n 0, 1) := by decide +kernel
theorem dX3_markDead_1 : decode cX3_markDead 1 = .ok (.iload_n 1, 1) := by decide +kernel
theorem dX3_markDead_2 : decode cX3_markDead 2 = .ok (.invokevirtual 43, 3) := by decide +kernel
theorem dX3_markDead_5 : decode cX3_markDead 5 = .ok (.ifCond .eq 32, 3) := by decide +kernel
theorem dX3_markDead_8 : decode cX3_markDead 8 = .ok (.iconst 1, 1) := by decide +kernel
theorem dX3_markDead_9 : decode cX3_markDead 9 = .ok (.iload_n 1, 1) := by decide +kernel
theorem dX3_markDead_10 : decode cX3_markDead 10 = .ok (.ishl, 1) := by decide +kernel
theorem dX3_markDead_11 : decode cX3_markDead 11 = .ok (.istore_n 3, 1) := by decide +kernel
theorem dX3_markDead_12 : decode cX3_markDead 12 = .ok (.aload_n 0, 1) := by decide +kernel
theorem dX3_markDead_13 : decode cX3_markDead 13 = .ok (.iload_n 2, 1) := by decide +kernel
theorem dX3_markDead_14 : decode cX3_markDead 14 = .ok (.ifCond .eq 12, 3) := by decide +kernel
theorem dX3_markDead_17 : decode cX3_markDead 17 = .ok (.aload_n 0, 1) := by decide +kernel
theorem dX3_markDead_18 : decode cX3_markDead 18 = .ok (.getfield 37, 3) := by decide +kernel
theorem dX3_markDead_21 : decode cX3_markDead 21 = .ok (.iload_n 3, 1) := by decide +kernel
theorem dX3_markDead_22 : decode cX3_markDead 22 = .ok (.ior, 1) := by decide +kernel
theorem dX3_markDead_23 : decode cX3_markDead 23 = .ok (.goto 11, 3) := by decide +kernel
theorem dX3_markDead_26 : decode cX3_markDead 26 = .ok (.aload_n 0, 1) := by decide +kernel
theorem dX3_markDead_27 : decode cX3_markDead 27 = .ok (.getfield 37, 3) := by decide +kernel
theorem dX3_markDead_30 : decode cX3_markDead 30 = .ok (.iload_n 3, 1) := by decide +kernel
theorem dX3_markDead_31 : decode cX3_markDead 31 = .ok (.iconst (-1), 1) := by decide +kernel
theorem dX3_markDead_32 : decode cX3_markDead 32 = .ok (.ixor, 1) := by decide +kernel
theorem dX3_markDead_33 : decode cX3_markDead 33 = .ok (.iand, 1) := by decide +kernel
theorem dX3_markDead_34 : decode cX3_markDead 34 = .ok (.putfield 37, 3) := by decide +kernel
theorem dX3_markDead_37 : decode cX3_markDead 37 = .ok (.return_, 1) := by decide +kernel
theorem dX3_putIn_0 : decode cX3_putIn 0 = .ok (.aload_n 0, 1) := by decide +kernel
theorem dX3_putIn_1 : decode cX3_putIn 1 = .ok (.iload_n 1, 1) := by decide +kernel
theorem dX3_putIn_2 : decode cX3_putIn 2 = .ok (.invokevirtual 58, 3) := by decide +kernel
theorem dX3_putIn_5 : decode cX3_putIn 5 = .ok (.istore 4, 2) := by decide +kernel
theorem dX3_putIn_7 : decode cX3_putIn 7 = .ok (.iload_n 1, 1) := by decide +kernel
theorem dX3_putIn_8 : decode cX3_putIn 8 = .ok (.ifCond .lt 26, 3) := by decide +kernel
theorem dX3_putIn_11 : decode cX3_putIn 11 = .ok (.iload_n 1, 1) := by decide +kernel
theorem dX3_putIn_12 : decode cX3_putIn 12 = .ok (.bipush 13, 2) := by decide +kernel
theorem dX3_putIn_14 : decode cX3_putIn 14 = .ok (.if_icmp .ge 20, 3) := by decide +kernel
theorem dX3_putIn_17 : decode cX3_putIn 17 = .ok (.iload_n 2, 1) := by decide +kernel
theorem dX3_putIn_18 : decode cX3_putIn 18 = .ok (.ifCond .lt 16, 3) := by decide +kernel
theorem dX3_putIn_21 : decode cX3_putIn 21 = .ok (.iload_n 2, 1) := by decide +kernel
theorem dX3_putIn_22 : decode cX3_putIn 22 = .ok (.iload 4, 2) := by decide +kernel
theorem dX3_putIn_24 : decode cX3_putIn 24 = .ok (.if_icmp .gt 10, 3) := by decide +kernel
theorem dX3_putIn_27 : decode cX3_putIn 27 = .ok (.iload 4, 2) := by decide +kernel
theorem dX3_putIn_29 : decode cX3_putIn 29 = .ok (.bipush 8, 2) := by decide +kernel
theorem dX3_putIn_31 : decode cX3_putIn 31 = .ok (.if_icmp .lt 4, 3) := by decide +kernel
theorem dX3_putIn_34 : decode cX3_putIn 34 = .ok (.return_, 1) := by decide +kernel
theorem dX3_putIn_35 : decode cX3_putIn 35 = .ok (.iload_n 1, 1) := by decide +kernel
theorem dX3_putIn_36 : decode cX3_putIn 36 = .ok (.bipush 8, 2) := by decide +kernel
theorem dX3_putIn_38 : decode cX3_putIn 38 = .ok (.imul, 1) := by decide +kernel
theorem dX3_putIn_39 : decode cX3_putIn 39 = .ok (.istore 5, 2) := by decide +kernel
theorem dX3_putIn_41 : decode cX3_putIn 41 = .ok (.iload 4, 2) := by decide +kernel
theorem dX3_putIn_43 : decode cX3_putIn 43 = .ok (.istore 6, 2) := by decide +kernel
theorem dX3_putIn_45 : decode cX3_putIn 45 = .ok (.iload 6, 2) := by decide +kernel
theorem dX3_putIn_47 : decode cX3_putIn 47 = .ok (.iload_n 2, 1) := by decide +kernel
theorem dX3_putIn_48 : decode cX3_putIn 48 = .ok (.if_icmp .le 31, 3) := by decide +kernel
theorem dX3_putIn_51 : decode cX3_putIn 51 = .ok (.aload_n 0, 1) := by decide +kernel
theorem dX3_putIn_52 : decode cX3_putIn 52 = .ok (.getfield 21, 3) := by decide +kernel
theorem dX3_putIn_55 : decode cX3_putIn 55 = .ok (.iload 5, 2) := by decide +kernel
theorem dX3_putIn_57 : decode cX3_putIn 57 = .ok (.iload 6, 2) := by decide +kernel
theorem dX3_putIn_59 : decode cX3_putIn 59 = .ok (.iadd, 1) := by decide +kernel
theorem dX3_putIn_60 : decode cX3_putIn 60 = .ok (.aload_n 0, 1) := by decide +kernel
theorem dX3_putIn_61 : decode cX3_putIn 61 = .ok (.getfield 21, 3) := by decide +kernel
theorem dX3_putIn_64 : decode cX3_putIn 64 = .ok (.iload 5, 2) := by decide +kernel
theorem dX3_putIn_66 : decode cX3_putIn 66 = .ok (.iload 6, 2) := by decide +kernel
theorem dX3_putIn_68 : decode cX3_putIn 68 = .ok (.iadd, 1) := by decide +kernel
theorem dX3_putIn_69 : decode cX3_putIn 69 = .ok (.iconst 1, 1) := by decide +kernel
theorem dX3_putIn_70 : decode cX3_putIn 70 = .ok (.isub, 1) := by decide +kernel
theorem dX3_putIn_71 : decode cX3_putIn 71 = .ok (.iaload, 1) := by decide +kernel
theorem dX3_putIn_72 : decode cX3_putIn 72 = .ok (.iastore, 1) := by decide +kernel
theorem dX3_putIn_73 : decode cX3_putIn 73 = .ok (.iinc 6 (-1), 3) := by decide +kernel
theorem dX3_putIn_76 : decode cX3_putIn 76 = .ok (.goto (-31), 3) := by decide +kernel
theorem dX3_putIn_79 : decode cX3_putIn 79 = .ok (.aload_n 0, 1) := by decide +kernel
theorem dX3_putIn_80 : decode cX3_putIn 80 = .ok (.getfield 21, 3) := by decide +kernel
theorem dX3_putIn_83 : decode cX3_putIn 83 = .ok (.iload 5, 2) := by decide +kernel
theorem dX3_putIn_85 : decode cX3_putIn 85 = .ok (.iload_n 2, 1) := by decide +kernel
theorem dX3_putIn_86 : decode cX3_putIn 86 = .ok (.iadd, 1) := by decide +kernel
theorem dX3_putIn_87 : decode cX3_putIn 87 = .ok (.iload_n 3, 1) := by decide +kernel
theorem dX3_putIn_88 : decode cX3_putIn 88 = .ok (.iastore, 1) := by decide +kernel
theorem dX3_putIn_89 : decode cX3_putIn 89 = .ok (.aload_n 0, 1) := by decide +kernel
theorem dX3_putIn_90 : decode cX3_putIn 90 = .ok (.getfield 18, 3) := by decide +kernel
theorem dX3_putIn_93 : decode cX3_putIn 93 = .ok (.iload_n 1, 1) := by decide +kernel
theorem dX3_putIn_94 : decode cX3_putIn 94 = .ok (.dup2, 1) := by decide +kernel
theorem dX3_putIn_95 : decode cX3_putIn 95 = .ok (.iaload, 1) := by decide +kernel
theorem dX3_putIn_96 : decode cX3_putIn 96 = .ok (.iconst 1, 1) := by decide +kernel
theorem dX3_putIn_97 : decode cX3_putIn 97 = .ok (.iadd, 1) := by decide +kernel
theorem dX3_putIn_98 : decode cX3_putIn 98 = .ok (.iastore, 1) := by decide +kernel
theorem dX3_putIn_99 : decode cX3_putIn 99 = .ok (.aload_n 0, 1) := by decide +kernel
theorem dX3_putIn_100 : decode cX3_putIn 100 = .ok (.getfield 15, 3) := by decide +kernel
theorem dX3_putIn_103 : decode cX3_putIn 103 = .ok (.iload_n 1, 1) := by decide +kernel
theorem dX3_putIn_104 : decode cX3_putIn 104 = .ok (.dup2, 1) := by decide +kernel
theorem dX3_putIn_105 : decode cX3_putIn 105 = .ok (.iaload, 1) := by decide +kernel
theorem dX3_putIn_106 : decode cX3_putIn 106 = .ok (.aload_n 0, 1) := by decide +kernel
theorem dX3_putIn_107 : decode cX3_putIn 107 = .ok (.iload_n 3, 1) := by decide +kernel
theorem dX3_putIn_108 : decode cX3_putIn 108 = .ok (.invokevirtual 78, 3) := by decide +kernel
theorem dX3_putIn_111 : decode cX3_putIn 111 = .ok (.iadd, 1) := by decide +kernel
theorem dX3_putIn_112 : decode cX3_putIn 112 = .ok (.iastore, 1) := by decide +kernel
theorem dX3_putIn_113 : decode cX3_putIn 113 = .ok (.return_, 1) := by decide +kernel
theorem dX3_addFirst_0 : decode cX3_addFirst 0 = .ok (.aload_n 0, 1) := by decide +kernel
theorem dX3_addFirst_1 : decode cX3_addFirst 1 = .ok (.getfield 33, 3) := by decide +kernel
theorem dX3_addFirst_4 : decode cX3_addFirst 4 = .ok (.istore_n 3, 1) := by decide +kernel
theorem dX3_addFirst_5 : decode cX3_addFirst 5 = .ok (.iload_n 3, 1) := by decide +kernel
theorem dX3_addFirst_6 : decode cX3_addFirst 6 = .ok (.ifCond .lt 9, 3) := by decide +kernel
theorem dX3_addFirst_9 : decode cX3_addFirst 9 = .ok (.iload_n 3, 1) := by decide +kernel
theorem dX3_addFirst_10 : decode cX3_addFirst 10 = .ok (.bipush 8, 2) := by decide +kernel
theorem dX3_addFirst_12 : decode cX3_addFirst 12 = .ok (.if_icmp .lt 6, 3) := by decide +kernel
theorem dX3_addFirst_15 : decode cX3_addFirst 15 = .ok (.bipush (-9), 2) := by decide +kernel
theorem dX3_addFirst_17 : decode cX3_addFirst 17 = .ok (.ireturn, 1) := by decide +kernel
theorem dX3_addFirst_18 : decode cX3_addFirst 18 = .ok (.aload_n 0, 1) := by decide +kernel
theorem dX3_addFirst_19 : decode cX3_addFirst 19 = .ok (.getfield 24, 3) := by decide +kernel
theorem dX3_addFirst_22 : decode cX3_addFirst 22 = .ok (.iload_n 3, 1) := by decide +kernel
theorem dX3_addFirst_23 : decode cX3_addFirst 23 = .ok (.iload_n 1, 1) := by decide +kernel
theorem dX3_addFirst_24 : decode cX3_addFirst 24 = .ok (.iastore, 1) := by decide +kernel
theorem dX3_addFirst_25 : decode cX3_addFirst 25 = .ok (.aload_n 0, 1) := by decide +kernel
theorem dX3_addFirst_26 : decode cX3_addFirst 26 = .ok (.dup, 1) := by decide +kernel
theorem dX3_addFirst_27 : decode cX3_addFirst 27 = .ok (.getfield 33, 3) := by decide +kernel
theorem dX3_addFirst_30 : decode cX3_addFirst 30 = .ok (.iconst 1, 1) := by decide +kernel
theorem dX3_addFirst_31 : decode cX3_addFirst 31 = .ok (.iadd, 1) := by decide +kernel
theorem dX3_addFirst_32 : decode cX3_addFirst 32 = .ok (.putfield 33, 3) := by decide +kernel
theorem dX3_addFirst_35 : decode cX3_addFirst 35 = .ok (.aload_n 0, 1) := by decide +kernel
theorem dX3_addFirst_36 : decode cX3_addFirst 36 = .ok (.iload_n 3, 1) := by decide +kernel
theorem dX3_addFirst_37 : decode cX3_addFirst 37 = .ok (.iconst 0, 1) := by decide +kernel
theorem dX3_addFirst_38 : decode cX3_addFirst 38 = .ok (.invokevirtual 64, 3) := by decide +kernel
theorem dX3_addFirst_41 : decode cX3_addFirst 41 = .ok (.aload_n 0, 1) := by decide +kernel
theorem dX3_addFirst_42 : decode cX3_addFirst 42 = .ok (.iload_n 2, 1) := by decide +kernel
theorem dX3_addFirst_43 : decode cX3_addFirst 43 = .ok (.iconst 0, 1) := by decide +kernel
theorem dX3_addFirst_44 : decode cX3_addFirst 44 = .ok (.iload_n 3, 1) := by decide +kernel
theorem dX3_addFirst_45 : decode cX3_addFirst 45 = .ok (.invokevirtual 68, 3) := by decide +kernel
theorem dX3_addFirst_48 : decode cX3_addFirst 48 = .ok (.iload_n 3, 1) := by decide +kernel
theorem dX3_addFirst_49 : decode cX3_addFirst 49 = .ok (.ireturn, 1) := by decide +kernel
theorem dX3_takeOut_0 : decode cX3_takeOut 0 = .ok (.aload_n 0, 1) := by decide +kernel
theorem dX3_takeOut_1 : decode cX3_takeOut 1 = .ok (.iload_n 1, 1) := by decide +kernel
theorem dX3_takeOut_2 : decode cX3_takeOut 2 = .ok (.iload_n 2, 1) := by decide +kernel
theorem dX3_takeOut_3 : decode cX3_takeOut 3 = .ok (.invokevirtual 61, 3) := by decide +kernel
theorem dX3_takeOut_6 : decode cX3_takeOut 6 = .ok (.istore_n 3, 1) := by decide +kernel
theorem dX3_takeOut_7 : decode cX3_takeOut 7 = .ok (.iload_n 3, 1) := by decide +kernel
theorem dX3_takeOut_8 : decode cX3_takeOut 8 = .ok (.bipush (-11), 2) := by decide +kernel
theorem dX3_takeOut_10 : decode cX3_takeOut 10 = .ok (.if_icmp .ne 6, 3) := by decide +kernel
theorem dX3_takeOut_13 : decode cX3_takeOut 13 = .ok (.bipush (-11), 2) := by decide +kernel
theorem dX3_takeOut_15 : decode cX3_takeOut 15 = .ok (.ireturn, 1) := by decide +kernel
theorem dX3_takeOut_16 : decode cX3_takeOut 16 = .ok (.iload_n 1, 1) := by decide +kernel
theorem dX3_takeOut_17 : decode cX3_takeOut 17 = .ok (.bipush 8, 2) := by decide +kernel
theorem dX3_takeOut_19 : decode cX3_takeOut 19 = .ok (.imul, 1) := by decide +kernel
theorem dX3_takeOut_20 : decode cX3_takeOut 20 = .ok (.istore 4, 2) := by decide +kernel
theorem dX3_takeOut_22 : decode cX3_takeOut 22 = .ok (.iload_n 2, 1) := by decide +kernel
theorem dX3_takeOut_23 : decode cX3_takeOut 23 = .ok (.iconst 1, 1) := by decide +kernel
theorem dX3_takeOut_24 : decode cX3_takeOut 24 = .ok (.iadd, 1) := by decide +kernel
theorem dX3_takeOut_25 : decode cX3_takeOut 25 = .ok (.istore 5, 2) := by decide +kernel
theorem dX3_takeOut_27 : decode cX3_takeOut 27 = .ok (.iload 5, 2) := by decide +kernel
theorem dX3_takeOut_29 : decode cX3_takeOut 29 = .ok (.aload_n 0, 1) := by decide +kernel
theorem dX3_takeOut_30 : decode cX3_takeOut 30 = .ok (.getfield 18, 3) := by decide +kernel
theorem dX3_takeOut_33 : decode cX3_takeOut 33 = .ok (.iload_n 1, 1) := by decide +kernel
theorem dX3_takeOut_34 : decode cX3_takeOut 34 = .ok (.iaload, 1) := by decide +kernel
theorem dX3_takeOut_35 : decode cX3_takeOut 35 = .ok (.if_icmp .ge 38, 3) := by decide +kernel
theorem dX3_takeOut_38 : decode cX3_takeOut 38 = .ok (.iload 5, 2) := by decide +kernel
theorem dX3_takeOut_40 : decode cX3_takeOut 40 = .ok (.bipush 8, 2) := by decide +kernel
theorem dX3_takeOut_42 : decode cX3_takeOut 42 = .ok (.if_icmp .ge 31, 3) := by decide +kernel
theorem dX3_takeOut_45 : decode cX3_takeOut 45 = .ok (.aload_n 0, 1) := by decide +kernel
theorem dX3_takeOut_46 : decode cX3_takeOut 46 = .ok (.getfield 21, 3) := by decide +kernel
theorem dX3_takeOut_49 : decode cX3_takeOut 49 = .ok (.iload 4, 2) := by decide +kernel
theorem dX3_takeOut_51 : decode cX3_takeOut 51 = .ok (.iload 5, 2) := by decide +kernel
theorem dX3_takeOut_53 : decode cX3_takeOut 53 = .ok (.iadd, 1) := by decide +kernel
theorem dX3_takeOut_54 : decode cX3_takeOut 54 = .ok (.iconst 1, 1) := by decide +kernel
theorem dX3_takeOut_55 : decode cX3_takeOut 55 = .ok (.isub, 1) := by decide +kernel
theorem dX3_takeOut_56 : decode cX3_takeOut 56 = .ok (.aload_n 0, 1) := by decide +kernel
theorem dX3_takeOut_57 : decode cX3_takeOut 57 = .ok (.getfield 21, 3) := by decide +kernel
theorem dX3_takeOut_60 : decode cX3_takeOut 60 = .ok (.iload 4, 2) := by decide +kernel
theorem dX3_takeOut_62 : decode cX3_takeOut 62 = .ok (.iload 5, 2) := by decide +kernel
theorem dX3_takeOut_64 : decode cX3_takeOut 64 = .ok (.iadd, 1) := by decide +kernel
theorem dX3_takeOut_65 : decode cX3_takeOut 65 = .ok (.iaload, 1) := by decide +kernel
theorem dX3_takeOut_66 : decode cX3_takeOut 66 = .ok (.iastore, 1) := by decide +kernel
theorem dX3_takeOut_67 : decode cX3_takeOut 67 = .ok (.iinc 5 1, 3) := by decide +kernel
theorem dX3_takeOut_70 : decode cX3_takeOut 70 = .ok (.goto (-43), 3) := by decide +kernel
theorem dX3_takeOut_73 : decode cX3_takeOut 73 = .ok (.aload_n 0, 1) := by decide +kernel
theorem dX3_takeOut_74 : decode cX3_takeOut 74 = .ok (.getfield 18, 3) := by decide +kernel
theorem dX3_takeOut_77 : decode cX3_takeOut 77 = .ok (.iload_n 1, 1) := by decide +kernel
theorem dX3_takeOut_78 : decode cX3_takeOut 78 = .ok (.dup2, 1) := by decide +kernel
theorem dX3_takeOut_79 : decode cX3_takeOut 79 = .ok (.iaload, 1) := by decide +kernel
theorem dX3_takeOut_80 : decode cX3_takeOut 80 = .ok (.iconst 1, 1) := by decide +kernel
theorem dX3_takeOut_81 : decode cX3_takeOut 81 = .ok (.isub, 1) := by decide +kernel
theorem dX3_takeOut_82 : decode cX3_takeOut 82 = .ok (.iastore, 1) := by decide +kernel
theorem dX3_takeOut_83 : decode cX3_takeOut 83 = .ok (.aload_n 0, 1) := by decide +kernel
theorem dX3_takeOut_84 : decode cX3_takeOut 84 = .ok (.getfield 15, 3) := by decide +kernel
theorem dX3_takeOut_87 : decode cX3_takeOut 87 = .ok (.iload_n 1, 1) := by decide +kernel
theorem dX3_takeOut_88 : decode cX3_takeOut 88 = .ok (.dup2, 1) := by decide +kernel
theorem dX3_takeOut_89 : decode cX3_takeOut 89 = .ok (.iaload, 1) := by decide +kernel
theorem dX3_takeOut_90 : decode cX3_takeOut 90 = .ok (.aload_n 0, 1) := by decide +kernel
theorem dX3_takeOut_91 : decode cX3_takeOut 91 = .ok (.iload_n 3, 1) := by decide +kernel
theorem dX3_takeOut_92 : decode cX3_takeOut 92 = .ok (.invokevirtual 78, 3) := by decide +kernel
theorem dX3_takeOut_95 : decode cX3_takeOut 95 = .ok (.isub, 1) := by decide +kernel
theorem dX3_takeOut_96 : decode cX3_takeOut 96 = .ok (.iastore, 1) := by decide +kernel
theorem dX3_takeOut_97 : decode cX3_takeOut 97 = .ok (.iload_n 3, 1) := by decide +kernel
theorem dX3_takeOut_98 : decode cX3_takeOut 98 = .ok (.ireturn, 1) := by decide +kernel
theorem dX3_removeNewest_0 : decode cX3_removeNewest 0 = .ok (.aload_n 0, 1) := by decide +kernel
theorem dX3_removeNewest_1 : decode cX3_removeNewest 1 = .ok (.getfield 33, 3) := by decide +kernel
theorem dX3_removeNewest_4 : decode cX3_removeNewest 4 = .ok (.iconst 1, 1) := by decide +kernel
theorem dX3_removeNewest_5 : decode cX3_removeNewest 5 = .ok (.isub, 1) := by decide +kernel
theorem dX3_removeNewest_6 : decode cX3_removeNewest 6 = .ok (.istore_n 1, 1) := by decide +kernel
theorem dX3_removeNewest_7 : decode cX3_removeNewest 7 = .ok (.aload_n 0, 1) := by decide +kernel
theorem dX3_removeNewest_8 : decode cX3_removeNewest 8 = .ok (.iload_n 1, 1) := by decide +kernel
theorem dX3_removeNewest_9 : decode cX3_removeNewest 9 = .ok (.invokevirtual 72, 3) := by decide +kernel
theorem dX3_removeNewest_12 : decode cX3_removeNewest 12 = .ok (.istore_n 2, 1) := by decide +kernel
theorem dX3_removeNewest_13 : decode cX3_removeNewest 13 = .ok (.aload_n 0, 1) := by decide +kernel
theorem dX3_removeNewest_14 : decode cX3_removeNewest 14 = .ok (.iload_n 2, 1) := by decide +kernel
theorem dX3_removeNewest_15 : decode cX3_removeNewest 15 = .ok (.aload_n 0, 1) := by decide +kernel
theorem dX3_removeNewest_16 : decode cX3_removeNewest 16 = .ok (.iload_n 2, 1) := by decide +kernel
theorem dX3_removeNewest_17 : decode cX3_removeNewest 17 = .ok (.iload_n 1, 1) := by decide +kernel
theorem dX3_removeNewest_18 : decode cX3_removeNewest 18 = .ok (.invokevirtual 54, 3) := by decide +kernel
theorem dX3_removeNewest_21 : decode cX3_removeNewest 21 = .ok (.invokevirtual 75, 3) := by decide +kernel
theorem dX3_removeNewest_24 : decode cX3_removeNewest 24 = .ok (.pop, 1) := by decide +kernel
theorem dX3_removeNewest_25 : decode cX3_removeNewest 25 = .ok (.aload_n 0, 1) := by decide +kernel
theorem dX3_removeNewest_26 : decode cX3_removeNewest 26 = .ok (.iload_n 1, 1) := by decide +kernel
theorem dX3_removeNewest_27 : decode cX3_removeNewest 27 = .ok (.putfield 33, 3) := by decide +kernel
theorem dX3_removeNewest_30 : decode cX3_removeNewest 30 = .ok (.iload_n 1, 1) := by decide +kernel
theorem dX3_removeNewest_31 : decode cX3_removeNewest 31 = .ok (.ireturn, 1) := by decide +kernel
theorem dX3_emptyRows_0 : decode cX3_emptyRows 0 = .ok (.aload_n 0, 1) := by decide +kernel
theorem dX3_emptyRows_1 : decode cX3_emptyRows 1 = .ok (.getfield 18, 3) := by decide +kernel
theorem dX3_emptyRows_4 : decode cX3_emptyRows 4 = .ok (.iconst 0, 1) := by decide +kernel
theorem dX3_emptyRows_5 : decode cX3_emptyRows 5 = .ok (.invokestatic 81, 3) := by decide +kernel
theorem dX3_emptyRows_8 : decode cX3_emptyRows 8 = .ok (.aload_n 0, 1) := by decide +kernel
theorem dX3_emptyRows_9 : decode cX3_emptyRows 9 = .ok (.getfield 15, 3) := by decide +kernel
theorem dX3_emptyRows_12 : decode cX3_emptyRows 12 = .ok (.iconst 0, 1) := by decide +kernel
theorem dX3_emptyRows_13 : decode cX3_emptyRows 13 = .ok (.invokestatic 81, 3) := by decide +kernel
theorem dX3_emptyRows_16 : decode cX3_emptyRows 16 = .ok (.return_, 1) := by decide +kernel
theorem dX3_allFit_0 : decode cX3_allFit 0 = .ok (.iconst 0, 1) := by decide +kernel
theorem dX3_allFit_1 : decode cX3_allFit 1 = .ok (.istore_n 1, 1) := by decide +kernel
theorem dX3_allFit_2 : decode cX3_allFit 2 = .ok (.iload_n 1, 1) := by decide +kernel
theorem dX3_allFit_3 : decode cX3_allFit 3 = .ok (.bipush 13, 2) := by decide +kernel
theorem dX3_allFit_5 : decode cX3_allFit 5 = .ok (.if_icmp .ge 26, 3) := by decide +kernel
theorem dX3_allFit_8 : decode cX3_allFit 8 = .ok (.aload_n 0, 1) := by decide +kernel
theorem dX3_allFit_9 : decode cX3_allFit 9 = .ok (.getfield 15, 3) := by decide +kernel
theorem dX3_allFit_12 : decode cX3_allFit 12 = .ok (.iload_n 1, 1) := by decide +kernel
theorem dX3_allFit_13 : decode cX3_allFit 13 = .ok (.iaload, 1) := by decide +kernel
theorem dX3_allFit_14 : decode cX3_allFit 14 = .ok (.aload_n 0, 1) := by decide +kernel
theorem dX3_allFit_15 : decode cX3_allFit 15 = .ok (.getfield 9, 3) := by decide +kernel
theorem dX3_allFit_18 : decode cX3_allFit 18 = .ok (.iload_n 1, 1) := by decide +kernel
theorem dX3_allFit_19 : decode cX3_allFit 19 = .ok (.iaload, 1) := by decide +kernel
theorem dX3_allFit_20 : decode cX3_allFit 20 = .ok (.if_icmp .le 5, 3) := by decide +kernel
theorem dX3_allFit_23 : decode cX3_allFit 23 = .ok (.iconst 0, 1) := by decide +kernel
theorem dX3_allFit_24 : decode cX3_allFit 24 = .ok (.ireturn, 1) := by decide +kernel
theorem dX3_allFit_25 : decode cX3_allFit 25 = .ok (.iinc 1 1, 3) := by decide +kernel
theorem dX3_allFit_28 : decode cX3_allFit 28 = .ok (.goto (-26), 3) := by decide +kernel
theorem dX3_allFit_31 : decode cX3_allFit 31 = .ok (.iconst 1, 1) := by decide +kernel
theorem dX3_allFit_32 : decode cX3_allFit 32 = .ok (.ireturn, 1) := by decide +kernel
theorem dX3_sourceOf_0 : decode cX3_sourceOf 0 = .ok (.iload_n 1, 1) := by decide +kernel
theorem dX3_sourceOf_1 : decode cX3_sourceOf 1 = .ok (.bipush 30, 2) := by decide +kernel
theorem dX3_sourceOf_3 : decode cX3_sourceOf 3 = .ok (.if_icmp .ge 14, 3) := by decide +kernel
theorem dX3_sourceOf_6 : decode cX3_sourceOf 6 = .ok (.aload_n 0, 1) := by decide +kernel
theorem dX3_sourceOf_7 : decode cX3_sourceOf 7 = .ok (.iload_n 1, 1) := by decide +kernel
theorem dX3_sourceOf_8 : decode cX3_sourceOf 8 = .ok (.invokestatic 87, 3) := by decide +kernel
theorem dX3_sourceOf_11 : decode cX3_sourceOf 11 = .ok (.invokevirtual 90, 3) := by decide +kernel
theorem dX3_sourceOf_14 : decode cX3_sourceOf 14 = .ok (.goto 5, 3) := by decide +kernel
theorem dX3_sourceOf_17 : decode cX3_sourceOf 17 = .ok (.bipush 12, 2) := by decide +kernel
theorem dX3_sourceOf_19 : decode cX3_sourceOf 19 = .ok (.ireturn, 1) := by decide +kernel
theorem dX3_targetOf_0 : decode cX3_targetOf 0 = .ok (.iload_n 1, 1) := by decide +kernel
theorem dX3_targetOf_1 : decode cX3_targetOf 1 = .ok (.bipush 30, 2) := by decide +kernel
theorem dX3_targetOf_3 : decode cX3_targetOf 3 = .ok (.if_icmp .ge 8, 3) := by decide +kernel
theorem dX3_targetOf_6 : decode cX3_targetOf 6 = .ok (.bipush 12, 2) := by decide +kernel
theorem dX3_targetOf_8 : decode cX3_targetOf 8 = .ok (.goto 11, 3) := by decide +kernel
theorem dX3_targetOf_11 : decode cX3_targetOf 11 = .ok (.aload_n 0, 1) := by decide +kernel
theorem dX3_targetOf_12 : decode cX3_targetOf 12 = .ok (.iload_n 1, 1) := by decide +kernel
theorem dX3_targetOf_13 : decode cX3_targetOf 13 = .ok (.invokestatic 87, 3) := by decide +kernel
theorem dX3_targetOf_16 : decode cX3_targetOf 16 = .ok (.invokevirtual 90, 3) := by decide +kernel
theorem dX3_targetOf_19 : decode cX3_targetOf 19 = .ok (.ireturn, 1) := by decide +kernel
theorem dX3_movementError_0 : decode cX3_movementError 0 = .ok (.aload_n 0, 1) := by decide +kernel
theorem dX3_movementError_1 : decode cX3_movementError 1 = .ok (.aload_n 0, 1) := by decide +kernel
theorem dX3_movementError_2 : decode cX3_movementError 2 = .ok (.iload_n 1, 1) := by decide +kernel
theorem dX3_movementError_3 : decode cX3_movementError 3 = .ok (.invokestatic 87, 3) := by decide +kernel
theorem dX3_movementError_6 : decode cX3_movementError 6 = .ok (.invokevirtual 90, 3) := by decide +kernel
theorem dX3_movementError_9 : decode cX3_movementError 9 = .ok (.invokevirtual 47, 3) := by decide +kernel
theorem dX3_movementError_12 : decode cX3_movementError 12 = .ok (.ifCond .ne 6, 3) := by decide +kernel
theorem dX3_movementError_15 : decode cX3_movementError 15 = .ok (.bipush (-2), 2) := by decide +kernel
theorem dX3_movementError_17 : decode cX3_movementError 17 = .ok (.ireturn, 1) := by decide +kernel
theorem dX3_movementError_18 : decode cX3_movementError 18 = .ok (.aload_n 0, 1) := by decide +kernel
theorem dX3_movementError_19 : decode cX3_movementError 19 = .ok (.iload_n 1, 1) := by decide +kernel
theorem dX3_movementError_20 : decode cX3_movementError 20 = .ok (.invokevirtual 93, 3) := by decide +kernel
theorem dX3_movementError_23 : decode cX3_movementError 23 = .ok (.istore_n 3, 1) := by decide +kernel
theorem dX3_movementError_24 : decode cX3_movementError 24 = .ok (.aload_n 0, 1) := by decide +kernel
theorem dX3_movementError_25 : decode cX3_movementError 25 = .ok (.iload_n 3, 1) := by decide +kernel
theorem dX3_movementError_26 : decode cX3_movementError 26 = .ok (.invokevirtual 58, 3) := by decide +kernel
theorem dX3_movementError_29 : decode cX3_movementError 29 = .ok (.istore 4, 2) := by decide +kernel
theorem dX3_movementError_31 : decode cX3_movementError 31 = .ok (.iload 4, 2) := by decide +kernel
theorem dX3_movementError_33 : decode cX3_movementError 33 = .ok (.iload_n 2, 1) := by decide +kernel
theorem dX3_movementError_34 : decode cX3_movementError 34 = .ok (.if_icmp .ge 6, 3) := by decide +kernel
theorem dX3_movementError_37 : decode cX3_movementError 37 = .ok (.bipush (-6), 2) := by decide +kernel
theorem dX3_movementError_39 : decode cX3_movementError 39 = .ok (.ireturn, 1) := by decide +kernel
theorem dX3_movementError_40 : decode cX3_movementError 40 = .ok (.iconst 0, 1) := by decide +kernel
theorem dX3_movementError_41 : decode cX3_movementError 41 = .ok (.istore 5, 2) := by decide +kernel
theorem dX3_movementError_43 : decode cX3_movementError 43 = .ok (.iconst 0, 1) := by decide +kernel
theorem dX3_movementError_44 : decode cX3_movementError 44 = .ok (.istore 6, 2) := by decide +kernel
theorem dX3_movementError_46 : decode cX3_movementError 46 = .ok (.iconst 0, 1) := by decide +kernel
theorem dX3_movementError_47 : decode cX3_movementError 47 = .ok (.istore 7, 2) := by decide +kernel
theorem dX3_movementError_49 : decode cX3_movementError 49 = .ok (.iload 7, 2) := by decide +kernel
theorem dX3_movementError_51 : decode cX3_movementError 51 = .ok (.iload_n 2, 1) := by decide +kernel
theorem dX3_movementError_52 : decode cX3_movementError 52 = .ok (.if_icmp .ge 66, 3) := by decide +kernel
theorem dX3_movementError_55 : decode cX3_movementError 55 = .ok (.aload_n 0, 1) := by decide +kernel
theorem dX3_movementError_56 : decode cX3_movementError 56 = .ok (.iload_n 3, 1) := by decide +kernel
theorem dX3_movementError_57 : decode cX3_movementError 57 = .ok (.iload_n 1, 1) := by decide +kernel
theorem dX3_movementError_58 : decode cX3_movementError 58 = .ok (.bipush 40, 2) := by decide +kernel
theorem dX3_movementError_60 : decode cX3_movementError 60 = .ok (.if_icmp .ne 13, 3) := by decide +kernel
theorem dX3_movementError_63 : decode cX3_movementError 63 = .ok (.iload 4, 2) := by decide +kernel
theorem dX3_movementError_65 : decode cX3_movementError 65 = .ok (.iconst 1, 1) := by decide +kernel
theorem dX3_movementError_66 : decode cX3_movementError 66 = .ok (.isub, 1) := by decide +kernel
theorem dX3_movementError_67 : decode cX3_movementError 67 = .ok (.iload 7, 2) := by decide +kernel
theorem dX3_movementError_69 : decode cX3_movementError 69 = .ok (.isub, 1) := by decide +kernel
theorem dX3_movementError_70 : decode cX3_movementError 70 = .ok (.goto 5, 3) := by decide +kernel
theorem dX3_movementError_73 : decode cX3_movementError 73 = .ok (.iload 7, 2) := by decide +kernel
theorem dX3_movementError_75 : decode cX3_movementError 75 = .ok (.invokevirtual 61, 3) := by decide +kernel
theorem dX3_movementError_78 : decode cX3_movementError 78 = .ok (.istore 8, 2) := by decide +kernel
theorem dX3_movementError_80 : decode cX3_movementError 80 = .ok (.iload 5, 2) := by decide +kernel
theorem dX3_movementError_82 : decode cX3_movementError 82 = .ok (.aload_n 0, 1) := by decide +kernel
theorem dX3_movementError_83 : decode cX3_movementError 83 = .ok (.iload 8, 2) := by decide +kernel
theorem dX3_movementError_85 : decode cX3_movementError 85 = .ok (.invokevirtual 78, 3) := by decide +kernel
theorem dX3_movementError_88 : decode cX3_movementError 88 = .ok (.iadd, 1) := by decide +kernel
theorem dX3_movementError_89 : decode cX3_movementError 89 = .ok (.istore 5, 2) := by decide +kernel
theorem dX3_movementError_91 : decode cX3_movementError 91 = .ok (.iload 6, 2) := by decide +kernel
theorem dX3_movementError_93 : decode cX3_movementError 93 = .ok (.ifCond .ne 12, 3) := by decide +kernel
theorem dX3_movementError_96 : decode cX3_movementError 96 = .ok (.aload_n 0, 1) := by decide +kernel
theorem dX3_movementError_97 : decode cX3_movementError 97 = .ok (.iload 8, 2) := by decide +kernel
theorem dX3_movementError_99 : decode cX3_movementError 99 = .ok (.invokevirtual 96, 3) := by decide +kernel
theorem dX3_movementError_102 : decode cX3_movementError 102 = .ok (.ifCond .eq 7, 3) := by decide +kernel
theorem dX3_movementError_105 : decode cX3_movementError 105 = .ok (.iconst 1, 1) := by decide +kernel
theorem dX3_movementError_106 : decode cX3_movementError 106 = .ok (.goto 4, 3) := by decide +kernel
theorem dX3_movementError_109 : decode cX3_movementError 109 = .ok (.iconst 0, 1) := by decide +kernel
theorem dX3_movementError_110 : decode cX3_movementError 110 = .ok (.istore 6, 2) := by decide +kernel
theorem dX3_movementError_112 : decode cX3_movementError 112 = .ok (.iinc 7 1, 3) := by decide +kernel
theorem dX3_movementError_115 : decode cX3_movementError 115 = .ok (.goto (-66), 3) := by decide +kernel
theorem dX3_movementError_118 : decode cX3_movementError 118 = .ok (.iload 6, 2) := by decide +kernel
theorem dX3_movementError_120 : decode cX3_movementError 120 = .ok (.ifCond .ne 6, 3) := by decide +kernel
theorem dX3_movementError_123 : decode cX3_movementError 123 = .ok (.bipush (-7), 2) := by decide +kernel
theorem dX3_movementError_125 : decode cX3_movementError 125 = .ok (.ireturn, 1) := by decide +kernel
theorem dX3_movementError_126 : decode cX3_movementError 126 = .ok (.iload 5, 2) := by decide +kernel
theorem dX3_movementError_128 : decode cX3_movementError 128 = .ok (.aload_n 0, 1) := by decide +kernel
theorem dX3_movementError_129 : decode cX3_movementError 129 = .ok (.aload_n 0, 1) := by decide +kernel
theorem dX3_movementError_130 : decode cX3_movementError 130 = .ok (.iload_n 1, 1) := by decide +kernel
theorem dX3_movementError_131 : decode cX3_movementError 131 = .ok (.invokevirtual 99, 3) := by decide +kernel
theorem dX3_movementError_134 : decode cX3_movementError 134 = .ok (.invokevirtual 102, 3) := by decide +kernel
theorem dX3_movementError_137 : decode cX3_movementError 137 = .ok (.if_icmp .le 8, 3) := by decide +kernel
theorem dX3_movementError_140 : decode cX3_movementError 140 = .ok (.bipush (-8), 2) := by decide +kernel
theorem dX3_movementError_142 : decode cX3_movementError 142 = .ok (.goto 4, 3) := by decide +kernel
theorem dX3_movementError_145 : decode cX3_movementError 145 = .ok (.iconst 0, 1) := by decide +kernel
theorem dX3_movementError_146 : decode cX3_movementError 146 = .ok (.ireturn, 1) := by decide +kernel
theorem dX3_shift_0 : decode cX3_shift 0 = .ok (.aload_n 0, 1) := by decide +kernel
theorem dX3_shift_1 : decode cX3_shift 1 = .ok (.iload_n 1, 1) := by decide +kernel
theorem dX3_shift_2 : decode cX3_shift 2 = .ok (.invokevirtual 93, 3) := by decide +kernel
theorem dX3_shift_5 : decode cX3_shift 5 = .ok (.istore_n 3, 1) := by decide +kernel
theorem dX3_shift_6 : decode cX3_shift 6 = .ok (.aload_n 0, 1) := by decide +kernel
theorem dX3_shift_7 : decode cX3_shift 7 = .ok (.iload_n 1, 1) := by decide +kernel
theorem dX3_shift_8 : decode cX3_shift 8 = .ok (.invokevirtual 99, 3) := by decide +kernel
theorem dX3_shift_11 : decode cX3_shift 11 = .ok (.istore 4, 2) := by decide +kernel
theorem dX3_shift_13 : decode cX3_shift 13 = .ok (.iconst 0, 1) := by decide +kernel
theorem dX3_shift_14 : decode cX3_shift 14 = .ok (.istore 5, 2) := by decide +kernel
theorem dX3_shift_16 : decode cX3_shift 16 = .ok (.iload 5, 2) := by decide +kernel
theorem dX3_shift_18 : decode cX3_shift 18 = .ok (.iload_n 2, 1) := by decide +kernel
theorem dX3_shift_19 : decode cX3_shift 19 = .ok (.if_icmp .ge 58, 3) := by decide +kernel
theorem dX3_shift_22 : decode cX3_shift 22 = .ok (.aload_n 0, 1) := by decide +kernel
theorem dX3_shift_23 : decode cX3_shift 23 = .ok (.iload_n 3, 1) := by decide +kernel
theorem dX3_shift_24 : decode cX3_shift 24 = .ok (.iload_n 1, 1) := by decide +kernel
theorem dX3_shift_25 : decode cX3_shift 25 = .ok (.bipush 40, 2) := by decide +kernel
theorem dX3_shift_27 : decode cX3_shift 27 = .ok (.if_icmp .ne 14, 3) := by decide +kernel
theorem dX3_shift_30 : decode cX3_shift 30 = .ok (.aload_n 0, 1) := by decide +kernel
theorem dX3_shift_31 : decode cX3_shift 31 = .ok (.bipush 12, 2) := by decide +kernel
theorem dX3_shift_33 : decode cX3_shift 33 = .ok (.invokevirtual 58, 3) := by decide +kernel
theorem dX3_shift_36 : decode cX3_shift 36 = .ok (.iconst 1, 1) := by decide +kernel
theorem dX3_shift_37 : decode cX3_shift 37 = .ok (.isub, 1) := by decide +kernel
theorem dX3_shift_38 : decode cX3_shift 38 = .ok (.goto 4, 3) := by decide +kernel
theorem dX3_shift_41 : decode cX3_shift 41 = .ok (.iconst 0, 1) := by decide +kernel
theorem dX3_shift_42 : decode cX3_shift 42 = .ok (.invokevirtual 75, 3) := by decide +kernel
theorem dX3_shift_45 : decode cX3_shift 45 = .ok (.istore 6, 2) := by decide +kernel
theorem dX3_shift_47 : decode cX3_shift 47 = .ok (.aload_n 0, 1) := by decide +kernel
theorem dX3_shift_48 : decode cX3_shift 48 = .ok (.iload 4, 2) := by decide +kernel
theorem dX3_shift_50 : decode cX3_shift 50 = .ok (.iload_n 1, 1) := by decide +kernel
theorem dX3_shift_51 : decode cX3_shift 51 = .ok (.bipush 20, 2) := by decide +kernel
theorem dX3_shift_53 : decode cX3_shift 53 = .ok (.if_icmp .ne 12, 3) := by decide +kernel
theorem dX3_shift_56 : decode cX3_shift 56 = .ok (.aload_n 0, 1) := by decide +kernel
theorem dX3_shift_57 : decode cX3_shift 57 = .ok (.bipush 12, 2) := by decide +kernel
theorem dX3_shift_59 : decode cX3_shift 59 = .ok (.invokevirtual 58, 3) := by decide +kernel
theorem dX3_shift_62 : decode cX3_shift 62 = .ok (.goto 4, 3) := by decide +kernel
theorem dX3_shift_65 : decode cX3_shift 65 = .ok (.iconst 0, 1) := by decide +kernel
theorem dX3_shift_66 : decode cX3_shift 66 = .ok (.iload 6, 2) := by decide +kernel
theorem dX3_shift_68 : decode cX3_shift 68 = .ok (.invokevirtual 68, 3) := by decide +kernel
theorem dX3_shift_71 : decode cX3_shift 71 = .ok (.iinc 5 1, 3) := by decide +kernel
theorem dX3_shift_74 : decode cX3_shift 74 = .ok (.goto (-58), 3) := by decide +kernel
theorem dX3_shift_77 : decode cX3_shift 77 = .ok (.return_, 1) := by decide +kernel
theorem dX3_carryOut_0 : decode cX3_carryOut 0 = .ok (.iload_n 1, 1) := by decide +kernel
theorem dX3_carryOut_1 : decode cX3_carryOut 1 = .ok (.ifCond .ne 19, 3) := by decide +kernel
theorem dX3_carryOut_4 : decode cX3_carryOut 4 = .ok (.aload_n 0, 1) := by decide +kernel
theorem dX3_carryOut_5 : decode cX3_carryOut 5 = .ok (.aload_n 0, 1) := by decide +kernel
theorem dX3_carryOut_6 : decode cX3_carryOut 6 = .ok (.getfield 40, 3) := by decide +kernel
theorem dX3_carryOut_9 : decode cX3_carryOut 9 = .ok (.iconst 1, 1) := by decide +kernel
theorem dX3_carryOut_10 : decode cX3_carryOut 10 = .ok (.iadd, 1) := by decide +kernel
theorem dX3_carryOut_11 : decode cX3_carryOut 11 = .ok (.bipush 12, 2) := by decide +kernel
theorem dX3_carryOut_13 : decode cX3_carryOut 13 = .ok (.irem, 1) := by decide +kernel
theorem dX3_carryOut_14 : decode cX3_carryOut 14 = .ok (.putfield 40, 3) := by decide +kernel
theorem dX3_carryOut_17 : decode cX3_carryOut 17 = .ok (.goto 41, 3) := by decide +kernel
theorem dX3_carryOut_20 : decode cX3_carryOut 20 = .ok (.iload_n 1, 1) := by decide +kernel
theorem dX3_carryOut_21 : decode cX3_carryOut 21 = .ok (.iconst 1, 1) := by decide +kernel
theorem dX3_carryOut_22 : decode cX3_carryOut 22 = .ok (.if_icmp .ne 22, 3) := by decide +kernel
theorem dX3_carryOut_25 : decode cX3_carryOut 25 = .ok (.aload_n 0, 1) := by decide +kernel
theorem dX3_carryOut_26 : decode cX3_carryOut 26 = .ok (.aload_n 0, 1) := by decide +kernel
theorem dX3_carryOut_27 : decode cX3_carryOut 27 = .ok (.getfield 40, 3) := by decide +kernel
theorem dX3_carryOut_30 : decode cX3_carryOut 30 = .ok (.bipush 12, 2) := by decide +kernel
theorem dX3_carryOut_32 : decode cX3_carryOut 32 = .ok (.iadd, 1) := by decide +kernel
theorem dX3_carryOut_33 : decode cX3_carryOut 33 = .ok (.iconst 1, 1) := by decide +kernel
theorem dX3_carryOut_34 : decode cX3_carryOut 34 = .ok (.isub, 1) := by decide +kernel
theorem dX3_carryOut_35 : decode cX3_carryOut 35 = .ok (.bipush 12, 2) := by decide +kernel
theorem dX3_carryOut_37 : decode cX3_carryOut 37 = .ok (.irem, 1) := by decide +kernel
theorem dX3_carryOut_38 : decode cX3_carryOut 38 = .ok (.putfield 40, 3) := by decide +kernel
theorem dX3_carryOut_41 : decode cX3_carryOut 41 = .ok (.goto 17, 3) := by decide +kernel
theorem dX3_carryOut_44 : decode cX3_carryOut 44 = .ok (.aload_n 0, 1) := by decide +kernel
theorem dX3_carryOut_45 : decode cX3_carryOut 45 = .ok (.iload_n 1, 1) := by decide +kernel
theorem dX3_carryOut_46 : decode cX3_carryOut 46 = .ok (.iload_n 1, 1) := by decide +kernel
theorem dX3_carryOut_47 : decode cX3_carryOut 47 = .ok (.bipush 10, 2) := by decide +kernel
theorem dX3_carryOut_49 : decode cX3_carryOut 49 = .ok (.irem, 1) := by decide +kernel
theorem dX3_carryOut_50 : decode cX3_carryOut 50 = .ok (.isub, 1) := by decide +kernel
theorem dX3_carryOut_51 : decode cX3_carryOut 51 = .ok (.iload_n 1, 1) := by decide +kernel
theorem dX3_carryOut_52 : decode cX3_carryOut 52 = .ok (.bipush 10, 2) := by decide +kernel
theorem dX3_carryOut_54 : decode cX3_carryOut 54 = .ok (.irem, 1) := by decide +kernel
theorem dX3_carryOut_55 : decode cX3_carryOut 55 = .ok (.invokevirtual 105, 3) := by decide +kernel
theorem dX3_carryOut_58 : decode cX3_carryOut 58 = .ok (.return_, 1) := by decide +kernel
end
section
def zF (n : Nat) (v : Int32) (f : Nat → Int32) : Option Value → am_H → Prop := fun x h => x = none ∧ h = [some (.inl (0, n, am_fill n v f))]
theorem am_fill_step (i : Nat) (hi : i < 2 ^ 31) (v : Int32) (f : Nat → Int32) : upd (am_fill i v f) (nI i).toNatClampNeg v = am_fill (i + 1) v f := by
  funext j
  rw [nI_clamp hi]
  simp only [upd, am_fill]
  by_cases hj : j = i
  · subst hj; simp
  · rw [if_neg hj]
    by_cases h2 : j < i
    · rw [if_pos h2, if_pos (by omega)]
    · rw [if_neg h2, if_neg (by omega)]
theorem am_fill_loop {n : Nat} (hn : n < 2 ^ 31) (v : Int32) (f : Nat → Int32) : ∀ (k i : Nat), i + k = n → am_Ok mJ7_fill_53178 none (zF n v f) 0 0 5 [some (.ref 0), some (.int v), some (.int (nI i)), some (.int (nI n))] [] [some (.inl (0, n, am_fill i v f))] := by
  intro k
  induction k with
  | zero =>
    intro i hi
    have : i = n := by omega
    subst this
    refine am_iload_n dJ7_fill_53178_5 rfl ?_
    refine am_iload_n dJ7_fill_53178_6 rfl ?_
    refine am_icmp_ge 20 dJ7_fill_53178_7 (by decide) (fun c => ?_) (fun c => absurd (Int32.le_refl _) c)
    exact am_vreturn dJ7_fill_53178_20 rfl ⟨rfl, rfl⟩
  | succ k ih =>
    intro i hi
    refine am_iload_n dJ7_fill_53178_5 rfl ?_
    refine am_iload_n dJ7_fill_53178_6 rfl ?_
    refine am_icmp_ge 20 dJ7_fill_53178_7 (by decide) (fun c => absurd c (nI_ge (by omega) hn)) (fun c => ?_)
    refine am_aload_n dJ7_fill_53178_10 rfl ?_
    refine am_iload_n dJ7_fill_53178_11 rfl ?_
    refine am_iload_n dJ7_fill_53178_12 rfl ?_
    refine am_iastore dJ7_fill_53178_13 rfl (vp_in_nI (by omega) hn) ?_
    refine am_hp (h2 := [some (.inl (0, n, am_fill (i + 1) v f))]) (by rw [am_fill_step i (by omega)]; rfl) ?_
    refine am_iinc' (lf := fun y => [some (.ref 0), some (.int v), some (.int y), some (.int (nI n))]) dJ7_fill_53178_14 rfl rfl rfl ic_1 (fun _ => rfl) (fun y ey => ?_)
    refine am_goto 5 dJ7_fill_53178_17 (by decide) ?_
    have e : y = nI (i + 1) := by rw [ey]; exact nI_1 i
    rw [e]
    exact ih (i + 1) (by omega)
theorem am_fill_met {n : Nat} (hn : n < 2 ^ 31) (v : Int32) (f : Nat → Int32) : am_Met mJ7_fill_53178 [.ref 0, .int v] [some (.inl (0, n, f))] 0 0 (zF n v f) := by
  refine am_Met.of2 (ls := [some (.ref 0), some (.int v), none, none]) pf_J7_fill_53178 rfl rfl rfl rfl ?_
  refine am_iconst dJ7_fill_53178_0 ic_0 ?_
  refine am_istore_n' (ls' := [some (.ref 0), some (.int v), some (.int 0), none]) dJ7_fill_53178_1 rfl rfl rfl ?_
  refine am_aload_n dJ7_fill_53178_2 rfl ?_
  refine am_alen (t := 0) (v := nI n) dJ7_fill_53178_3 rfl rfl ?_
  refine am_istore_n' (ls' := [some (.ref 0), some (.int v), some (.int 0), some (.int (nI n))]) dJ7_fill_53178_4 rfl rfl rfl ?_
  have e : f = am_fill 0 v f := by
    funext j
    simp [am_fill]
  have := am_fill_loop hn v f n 0 (by omega)
  rw [← e, nI_0] at this
  exact this
theorem am_fillS {M : am_M} {sc : Option (Nat × (Nat → Int32))} {Z : Option Value → am_H → Prop} {nc ns pc idx n : Nat} {ls : List (Option Value)} {st : List Value} {h : am_H} {v : Int32} {f : Nat → Int32} (q0 : Nat) (hd : decode M.2.1 pc = .ok (.invokestatic idx, 3)) (q : am_qS M idx mJ7_fill_53178 2 ∨ am_qN M idx mJ7_fill_53178 2) (hq : h[q0]? = some (some (.inl (0, n, f)))) (hn : Nat.ble n 100000 = true) (hcat : Nat.ble (st.map fun v => v.category).sum 8 = true) (hlen : Nat.ble h.length 1000 = true)
    (k : am_Ok M sc Z nc ns (pc + 3) ls st (h.set q0 (some (.inl (0, n, am_fill n v f))))) : am_Ok M sc Z nc ns pc ls (.int v :: .ref q0 :: st) h := by
  have hn2 : n < 2 ^ 31 := by have := Nat.le_of_ble_eq_true hn; omega
  have hok : ∀ x h1, zF n v f x h1 → am_okh [some (.inl (0, n, f) : am_C)].length h1 = true ∧ ∀ w, x = some w → am_okv [some (.inl (0, n, f) : am_C)].length w = true := by
    rintro x h1 ⟨rfl, rfl⟩
    exact ⟨rfl, fun w hw => by cases hw⟩
  have k2 : ∀ x h1, zF n v f x h1 → h1.length = [some (.inl (0, n, f) : am_C)].length → am_Ok M sc Z (nc - 0) (ns - 0) (pc + 3) ls ((x.map (am_v (am_ix [q0]))).toList ++ st) (am_put [q0] (h1.map (Option.map (am_rn [q0]))) h) := by
    rintro x h1 ⟨rfl, rfl⟩ -
    exact k
  rcases q with ⟨q1, q2, q3⟩ | ⟨q1, ⟨host, q2⟩, q3⟩
  · exact am_callS (is := [q0]) (As := [.ref q0, .int v]) (n1 := 0) (s1 := 0) hd q1 q2 q3 (am_fill_met hn2 v f) rfl rfl rfl (Nat.le_of_ble_eq_true hcat) (by show [h[q0]?] = [some _]; rw [hq]; rfl) (by simp [va_nd]) (Nat.le_of_ble_eq_true hlen) (by show 1 ≤ 1000; omega) (by unfold am_fr; unfold am_fr; rfl) ⟨Nat.zero_le _, Nat.zero_le _⟩ hok k2
  · exact am_callSN (is := [q0]) (As := [.ref q0, .int v]) (n1 := 0) (s1 := 0) hd q1 q2 q3 (am_fill_met hn2 v f) rfl rfl rfl (Nat.le_of_ble_eq_true hcat) (by show [h[q0]?] = [some _]; rw [hq]; rfl) (by simp [va_nd]) (Nat.le_of_ble_eq_true hlen) (by show 1 ≤ 1000; omega) (by unfold am_fr; unfold am_fr; rfl) ⟨Nat.zero_le _, Nat.zero_le _⟩ hok k2
end
section
def wJ6_bitCount_0f7a4 (a1 : Int32) (K : Int32 → Prop) : Prop := ∀ x1 : Int32, x1 = (a1 - ((am_ush a1 (1 : Int32)) &&& (1431655765 : Int32))) → ∀ x2 : Int32, x2 = ((x1 &&& (858993459 : Int32)) + ((am_ush x1 (2 : Int32)) &&& (858993459 : Int32))) → ∀ x3 : Int32, x3 = ((x2 + (am_ush x2 (4 : Int32))) &&& (252645135 : Int32)) → ∀ x4 : Int32, x4 = (x3 + (am_ush x3 (8 : Int32))) → ∀ x5 : Int32, x5 = (x4 + (am_ush x4 (16 : Int32))) → K (x5 &&& (63 : Int32))
set_option maxRecDepth 20000 in
theorem sJ6_bitCount_0f7a4 {a1 : Int32} {K : Int32 → Prop} (hw : wJ6_bitCount_0f7a4 a1 K) : am_Met mJ6_bitCount_0f7a4 [.int a1] [] 0 0 (zP [] K) := by
  unfold wJ6_bitCount_0f7a4 at hw
  refine am_Met.of2 (ls := [some (.int a1)]) pf_J6_bitCount_0f7a4 rfl rfl rfl rfl ?_
  refine am_iload_n dJ6_bitCount_0f7a4_0 rfl ?_
  refine am_iload_n dJ6_bitCount_0f7a4_1 rfl ?_
  refine am_iconst dJ6_bitCount_0f7a4_2 ic_1 ?_
  refine am_iushr' dJ6_bitCount_0f7a4_3 ?_
  refine am_ldcw dJ6_bitCount_0f7a4_4 wd_514 ?_
  refine am_iand dJ6_bitCount_0f7a4_7 ?_
  refine am_isub dJ6_bitCount_0f7a4_8 ?_
  refine am_top (fun x1 ex1 => ?_)
  have hw := hw x1 ex1
  refine am_istore_n' (ls' := [some (.int x1)]) dJ6_bitCount_0f7a4_9 rfl rfl rfl ?_
  refine am_iload_n dJ6_bitCount_0f7a4_10 rfl ?_
  refine am_ldcw dJ6_bitCount_0f7a4_11 wd_515 ?_
  refine am_iand dJ6_bitCount_0f7a4_14 ?_
  refine am_iload_n dJ6_bitCount_0f7a4_15 rfl ?_
  refine am_iconst dJ6_bitCount_0f7a4_16 ic_2 ?_
  refine am_iushr' dJ6_bitCount_0f7a4_17 ?_
  refine am_ldcw dJ6_bitCount_0f7a4_18 wd_515 ?_
  refine am_iand dJ6_bitCount_0f7a4_21 ?_
  refine am_iadd dJ6_bitCount_0f7a4_22 ?_
  refine am_top (fun x2 ex2 => ?_)
  have hw := hw x2 ex2
  refine am_istore_n' (ls' := [some (.int x2)]) dJ6_bitCount_0f7a4_23 rfl rfl rfl ?_
  refine am_iload_n dJ6_bitCount_0f7a4_24 rfl ?_
  refine am_iload_n dJ6_bitCount_0f7a4_25 rfl ?_
  refine am_iconst dJ6_bitCount_0f7a4_26 ic_4 ?_
  refine am_iushr' dJ6_bitCount_0f7a4_27 ?_
  refine am_iadd dJ6_bitCount_0f7a4_28 ?_
  refine am_ldcw dJ6_bitCount_0f7a4_29 wd_516 ?_
  refine am_iand dJ6_bitCount_0f7a4_32 ?_
  refine am_top (fun x3 ex3 => ?_)
  have hw := hw x3 ex3
  refine am_istore_n' (ls' := [some (.int x3)]) dJ6_bitCount_0f7a4_33 rfl rfl rfl ?_
  refine am_iload_n dJ6_bitCount_0f7a4_34 rfl ?_
  refine am_iload_n dJ6_bitCount_0f7a4_35 rfl ?_
  refine am_bipush dJ6_bitCount_0f7a4_36 bc_8 ?_
  refine am_iushr' dJ6_bitCount_0f7a4_38 ?_
  refine am_iadd dJ6_bitCount_0f7a4_39 ?_
  refine am_top (fun x4 ex4 => ?_)
  have hw := hw x4 ex4
  refine am_istore_n' (ls' := [some (.int x4)]) dJ6_bitCount_0f7a4_40 rfl rfl rfl ?_
  refine am_iload_n dJ6_bitCount_0f7a4_41 rfl ?_
  refine am_iload_n dJ6_bitCount_0f7a4_42 rfl ?_
  refine am_bipush dJ6_bitCount_0f7a4_43 bc_16 ?_
  refine am_iushr' dJ6_bitCount_0f7a4_45 ?_
  refine am_iadd dJ6_bitCount_0f7a4_46 ?_
  refine am_top (fun x5 ex5 => ?_)
  have hw := hw x5 ex5
  refine am_istore_n' (ls' := [some (.int x5)]) dJ6_bitCount_0f7a4_47 rfl rfl rfl ?_
  refine am_iload_n dJ6_bitCount_0f7a4_48 rfl ?_
  refine am_bipush dJ6_bitCount_0f7a4_49 bc_63 ?_
  refine am_iand dJ6_bitCount_0f7a4_51 ?_
  exact am_ireturn dJ6_bitCount_0f7a4_52 rfl ⟨_, rfl, rfl, hw⟩

def wJ9_floorMod_7cf53 (a1 a2 : Int32) (K : Int32 → Prop) : Prop := (¬ a2 = 0 ∧ ∀ x1 : Int32, x1 = (am_rem a1 a2) → ((0 ≤ (a1 ^^^ a2) → K x1) ∧ (¬ 0 ≤ (a1 ^^^ a2) → ((x1 = 0 → K x1) ∧ (¬ x1 = 0 → K (x1 + a2))))))
set_option maxRecDepth 20000 in
theorem sJ9_floorMod_7cf53 {a1 a2 : Int32} {K : Int32 → Prop} (hw : wJ9_floorMod_7cf53 a1 a2 K) : am_Met mJ9_floorMod_7cf53 [.int a1, .int a2] [] 0 0 (zP [] K) := by
  unfold wJ9_floorMod_7cf53 at hw
  refine am_Met.of2 (ls := [some (.int a1), some (.int a2), none]) pf_J9_floorMod_7cf53 rfl rfl rfl rfl ?_
  refine am_iload_n dJ9_floorMod_7cf53_0 rfl ?_
  refine am_iload_n dJ9_floorMod_7cf53_1 rfl ?_
  refine am_irem' dJ9_floorMod_7cf53_2 hw.1 ?_
  have hw := hw.2
  refine am_top (fun x1 ex1 => ?_)
  have hw := hw x1 ex1
  refine am_istore_n' (ls' := [some (.int a1), some (.int a2), some (.int x1)]) dJ9_floorMod_7cf53_3 rfl rfl rfl ?_
  refine am_iload_n dJ9_floorMod_7cf53_4 rfl ?_
  refine am_iload_n dJ9_floorMod_7cf53_5 rfl ?_
  refine am_ixor dJ9_floorMod_7cf53_6 ?_
  refine am_if_ge 18 dJ9_floorMod_7cf53_7 (by decide) (fun c2 => ?_) (fun c2 => ?_)
  · have hw := hw.1 c2
    refine am_iload_n dJ9_floorMod_7cf53_18 rfl ?_
    exact am_ireturn dJ9_floorMod_7cf53_19 rfl ⟨_, rfl, rfl, hw⟩
  · have hw := hw.2 c2
    refine am_iload_n dJ9_floorMod_7cf53_10 rfl ?_
    refine am_if_eq 18 dJ9_floorMod_7cf53_11 (by decide) (fun c3 => ?_) (fun c3 => ?_)
    · have hw := hw.1 c3
      refine am_iload_n dJ9_floorMod_7cf53_18 rfl ?_
      exact am_ireturn dJ9_floorMod_7cf53_19 rfl ⟨_, rfl, rfl, hw⟩
    · have hw := hw.2 c3
      refine am_iload_n dJ9_floorMod_7cf53_14 rfl ?_
      refine am_iload_n dJ9_floorMod_7cf53_15 rfl ?_
      refine am_iadd dJ9_floorMod_7cf53_16 ?_
      exact am_ireturn dJ9_floorMod_7cf53_17 rfl ⟨_, rfl, rfl, hw⟩

def wJ9_abs_0f7a4 (a1 : Int32) (K : Int32 → Prop) : Prop := ((0 ≤ a1 → K a1) ∧ (¬ 0 ≤ a1 → K (-a1)))
set_option maxRecDepth 20000 in
theorem sJ9_abs_0f7a4 {a1 : Int32} {K : Int32 → Prop} (hw : wJ9_abs_0f7a4 a1 K) : am_Met mJ9_abs_0f7a4 [.int a1] [] 0 0 (zP [] K) := by
  unfold wJ9_abs_0f7a4 at hw
  refine am_Met.of2 (ls := [some (.int a1)]) pf_J9_abs_0f7a4 rfl rfl rfl rfl ?_
  refine am_iload_n dJ9_abs_0f7a4_0 rfl ?_
  refine am_if_ge 9 dJ9_abs_0f7a4_1 (by decide) (fun c1 => ?_) (fun c1 => ?_)
  · have hw := hw.1 c1
    refine am_iload_n dJ9_abs_0f7a4_9 rfl ?_
    exact am_ireturn dJ9_abs_0f7a4_10 rfl ⟨_, rfl, rfl, hw⟩
  · have hw := hw.2 c1
    refine am_iload_n dJ9_abs_0f7a4_4 rfl ?_
    refine am_ineg dJ9_abs_0f7a4_5 ?_
    refine am_goto 10 dJ9_abs_0f7a4_6 (by decide) ?_
    exact am_ireturn dJ9_abs_0f7a4_10 rfl ⟨_, rfl, rfl, hw⟩

def wJ9_max_7cf53 (a1 a2 : Int32) (K : Int32 → Prop) : Prop := ((a1 < a2 → K a2) ∧ (¬ a1 < a2 → K a1))
set_option maxRecDepth 20000 in
theorem sJ9_max_7cf53 {a1 a2 : Int32} {K : Int32 → Prop} (hw : wJ9_max_7cf53 a1 a2 K) : am_Met mJ9_max_7cf53 [.int a1, .int a2] [] 0 0 (zP [] K) := by
  unfold wJ9_max_7cf53 at hw
  refine am_Met.of2 (ls := [some (.int a1), some (.int a2)]) pf_J9_max_7cf53 rfl rfl rfl rfl ?_
  refine am_iload_n dJ9_max_7cf53_0 rfl ?_
  refine am_iload_n dJ9_max_7cf53_1 rfl ?_
  refine am_icmp_lt 9 dJ9_max_7cf53_2 (by decide) (fun c1 => ?_) (fun c1 => ?_)
  · have hw := hw.1 c1
    refine am_iload_n dJ9_max_7cf53_9 rfl ?_
    exact am_ireturn dJ9_max_7cf53_10 rfl ⟨_, rfl, rfl, hw⟩
  · have hw := hw.2 c1
    refine am_iload_n dJ9_max_7cf53_5 rfl ?_
    refine am_goto 10 dJ9_max_7cf53_6 (by decide) ?_
    exact am_ireturn dJ9_max_7cf53_10 rfl ⟨_, rfl, rfl, hw⟩

def wJ9_min_7cf53 (a1 a2 : Int32) (K : Int32 → Prop) : Prop := ((a2 < a1 → K a2) ∧ (¬ a2 < a1 → K a1))
set_option maxRecDepth 20000 in
theorem sJ9_min_7cf53 {a1 a2 : Int32} {K : Int32 → Prop} (hw : wJ9_min_7cf53 a1 a2 K) : am_Met mJ9_min_7cf53 [.int a1, .int a2] [] 0 0 (zP [] K) := by
  unfold wJ9_min_7cf53 at hw
  refine am_Met.of2 (ls := [some (.int a1), some (.int a2)]) pf_J9_min_7cf53 rfl rfl rfl rfl ?_
  refine am_iload_n dJ9_min_7cf53_0 rfl ?_
  refine am_iload_n dJ9_min_7cf53_1 rfl ?_
  refine am_icmp_gt 9 dJ9_min_7cf53_2 (by decide) (fun c1 => ?_) (fun c1 => ?_)
  · have hw := hw.1 c1
    refine am_iload_n dJ9_min_7cf53_9 rfl ?_
    exact am_ireturn dJ9_min_7cf53_10 rfl ⟨_, rfl, rfl, hw⟩
  · have hw := hw.2 c1
    refine am_iload_n dJ9_min_7cf53_5 rfl ?_
    refine am_goto 10 dJ9_min_7cf53_6 (by decide) ?_
    exact am_ireturn dJ9_min_7cf53_10 rfl ⟨_, rfl, rfl, hw⟩

def wX4_isPosition (a1 : Int32) (K : Int32 → Prop) : Prop := ((a1 < 0 → K (0 : Int32)) ∧ (¬ a1 < 0 → (((12 : Int32) ≤ a1 → K (0 : Int32)) ∧ (¬ (12 : Int32) ≤ a1 → K (1 : Int32)))))
set_option maxRecDepth 20000 in
theorem sX4_isPosition {a1 : Int32} {K : Int32 → Prop} (hw : wX4_isPosition a1 K) : am_Met mX4_isPosition [.int a1] [] 0 0 (zP [] K) := by
  unfold wX4_isPosition at hw
  refine am_Met.of2 (ls := [some (.int a1)]) pf_X4_isPosition rfl rfl rfl rfl ?_
  refine am_iload_n dX4_isPosition_0 rfl ?_
  refine am_if_lt 14 dX4_isPosition_1 (by decide) (fun c1 => ?_) (fun c1 => ?_)
  · have hw := hw.1 c1
    refine am_iconst dX4_isPosition_14 ic_0 ?_
    exact am_zreturn dX4_isPosition_15 rfl rfl ⟨_, rfl, rfl, hw⟩
  · have hw := hw.2 c1
    refine am_iload_n dX4_isPosition_4 rfl ?_
    refine am_bipush dX4_isPosition_5 bc_12 ?_
    refine am_icmp_ge 14 dX4_isPosition_7 (by decide) (fun c2 => ?_) (fun c2 => ?_)
    · have hw := hw.1 c2
      refine am_iconst dX4_isPosition_14 ic_0 ?_
      exact am_zreturn dX4_isPosition_15 rfl rfl ⟨_, rfl, rfl, hw⟩
    · have hw := hw.2 c2
      refine am_iconst dX4_isPosition_10 ic_1 ?_
      refine am_goto 15 dX4_isPosition_11 (by decide) ?_
      exact am_zreturn dX4_isPosition_15 rfl rfl ⟨_, rfl, rfl, hw⟩

def wX4_isEnd (a1 : Int32) (K : Int32 → Prop) : Prop := ((a1 = 0 → K (1 : Int32)) ∧ (¬ a1 = 0 → ((a1 = (1 : Int32) → K (1 : Int32)) ∧ (¬ a1 = (1 : Int32) → K (0 : Int32)))))
set_option maxRecDepth 20000 in
theorem sX4_isEnd {a1 : Int32} {K : Int32 → Prop} (hw : wX4_isEnd a1 K) : am_Met mX4_isEnd [.int a1] [] 0 0 (zP [] K) := by
  unfold wX4_isEnd at hw
  refine am_Met.of2 (ls := [some (.int a1)]) pf_X4_isEnd rfl rfl rfl rfl ?_
  refine am_iload_n dX4_isEnd_0 rfl ?_
  refine am_if_eq 9 dX4_isEnd_1 (by decide) (fun c1 => ?_) (fun c1 => ?_)
  · have hw := hw.1 c1
    refine am_iconst dX4_isEnd_9 ic_1 ?_
    refine am_goto 14 dX4_isEnd_10 (by decide) ?_
    exact am_zreturn dX4_isEnd_14 rfl rfl ⟨_, rfl, rfl, hw⟩
  · have hw := hw.2 c1
    refine am_iload_n dX4_isEnd_4 rfl ?_
    refine am_iconst dX4_isEnd_5 ic_1 ?_
    refine am_icmp_ne 13 dX4_isEnd_6 (by decide) (fun c2 => ?_) (fun c2 => ?_)
    · have hw := hw.1 c2
      refine am_iconst dX4_isEnd_9 ic_1 ?_
      refine am_goto 14 dX4_isEnd_10 (by decide) ?_
      exact am_zreturn dX4_isEnd_14 rfl rfl ⟨_, rfl, rfl, hw⟩
    · have hw := hw.2 c2
      refine am_iconst dX4_isEnd_13 ic_0 ?_
      exact am_zreturn dX4_isEnd_14 rfl rfl ⟨_, rfl, rfl, hw⟩

def wX4_isSlot (a1 : Int32) (K : Int32 → Prop) : Prop := ((a1 < 0 → K (0 : Int32)) ∧ (¬ a1 < 0 → (((2 : Int32) ≤ a1 → K (0 : Int32)) ∧ (¬ (2 : Int32) ≤ a1 → K (1 : Int32)))))
set_option maxRecDepth 20000 in
theorem sX4_isSlot {a1 : Int32} {K : Int32 → Prop} (hw : wX4_isSlot a1 K) : am_Met mX4_isSlot [.int a1] [] 0 0 (zP [] K) := by
  unfold wX4_isSlot at hw
  refine am_Met.of2 (ls := [some (.int a1)]) pf_X4_isSlot rfl rfl rfl rfl ?_
  refine am_iload_n dX4_isSlot_0 rfl ?_
  refine am_if_lt 13 dX4_isSlot_1 (by decide) (fun c1 => ?_) (fun c1 => ?_)
  · have hw := hw.1 c1
    refine am_iconst dX4_isSlot_13 ic_0 ?_
    exact am_zreturn dX4_isSlot_14 rfl rfl ⟨_, rfl, rfl, hw⟩
  · have hw := hw.2 c1
    refine am_iload_n dX4_isSlot_4 rfl ?_
    refine am_iconst dX4_isSlot_5 ic_2 ?_
    refine am_icmp_ge 13 dX4_isSlot_6 (by decide) (fun c2 => ?_) (fun c2 => ?_)
    · have hw := hw.1 c2
      refine am_iconst dX4_isSlot_13 ic_0 ?_
      exact am_zreturn dX4_isSlot_14 rfl rfl ⟨_, rfl, rfl, hw⟩
    · have hw := hw.2 c2
      refine am_iconst dX4_isSlot_9 ic_1 ?_
      refine am_goto 14 dX4_isSlot_10 (by decide) ?_
      exact am_zreturn dX4_isSlot_14 rfl rfl ⟨_, rfl, rfl, hw⟩

def wX4_endOf (a1 : Int32) (K : Int32 → Prop) : Prop := ((a1 = (10 : Int32) → K (0 : Int32)) ∧ (¬ a1 = (10 : Int32) → ((a1 = (30 : Int32) → K (0 : Int32)) ∧ (¬ a1 = (30 : Int32) → K (1 : Int32)))))
set_option maxRecDepth 20000 in
theorem sX4_endOf {a1 : Int32} {K : Int32 → Prop} (hw : wX4_endOf a1 K) : am_Met mX4_endOf [.int a1] [] 0 0 (zP [] K) := by
  unfold wX4_endOf at hw
  refine am_Met.of2 (ls := [some (.int a1)]) pf_X4_endOf rfl rfl rfl rfl ?_
  refine am_iload_n dX4_endOf_0 rfl ?_
  refine am_bipush dX4_endOf_1 bc_10 ?_
  refine am_icmp_eq 12 dX4_endOf_3 (by decide) (fun c1 => ?_) (fun c1 => ?_)
  · have hw := hw.1 c1
    refine am_iconst dX4_endOf_12 ic_0 ?_
    refine am_goto 17 dX4_endOf_13 (by decide) ?_
    exact am_ireturn dX4_endOf_17 rfl ⟨_, rfl, rfl, hw⟩
  · have hw := hw.2 c1
    refine am_iload_n dX4_endOf_6 rfl ?_
    refine am_bipush dX4_endOf_7 bc_30 ?_
    refine am_icmp_ne 16 dX4_endOf_9 (by decide) (fun c2 => ?_) (fun c2 => ?_)
    · have hw := hw.1 c2
      refine am_iconst dX4_endOf_12 ic_0 ?_
      refine am_goto 17 dX4_endOf_13 (by decide) ?_
      exact am_ireturn dX4_endOf_17 rfl ⟨_, rfl, rfl, hw⟩
    · have hw := hw.2 c2
      refine am_iconst dX4_endOf_16 ic_1 ?_
      exact am_ireturn dX4_endOf_17 rfl ⟨_, rfl, rfl, hw⟩

def wX4_reverseOf (a1 : Int32) (K : Int32 → Prop) : Prop := ((a1 = 0 → K (1 : Int32)) ∧ (¬ a1 = 0 → ((a1 = (1 : Int32) → K (0 : Int32)) ∧ (¬ a1 = (1 : Int32) → (((30 : Int32) ≤ a1 → K (a1 - (20 : Int32))) ∧ (¬ (30 : Int32) ≤ a1 → K (a1 + (20 : Int32))))))))
set_option maxRecDepth 20000 in
theorem sX4_reverseOf {a1 : Int32} {K : Int32 → Prop} (hw : wX4_reverseOf a1 K) : am_Met mX4_reverseOf [.int a1] [] 0 0 (zP [] K) := by
  unfold wX4_reverseOf at hw
  refine am_Met.of2 (ls := [some (.int a1)]) pf_X4_reverseOf rfl rfl rfl rfl ?_
  refine am_iload_n dX4_reverseOf_0 rfl ?_
  refine am_if_ne 6 dX4_reverseOf_1 (by decide) (fun c1 => ?_) (fun c1 => ?_)
  · have hw := hw.1 c1
    refine am_iconst dX4_reverseOf_4 ic_1 ?_
    exact am_ireturn dX4_reverseOf_5 rfl ⟨_, rfl, rfl, hw⟩
  · have hw := hw.2 c1
    refine am_iload_n dX4_reverseOf_6 rfl ?_
    refine am_iconst dX4_reverseOf_7 ic_1 ?_
    refine am_icmp_ne 13 dX4_reverseOf_8 (by decide) (fun c2 => ?_) (fun c2 => ?_)
    · have hw := hw.1 c2
      refine am_iconst dX4_reverseOf_11 ic_0 ?_
      exact am_ireturn dX4_reverseOf_12 rfl ⟨_, rfl, rfl, hw⟩
    · have hw := hw.2 c2
      refine am_iload_n dX4_reverseOf_13 rfl ?_
      refine am_bipush dX4_reverseOf_14 bc_30 ?_
      refine am_icmp_ge 26 dX4_reverseOf_16 (by decide) (fun c3 => ?_) (fun c3 => ?_)
      · have hw := hw.1 c3
        refine am_iload_n dX4_reverseOf_26 rfl ?_
        refine am_bipush dX4_reverseOf_27 bc_20 ?_
        refine am_isub dX4_reverseOf_29 ?_
        exact am_ireturn dX4_reverseOf_30 rfl ⟨_, rfl, rfl, hw⟩
      · have hw := hw.2 c3
        refine am_iload_n dX4_reverseOf_19 rfl ?_
        refine am_bipush dX4_reverseOf_20 bc_20 ?_
        refine am_iadd dX4_reverseOf_22 ?_
        refine am_goto 30 dX4_reverseOf_23 (by decide) ?_
        exact am_ireturn dX4_reverseOf_30 rfl ⟨_, rfl, rfl, hw⟩

def jnX0_append_43 (K : Mu → Prop) (v1 : Int32) (m0 : Mu) : Prop := (((m0 2 1) < 0 → K m0) ∧ (¬ (m0 2 1) < 0 → (vp_in (m0 2 1) 40 ∧ ∀ m3 : Mu, m3 = mu_up m0 0 ((m0 2 1)).toNatClampNeg v1 → ∀ m4 : Mu, m4 = mu_up m3 2 1 ((m3 2 1) + (1 : Int32)) → K m4)))
set_option maxRecDepth 20000 in
theorem sjnX0_append_43 {m0 : Mu} {K : Mu → Prop} {v1 : Int32} (hw : jnX0_append_43 K v1 m0) : am_Ok mX0_append none (zV fX0 K) 0 0 43 [some (.ref 0), some (.int v1), none] [] (fX0 m0) := by
  unfold jnX0_append_43 at hw
  refine am_aload_n dX0_append_43 rfl ?_
  refine am_getf dX0_append_44 fl_X0_15 rfl rfl ?_
  refine am_if_lt 70 dX0_append_47 (by decide) (fun c2 => ?_) (fun c2 => ?_)
  · have hw := hw.1 c2
    exact am_vreturn dX0_append_70 rfl ⟨_, rfl, rfl, hw⟩
  · have hw := hw.2 c2
    refine am_aload_n dX0_append_50 rfl ?_
    refine am_getf dX0_append_51 fl_X0_9 rfl rfl ?_
    refine am_aload_n dX0_append_54 rfl ?_
    refine am_getf dX0_append_55 fl_X0_15 rfl rfl ?_
    refine am_iload_n dX0_append_58 rfl ?_
    refine am_iastore' (F := fX0) (m := mu_up m0 0 ((m0 2 1)).toNatClampNeg v1) dX0_append_59 rfl hw.1 rfl (fun m3 em3 => ?_)
    have hw := hw.2 m3 em3
    refine am_aload_n dX0_append_60 rfl ?_
    refine am_dup dX0_append_61 rfl ?_
    refine am_getf dX0_append_62 fl_X0_15 rfl rfl ?_
    refine am_iconst dX0_append_65 ic_1 ?_
    refine am_iadd dX0_append_66 ?_
    refine am_putf' (F := fX0) (m := mu_up m3 2 1 ((m3 2 1) + (1 : Int32))) dX0_append_67 fp_X0_15 rfl rfl rfl (fun m4 em4 => ?_)
    have hw := hw m4 em4
    exact am_vreturn dX0_append_70 rfl ⟨_, rfl, rfl, hw⟩
def lpX0_append_11 (K : Mu → Prop)  : Nat → Int32 → Int32 → Mu → Prop
  | 0, _, _, _ => False
  | n + 1, v1, v2, m0 => (((40 : Int32) ≤ v2 → ∀ m6 : Mu, m6 = mu_up m0 2 1 (39 : Int32) → jnX0_append_43 K v1 m6) ∧ (¬ (40 : Int32) ≤ v2 → (vp_in v2 40 ∧ (vp_in (v2 - (1 : Int32)) 40 ∧ ∀ m7 : Mu, m7 = mu_up m0 0 ((v2 - (1 : Int32))).toNatClampNeg (m0 0 (v2).toNatClampNeg) → ∀ x8 : Int32, x8 = v2 + (1 : Int32) → lpX0_append_11 K n v1 x8 m7))))
set_option maxRecDepth 20000 in
theorem slpX0_append_11 {K : Mu → Prop} : ∀ (n : Nat) (v1 v2 : Int32) (m0 : Mu), lpX0_append_11 K n v1 v2 m0 → am_Ok mX0_append none (zV fX0 K) 0 0 11 [some (.ref 0), some (.int v1), some (.int v2)] [] (fX0 m0) := by
  intro n
  induction n with
  | zero => intro v1 v2 m0 hw; exact False.elim hw
  | succ n ih =>
    intro v1 v2 m0 hw
    unfold lpX0_append_11 at hw
    refine am_iload_n dX0_append_11 rfl ?_
    refine am_bipush dX0_append_12 bc_40 ?_
    refine am_icmp_ge 37 dX0_append_14 (by decide) (fun c5 => ?_) (fun c5 => ?_)
    · have hw := hw.1 c5
      refine am_aload_n dX0_append_37 rfl ?_
      refine am_bipush dX0_append_38 bc_39 ?_
      refine am_putf' (F := fX0) (m := mu_up m0 2 1 (39 : Int32)) dX0_append_40 fp_X0_15 rfl rfl rfl (fun m6 em6 => ?_)
      have hw := hw m6 em6
      refine am_forget (ls' := [some (.ref 0), some (.int v1), none]) [true, true, false] rfl ?_
      exact sjnX0_append_43  hw
    · have hw := hw.2 c5
      refine am_aload_n dX0_append_17 rfl ?_
      refine am_getf dX0_append_18 fl_X0_9 rfl rfl ?_
      refine am_iload_n dX0_append_21 rfl ?_
      refine am_iconst dX0_append_22 ic_1 ?_
      refine am_isub dX0_append_23 ?_
      refine am_aload_n dX0_append_24 rfl ?_
      refine am_getf dX0_append_25 fl_X0_9 rfl rfl ?_
      refine am_iload_n dX0_append_28 rfl ?_
      refine am_iaload dX0_append_29 rfl hw.1 ?_
      have hw := hw.2
      refine am_iastore' (F := fX0) (m := mu_up m0 0 ((v2 - (1 : Int32))).toNatClampNeg (m0 0 (v2).toNatClampNeg)) dX0_append_30 rfl hw.1 rfl (fun m7 em7 => ?_)
      have hw := hw.2 m7 em7
      refine am_iinc' (lf := fun y9 => [some (.ref 0), some (.int v1), some (.int y9)]) dX0_append_31 rfl rfl rfl ic_1 (fun _ => rfl) (fun x8 ex8 => ?_)
      have hw := hw x8 ex8
      refine am_goto 11 dX0_append_34 (by decide) ?_
      refine am_forget (ls' := [some (.ref 0), some (.int v1), some (.int x8)]) [true, true, true] rfl ?_
      exact ih _ _ _ hw
def wX0_append (a1 : Int32) (m0 : Mu) (K : Mu → Prop) : Prop := (((m0 2 1) < (40 : Int32) → jnX0_append_43 K a1 m0) ∧ (¬ (m0 2 1) < (40 : Int32) → (∃ n9 : Nat, lpX0_append_11 K n9 a1 (1 : Int32) m0)))
set_option maxRecDepth 20000 in
theorem sX0_append {a1 : Int32} {m0 : Mu} {K : Mu → Prop} (hw : wX0_append a1 m0 K) : am_Met mX0_append [.ref 0, .int a1] (fX0 m0) 0 0 (zV fX0 K) := by
  unfold wX0_append at hw
  refine am_Met.of2 (ls := [some (.ref 0), some (.int a1), none]) pf_X0_append rfl rfl rfl rfl ?_
  refine am_aload_n dX0_append_0 rfl ?_
  refine am_getf dX0_append_1 fl_X0_15 rfl rfl ?_
  refine am_bipush dX0_append_4 bc_40 ?_
  refine am_icmp_lt 43 dX0_append_6 (by decide) (fun c1 => ?_) (fun c1 => ?_)
  · have hw := hw.1 c1
    refine am_forget (ls' := [some (.ref 0), some (.int a1), none]) [true, true, false] rfl ?_
    exact sjnX0_append_43  hw
  · have hw := hw.2 c1
    refine am_iconst dX0_append_9 ic_1 ?_
    refine am_istore_n' (ls' := [some (.ref 0), some (.int a1), some (.int (1 : Int32))]) dX0_append_10 rfl rfl rfl ?_
    obtain ⟨n9, hw⟩ := hw
    refine am_forget (ls' := [some (.ref 0), some (.int a1), some (.int (1 : Int32))]) [true, true, true] rfl ?_
    exact slpX0_append_11  n9 _ _ _ hw

def wX0_forgetAll (m0 : Mu) (K : Mu → Prop) : Prop := ∀ m1 : Mu, m1 = mu_up m0 2 1 (0 : Int32) → K m1
set_option maxRecDepth 20000 in
theorem sX0_forgetAll {m0 : Mu} {K : Mu → Prop} (hw : wX0_forgetAll m0 K) : am_Met mX0_forgetAll [.ref 0] (fX0 m0) 0 0 (zV fX0 K) := by
  unfold wX0_forgetAll at hw
  refine am_Met.of2 (ls := [some (.ref 0)]) pf_X0_forgetAll rfl rfl rfl rfl ?_
  refine am_aload_n dX0_forgetAll_0 rfl ?_
  refine am_iconst dX0_forgetAll_1 ic_0 ?_
  refine am_putf' (F := fX0) (m := mu_up m0 2 1 (0 : Int32)) dX0_forgetAll_2 fp_X0_15 rfl rfl rfl (fun m1 em1 => ?_)
  have hw := hw m1 em1
  exact am_vreturn dX0_forgetAll_5 rfl ⟨_, rfl, rfl, hw⟩

def wX0_latest (a1 : Int32) (m0 : Mu) (K : Int32 → Prop) : Prop := ((a1 < 0 → K (-11 : Int32)) ∧ (¬ a1 < 0 → (((m0 2 1) ≤ a1 → K (-11 : Int32)) ∧ (¬ (m0 2 1) ≤ a1 → (((40 : Int32) < (m0 2 1) → K (-11 : Int32)) ∧ (¬ (40 : Int32) < (m0 2 1) → (vp_in (((m0 2 1) - (1 : Int32)) - a1) 40 ∧ K (m0 0 ((((m0 2 1) - (1 : Int32)) - a1)).toNatClampNeg))))))))
set_option maxRecDepth 20000 in
theorem sX0_latest {a1 : Int32} {m0 : Mu} {K : Int32 → Prop} (hw : wX0_latest a1 m0 K) : am_Met mX0_latest [.ref 0, .int a1] (fX0 m0) 0 0 (zP (fX0 m0) K) := by
  unfold wX0_latest at hw
  refine am_Met.of2 (ls := [some (.ref 0), some (.int a1)]) pf_X0_latest rfl rfl rfl rfl ?_
  refine am_iload_n dX0_latest_0 rfl ?_
  refine am_if_lt 37 dX0_latest_1 (by decide) (fun c1 => ?_) (fun c1 => ?_)
  · have hw := hw.1 c1
    refine am_bipush dX0_latest_37 bc_m11 ?_
    exact am_ireturn dX0_latest_39 rfl ⟨_, rfl, rfl, hw⟩
  · have hw := hw.2 c1
    refine am_iload_n dX0_latest_4 rfl ?_
    refine am_aload_n dX0_latest_5 rfl ?_
    refine am_getf dX0_latest_6 fl_X0_15 rfl rfl ?_
    refine am_icmp_ge 37 dX0_latest_9 (by decide) (fun c2 => ?_) (fun c2 => ?_)
    · have hw := hw.1 c2
      refine am_bipush dX0_latest_37 bc_m11 ?_
      exact am_ireturn dX0_latest_39 rfl ⟨_, rfl, rfl, hw⟩
    · have hw := hw.2 c2
      refine am_aload_n dX0_latest_12 rfl ?_
      refine am_getf dX0_latest_13 fl_X0_15 rfl rfl ?_
      refine am_bipush dX0_latest_16 bc_40 ?_
      refine am_icmp_gt 37 dX0_latest_18 (by decide) (fun c3 => ?_) (fun c3 => ?_)
      · have hw := hw.1 c3
        refine am_bipush dX0_latest_37 bc_m11 ?_
        exact am_ireturn dX0_latest_39 rfl ⟨_, rfl, rfl, hw⟩
      · have hw := hw.2 c3
        refine am_aload_n dX0_latest_21 rfl ?_
        refine am_getf dX0_latest_22 fl_X0_9 rfl rfl ?_
        refine am_aload_n dX0_latest_25 rfl ?_
        refine am_getf dX0_latest_26 fl_X0_15 rfl rfl ?_
        refine am_iconst dX0_latest_29 ic_1 ?_
        refine am_isub dX0_latest_30 ?_
        refine am_iload_n dX0_latest_31 rfl ?_
        refine am_isub dX0_latest_32 ?_
        refine am_iaload dX0_latest_33 rfl hw.1 ?_
        have hw := hw.2
        refine am_goto 39 dX0_latest_34 (by decide) ?_
        exact am_ireturn dX0_latest_39 rfl ⟨_, rfl, rfl, hw⟩

def wX0_removeLatest (m0 : Mu) (K : Int32 → Mu → Prop) : Prop := wX0_latest (0 : Int32) m0 (fun r1 : Int32 => ((r1 = (-11 : Int32) → K r1 m0) ∧ (¬ r1 = (-11 : Int32) → ∀ m3 : Mu, m3 = mu_up m0 2 1 ((m0 2 1) - (1 : Int32)) → K r1 m3)))
set_option maxRecDepth 20000 in
theorem sX0_removeLatest {m0 : Mu} {K : Int32 → Mu → Prop} (hw : wX0_removeLatest m0 K) : am_Met mX0_removeLatest [.ref 0] (fX0 m0) 0 0 (zI fX0 K) := by
  unfold wX0_removeLatest at hw
  refine am_Met.of2 (ls := [some (.ref 0), none]) pf_X0_removeLatest rfl rfl rfl rfl ?_
  refine am_aload_n dX0_removeLatest_0 rfl ?_
  refine am_iconst dX0_removeLatest_1 ic_0 ?_
  refine am_selfP fam_X0 rfl dX0_removeLatest_2 q_X0_removeLatest_19 rfl (sX0_latest hw) rfl rfl rfl rfl rfl (fun r1 hw => ?_)
  refine am_istore_n' (ls' := [some (.ref 0), some (.int r1)]) dX0_removeLatest_5 rfl rfl rfl ?_
  refine am_iload_n dX0_removeLatest_6 rfl ?_
  refine am_bipush dX0_removeLatest_7 bc_m11 ?_
  refine am_icmp_eq 22 dX0_removeLatest_9 (by decide) (fun c2 => ?_) (fun c2 => ?_)
  · have hw := hw.1 c2
    refine am_iload_n dX0_removeLatest_22 rfl ?_
    exact am_ireturn dX0_removeLatest_23 rfl ⟨_, _, rfl, rfl, hw⟩
  · have hw := hw.2 c2
    refine am_aload_n dX0_removeLatest_12 rfl ?_
    refine am_dup dX0_removeLatest_13 rfl ?_
    refine am_getf dX0_removeLatest_14 fl_X0_15 rfl rfl ?_
    refine am_iconst dX0_removeLatest_17 ic_1 ?_
    refine am_isub dX0_removeLatest_18 ?_
    refine am_putf' (F := fX0) (m := mu_up m0 2 1 ((m0 2 1) - (1 : Int32))) dX0_removeLatest_19 fp_X0_15 rfl rfl rfl (fun m3 em3 => ?_)
    have hw := hw m3 em3
    refine am_iload_n dX0_removeLatest_22 rfl ?_
    exact am_ireturn dX0_removeLatest_23 rfl ⟨_, _, rfl, rfl, hw⟩

def wX2_reset (m0 : Mu) (K : Mu → Prop) : Prop := ∀ m1 : Mu, m1 = mu_up m0 3 1 (0 : Int32) → ∀ m2 : Mu, m2 = mu_up m1 3 2 (0 : Int32) → K m2
set_option maxRecDepth 20000 in
theorem sX2_reset {m0 : Mu} {K : Mu → Prop} (hw : wX2_reset m0 K) : am_Met mX2_reset [.ref 0] (fX2 m0) 0 0 (zV fX2 K) := by
  unfold wX2_reset at hw
  refine am_Met.of2 (ls := [some (.ref 0)]) pf_X2_reset rfl rfl rfl rfl ?_
  refine am_aload_n dX2_reset_0 rfl ?_
  refine am_iconst dX2_reset_1 ic_0 ?_
  refine am_putf' (F := fX2) (m := mu_up m0 3 1 (0 : Int32)) dX2_reset_2 fp_X2_15 rfl rfl rfl (fun m1 em1 => ?_)
  have hw := hw m1 em1
  refine am_aload_n dX2_reset_5 rfl ?_
  refine am_iconst dX2_reset_6 ic_0 ?_
  refine am_putf' (F := fX2) (m := mu_up m1 3 2 (0 : Int32)) dX2_reset_7 fp_X2_19 rfl rfl rfl (fun m2 em2 => ?_)
  have hw := hw m2 em2
  exact am_vreturn dX2_reset_10 rfl ⟨_, rfl, rfl, hw⟩

def wX2_add (a1 : Int32) (m0 : Mu) (K : Mu → Prop) : Prop := (((m0 3 2) < 0 → K m0) ∧ (¬ (m0 3 2) < 0 → (((4032 : Int32) ≤ (m0 3 2) → K m0) ∧ (¬ (4032 : Int32) ≤ (m0 3 2) → (vp_in (m0 3 2) 4032 ∧ ∀ m3 : Mu, m3 = mu_up m0 0 ((m0 3 2)).toNatClampNeg a1 → ∀ m4 : Mu, m4 = mu_up m3 3 2 ((m3 3 2) + (1 : Int32)) → K m4)))))
set_option maxRecDepth 20000 in
theorem sX2_add {a1 : Int32} {m0 : Mu} {K : Mu → Prop} (hw : wX2_add a1 m0 K) : am_Met mX2_add [.ref 0, .int a1] (fX2 m0) 0 0 (zV fX2 K) := by
  unfold wX2_add at hw
  refine am_Met.of2 (ls := [some (.ref 0), some (.int a1)]) pf_X2_add rfl rfl rfl rfl ?_
  refine am_aload_n dX2_add_0 rfl ?_
  refine am_getf dX2_add_1 fl_X2_19 rfl rfl ?_
  refine am_if_lt 37 dX2_add_4 (by decide) (fun c1 => ?_) (fun c1 => ?_)
  · have hw := hw.1 c1
    exact am_vreturn dX2_add_37 rfl ⟨_, rfl, rfl, hw⟩
  · have hw := hw.2 c1
    refine am_aload_n dX2_add_7 rfl ?_
    refine am_getf dX2_add_8 fl_X2_19 rfl rfl ?_
    refine am_sipush dX2_add_11 sc_4032 ?_
    refine am_icmp_ge 37 dX2_add_14 (by decide) (fun c2 => ?_) (fun c2 => ?_)
    · have hw := hw.1 c2
      exact am_vreturn dX2_add_37 rfl ⟨_, rfl, rfl, hw⟩
    · have hw := hw.2 c2
      refine am_aload_n dX2_add_17 rfl ?_
      refine am_getf dX2_add_18 fl_X2_9 rfl rfl ?_
      refine am_aload_n dX2_add_21 rfl ?_
      refine am_getf dX2_add_22 fl_X2_19 rfl rfl ?_
      refine am_iload_n dX2_add_25 rfl ?_
      refine am_iastore' (F := fX2) (m := mu_up m0 0 ((m0 3 2)).toNatClampNeg a1) dX2_add_26 rfl hw.1 rfl (fun m3 em3 => ?_)
      have hw := hw.2 m3 em3
      refine am_aload_n dX2_add_27 rfl ?_
      refine am_dup dX2_add_28 rfl ?_
      refine am_getf dX2_add_29 fl_X2_19 rfl rfl ?_
      refine am_iconst dX2_add_32 ic_1 ?_
      refine am_iadd dX2_add_33 ?_
      refine am_putf' (F := fX2) (m := mu_up m3 3 2 ((m3 3 2) + (1 : Int32))) dX2_add_34 fp_X2_19 rfl rfl rfl (fun m4 em4 => ?_)
      have hw := hw m4 em4
      exact am_vreturn dX2_add_37 rfl ⟨_, rfl, rfl, hw⟩

def wX2_first (m0 : Mu) (K : Int32 → Prop) : Prop := (((m0 3 1) < 0 → K (-11 : Int32)) ∧ (¬ (m0 3 1) < 0 → (((m0 3 2) ≤ (m0 3 1) → K (-11 : Int32)) ∧ (¬ (m0 3 2) ≤ (m0 3 1) → (((4032 : Int32) ≤ (m0 3 1) → K (-11 : Int32)) ∧ (¬ (4032 : Int32) ≤ (m0 3 1) → (vp_in (m0 3 1) 4032 ∧ K (m0 0 ((m0 3 1)).toNatClampNeg))))))))
set_option maxRecDepth 20000 in
theorem sX2_first {m0 : Mu} {K : Int32 → Prop} (hw : wX2_first m0 K) : am_Met mX2_first [.ref 0] (fX2 m0) 0 0 (zP (fX2 m0) K) := by
  unfold wX2_first at hw
  refine am_Met.of2 (ls := [some (.ref 0)]) pf_X2_first rfl rfl rfl rfl ?_
  refine am_aload_n dX2_first_0 rfl ?_
  refine am_getf dX2_first_1 fl_X2_15 rfl rfl ?_
  refine am_if_lt 40 dX2_first_4 (by decide) (fun c1 => ?_) (fun c1 => ?_)
  · have hw := hw.1 c1
    refine am_bipush dX2_first_40 bc_m11 ?_
    exact am_ireturn dX2_first_42 rfl ⟨_, rfl, rfl, hw⟩
  · have hw := hw.2 c1
    refine am_aload_n dX2_first_7 rfl ?_
    refine am_getf dX2_first_8 fl_X2_15 rfl rfl ?_
    refine am_aload_n dX2_first_11 rfl ?_
    refine am_getf dX2_first_12 fl_X2_19 rfl rfl ?_
    refine am_icmp_ge 40 dX2_first_15 (by decide) (fun c2 => ?_) (fun c2 => ?_)
    · have hw := hw.1 c2
      refine am_bipush dX2_first_40 bc_m11 ?_
      exact am_ireturn dX2_first_42 rfl ⟨_, rfl, rfl, hw⟩
    · have hw := hw.2 c2
      refine am_aload_n dX2_first_18 rfl ?_
      refine am_getf dX2_first_19 fl_X2_15 rfl rfl ?_
      refine am_sipush dX2_first_22 sc_4032 ?_
      refine am_icmp_ge 40 dX2_first_25 (by decide) (fun c3 => ?_) (fun c3 => ?_)
      · have hw := hw.1 c3
        refine am_bipush dX2_first_40 bc_m11 ?_
        exact am_ireturn dX2_first_42 rfl ⟨_, rfl, rfl, hw⟩
      · have hw := hw.2 c3
        refine am_aload_n dX2_first_28 rfl ?_
        refine am_getf dX2_first_29 fl_X2_9 rfl rfl ?_
        refine am_aload_n dX2_first_32 rfl ?_
        refine am_getf dX2_first_33 fl_X2_15 rfl rfl ?_
        refine am_iaload dX2_first_36 rfl hw.1 ?_
        have hw := hw.2
        refine am_goto 42 dX2_first_37 (by decide) ?_
        exact am_ireturn dX2_first_42 rfl ⟨_, rfl, rfl, hw⟩

def wX2_removeFirst (m0 : Mu) (K : Int32 → Mu → Prop) : Prop := wX2_first m0 (fun r1 : Int32 => ((r1 = (-11 : Int32) → K r1 m0) ∧ (¬ r1 = (-11 : Int32) → ∀ m3 : Mu, m3 = mu_up m0 3 1 ((m0 3 1) + (1 : Int32)) → K r1 m3)))
set_option maxRecDepth 20000 in
theorem sX2_removeFirst {m0 : Mu} {K : Int32 → Mu → Prop} (hw : wX2_removeFirst m0 K) : am_Met mX2_removeFirst [.ref 0] (fX2 m0) 0 0 (zI fX2 K) := by
  unfold wX2_removeFirst at hw
  refine am_Met.of2 (ls := [some (.ref 0), none]) pf_X2_removeFirst rfl rfl rfl rfl ?_
  refine am_aload_n dX2_removeFirst_0 rfl ?_
  refine am_selfP fam_X2 rfl dX2_removeFirst_1 q_X2_removeFirst_22 rfl (sX2_first hw) rfl rfl rfl rfl rfl (fun r1 hw => ?_)
  refine am_istore_n' (ls' := [some (.ref 0), some (.int r1)]) dX2_removeFirst_4 rfl rfl rfl ?_
  refine am_iload_n dX2_removeFirst_5 rfl ?_
  refine am_bipush dX2_removeFirst_6 bc_m11 ?_
  refine am_icmp_eq 21 dX2_removeFirst_8 (by decide) (fun c2 => ?_) (fun c2 => ?_)
  · have hw := hw.1 c2
    refine am_iload_n dX2_removeFirst_21 rfl ?_
    exact am_ireturn dX2_removeFirst_22 rfl ⟨_, _, rfl, rfl, hw⟩
  · have hw := hw.2 c2
    refine am_aload_n dX2_removeFirst_11 rfl ?_
    refine am_dup dX2_removeFirst_12 rfl ?_
    refine am_getf dX2_removeFirst_13 fl_X2_15 rfl rfl ?_
    refine am_iconst dX2_removeFirst_16 ic_1 ?_
    refine am_iadd dX2_removeFirst_17 ?_
    refine am_putf' (F := fX2) (m := mu_up m0 3 1 ((m0 3 1) + (1 : Int32))) dX2_removeFirst_18 fp_X2_15 rfl rfl rfl (fun m3 em3 => ?_)
    have hw := hw m3 em3
    refine am_iload_n dX2_removeFirst_21 rfl ?_
    exact am_ireturn dX2_removeFirst_22 rfl ⟨_, _, rfl, rfl, hw⟩
end
section
def wX3_isLocomotive (a1 : Int32) (m0 : Mu) (K : Int32 → Prop) : Prop := ((a1 < 0 → K (0 : Int32)) ∧ (¬ a1 < 0 → (((m0 8 5) ≤ a1 → K (0 : Int32)) ∧ (¬ (m0 8 5) ≤ a1 → (((8 : Int32) ≤ a1 → K (0 : Int32)) ∧ (¬ (8 : Int32) ≤ a1 → K (1 : Int32)))))))
set_option maxRecDepth 20000 in
theorem sX3_isLocomotive {a1 : Int32} {m0 : Mu} {K : Int32 → Prop} (hw : wX3_isLocomotive a1 m0 K) : am_Met mX3_isLocomotive [.ref 0, .int a1] (fX3 m0) 0 0 (zP (fX3 m0) K) := by
  unfold wX3_isLocomotive at hw
  refine am_Met.of2 (ls := [some (.ref 0), some (.int a1)]) pf_X3_isLocomotive rfl rfl rfl rfl ?_
  refine am_iload_n dX3_isLocomotive_0 rfl ?_
  refine am_if_lt 22 dX3_isLocomotive_1 (by decide) (fun c1 => ?_) (fun c1 => ?_)
  · have hw := hw.1 c1
    refine am_iconst dX3_isLocomotive_22 ic_0 ?_
    exact am_zreturn dX3_isLocomotive_23 rfl rfl ⟨_, rfl, rfl, hw⟩
  · have hw := hw.2 c1
    refine am_iload_n dX3_isLocomotive_4 rfl ?_
    refine am_aload_n dX3_isLocomotive_5 rfl ?_
    refine am_getf dX3_isLocomotive_6 fl_X3_33 rfl rfl ?_
    refine am_icmp_ge 22 dX3_isLocomotive_9 (by decide) (fun c2 => ?_) (fun c2 => ?_)
    · have hw := hw.1 c2
      refine am_iconst dX3_isLocomotive_22 ic_0 ?_
      exact am_zreturn dX3_isLocomotive_23 rfl rfl ⟨_, rfl, rfl, hw⟩
    · have hw := hw.2 c2
      refine am_iload_n dX3_isLocomotive_12 rfl ?_
      refine am_bipush dX3_isLocomotive_13 bc_8 ?_
      refine am_icmp_ge 22 dX3_isLocomotive_15 (by decide) (fun c3 => ?_) (fun c3 => ?_)
      · have hw := hw.1 c3
        refine am_iconst dX3_isLocomotive_22 ic_0 ?_
        exact am_zreturn dX3_isLocomotive_23 rfl rfl ⟨_, rfl, rfl, hw⟩
      · have hw := hw.2 c3
        refine am_iconst dX3_isLocomotive_18 ic_1 ?_
        refine am_goto 23 dX3_isLocomotive_19 (by decide) ?_
        exact am_zreturn dX3_isLocomotive_23 rfl rfl ⟨_, rfl, rfl, hw⟩

def wX3_isAlive (a1 : Int32) (m0 : Mu) (K : Int32 → Prop) : Prop := wX3_isLocomotive a1 m0 (fun r1 : Int32 => ((r1 = 0 → K (0 : Int32)) ∧ (¬ r1 = 0 → (((((m0 8 6) >>> (a1 &&& 31)) &&& (1 : Int32)) = 0 → K (1 : Int32)) ∧ (¬ (((m0 8 6) >>> (a1 &&& 31)) &&& (1 : Int32)) = 0 → K (0 : Int32))))))
set_option maxRecDepth 20000 in
theorem sX3_isAlive {a1 : Int32} {m0 : Mu} {K : Int32 → Prop} (hw : wX3_isAlive a1 m0 K) : am_Met mX3_isAlive [.ref 0, .int a1] (fX3 m0) 0 0 (zP (fX3 m0) K) := by
  unfold wX3_isAlive at hw
  refine am_Met.of2 (ls := [some (.ref 0), some (.int a1)]) pf_X3_isAlive rfl rfl rfl rfl ?_
  refine am_aload_n dX3_isAlive_0 rfl ?_
  refine am_iload_n dX3_isAlive_1 rfl ?_
  refine am_selfP fam_X3 rfl dX3_isAlive_2 q_X3_isAlive_43 rfl (sX3_isLocomotive hw) rfl rfl rfl rfl rfl (fun r1 hw => ?_)
  refine am_if_eq 23 dX3_isAlive_5 (by decide) (fun c2 => ?_) (fun c2 => ?_)
  · have hw := hw.1 c2
    refine am_iconst dX3_isAlive_23 ic_0 ?_
    exact am_zreturn dX3_isAlive_24 rfl rfl ⟨_, rfl, rfl, hw⟩
  · have hw := hw.2 c2
    refine am_aload_n dX3_isAlive_8 rfl ?_
    refine am_getf dX3_isAlive_9 fl_X3_37 rfl rfl ?_
    refine am_iload_n dX3_isAlive_12 rfl ?_
    refine am_ishr dX3_isAlive_13 ?_
    refine am_iconst dX3_isAlive_14 ic_1 ?_
    refine am_iand dX3_isAlive_15 ?_
    refine am_if_ne 23 dX3_isAlive_16 (by decide) (fun c3 => ?_) (fun c3 => ?_)
    · have hw := hw.1 c3
      refine am_iconst dX3_isAlive_19 ic_1 ?_
      refine am_goto 24 dX3_isAlive_20 (by decide) ?_
      exact am_zreturn dX3_isAlive_24 rfl rfl ⟨_, rfl, rfl, hw⟩
    · have hw := hw.2 c3
      refine am_iconst dX3_isAlive_23 ic_0 ?_
      exact am_zreturn dX3_isAlive_24 rfl rfl ⟨_, rfl, rfl, hw⟩

def wX3_sizeOf (a1 : Int32) (m0 : Mu) (K : Int32 → Prop) : Prop := ((a1 < 0 → K (0 : Int32)) ∧ (¬ a1 < 0 → (((8 : Int32) ≤ a1 → K (0 : Int32)) ∧ (¬ (8 : Int32) ≤ a1 → (vp_in a1 8 ∧ K (m0 4 (a1).toNatClampNeg))))))
set_option maxRecDepth 20000 in
theorem sX3_sizeOf {a1 : Int32} {m0 : Mu} {K : Int32 → Prop} (hw : wX3_sizeOf a1 m0 K) : am_Met mX3_sizeOf [.ref 0, .int a1] (fX3 m0) 0 0 (zP (fX3 m0) K) := by
  unfold wX3_sizeOf at hw
  refine am_Met.of2 (ls := [some (.ref 0), some (.int a1)]) pf_X3_sizeOf rfl rfl rfl rfl ?_
  refine am_iload_n dX3_sizeOf_0 rfl ?_
  refine am_if_lt 19 dX3_sizeOf_1 (by decide) (fun c1 => ?_) (fun c1 => ?_)
  · have hw := hw.1 c1
    refine am_iconst dX3_sizeOf_19 ic_0 ?_
    exact am_ireturn dX3_sizeOf_20 rfl ⟨_, rfl, rfl, hw⟩
  · have hw := hw.2 c1
    refine am_iload_n dX3_sizeOf_4 rfl ?_
    refine am_bipush dX3_sizeOf_5 bc_8 ?_
    refine am_icmp_ge 19 dX3_sizeOf_7 (by decide) (fun c2 => ?_) (fun c2 => ?_)
    · have hw := hw.1 c2
      refine am_iconst dX3_sizeOf_19 ic_0 ?_
      exact am_ireturn dX3_sizeOf_20 rfl ⟨_, rfl, rfl, hw⟩
    · have hw := hw.2 c2
      refine am_aload_n dX3_sizeOf_10 rfl ?_
      refine am_getf dX3_sizeOf_11 fl_X3_24 rfl rfl ?_
      refine am_iload_n dX3_sizeOf_14 rfl ?_
      refine am_iaload dX3_sizeOf_15 rfl hw.1 ?_
      have hw := hw.2
      refine am_goto 20 dX3_sizeOf_16 (by decide) ?_
      exact am_ireturn dX3_sizeOf_20 rfl ⟨_, rfl, rfl, hw⟩

def wX3_lengthAt (a1 : Int32) (m0 : Mu) (K : Int32 → Prop) : Prop := ((a1 < 0 → K (0 : Int32)) ∧ (¬ a1 < 0 → (((13 : Int32) ≤ a1 → K (0 : Int32)) ∧ (¬ (13 : Int32) ≤ a1 → (vp_in a1 13 ∧ K (m0 0 (a1).toNatClampNeg))))))
set_option maxRecDepth 20000 in
theorem sX3_lengthAt {a1 : Int32} {m0 : Mu} {K : Int32 → Prop} (hw : wX3_lengthAt a1 m0 K) : am_Met mX3_lengthAt [.ref 0, .int a1] (fX3 m0) 0 0 (zP (fX3 m0) K) := by
  unfold wX3_lengthAt at hw
  refine am_Met.of2 (ls := [some (.ref 0), some (.int a1)]) pf_X3_lengthAt rfl rfl rfl rfl ?_
  refine am_iload_n dX3_lengthAt_0 rfl ?_
  refine am_if_lt 19 dX3_lengthAt_1 (by decide) (fun c1 => ?_) (fun c1 => ?_)
  · have hw := hw.1 c1
    refine am_iconst dX3_lengthAt_19 ic_0 ?_
    exact am_ireturn dX3_lengthAt_20 rfl ⟨_, rfl, rfl, hw⟩
  · have hw := hw.2 c1
    refine am_iload_n dX3_lengthAt_4 rfl ?_
    refine am_bipush dX3_lengthAt_5 bc_13 ?_
    refine am_icmp_ge 19 dX3_lengthAt_7 (by decide) (fun c2 => ?_) (fun c2 => ?_)
    · have hw := hw.1 c2
      refine am_iconst dX3_lengthAt_19 ic_0 ?_
      exact am_ireturn dX3_lengthAt_20 rfl ⟨_, rfl, rfl, hw⟩
    · have hw := hw.2 c2
      refine am_aload_n dX3_lengthAt_10 rfl ?_
      refine am_getf dX3_lengthAt_11 fl_X3_9 rfl rfl ?_
      refine am_iload_n dX3_lengthAt_14 rfl ?_
      refine am_iaload dX3_lengthAt_15 rfl hw.1 ?_
      have hw := hw.2
      refine am_goto 20 dX3_lengthAt_16 (by decide) ?_
      exact am_ireturn dX3_lengthAt_20 rfl ⟨_, rfl, rfl, hw⟩

def wX3_usedAt (a1 : Int32) (m0 : Mu) (K : Int32 → Prop) : Prop := ((a1 < 0 → K (0 : Int32)) ∧ (¬ a1 < 0 → (((13 : Int32) ≤ a1 → K (0 : Int32)) ∧ (¬ (13 : Int32) ≤ a1 → (vp_in a1 13 ∧ K (m0 1 (a1).toNatClampNeg))))))
set_option maxRecDepth 20000 in
theorem sX3_usedAt {a1 : Int32} {m0 : Mu} {K : Int32 → Prop} (hw : wX3_usedAt a1 m0 K) : am_Met mX3_usedAt [.ref 0, .int a1] (fX3 m0) 0 0 (zP (fX3 m0) K) := by
  unfold wX3_usedAt at hw
  refine am_Met.of2 (ls := [some (.ref 0), some (.int a1)]) pf_X3_usedAt rfl rfl rfl rfl ?_
  refine am_iload_n dX3_usedAt_0 rfl ?_
  refine am_if_lt 19 dX3_usedAt_1 (by decide) (fun c1 => ?_) (fun c1 => ?_)
  · have hw := hw.1 c1
    refine am_iconst dX3_usedAt_19 ic_0 ?_
    exact am_ireturn dX3_usedAt_20 rfl ⟨_, rfl, rfl, hw⟩
  · have hw := hw.2 c1
    refine am_iload_n dX3_usedAt_4 rfl ?_
    refine am_bipush dX3_usedAt_5 bc_13 ?_
    refine am_icmp_ge 19 dX3_usedAt_7 (by decide) (fun c2 => ?_) (fun c2 => ?_)
    · have hw := hw.1 c2
      refine am_iconst dX3_usedAt_19 ic_0 ?_
      exact am_ireturn dX3_usedAt_20 rfl ⟨_, rfl, rfl, hw⟩
    · have hw := hw.2 c2
      refine am_aload_n dX3_usedAt_10 rfl ?_
      refine am_getf dX3_usedAt_11 fl_X3_15 rfl rfl ?_
      refine am_iload_n dX3_usedAt_14 rfl ?_
      refine am_iaload dX3_usedAt_15 rfl hw.1 ?_
      have hw := hw.2
      refine am_goto 20 dX3_usedAt_16 (by decide) ?_
      exact am_ireturn dX3_usedAt_20 rfl ⟨_, rfl, rfl, hw⟩

def wX3_freeAt (a1 : Int32) (m0 : Mu) (K : Int32 → Prop) : Prop := wX3_lengthAt a1 m0 (fun r1 : Int32 => wX3_usedAt a1 m0 (fun r2 : Int32 => K (r1 - r2)))
set_option maxRecDepth 20000 in
theorem sX3_freeAt {a1 : Int32} {m0 : Mu} {K : Int32 → Prop} (hw : wX3_freeAt a1 m0 K) : am_Met mX3_freeAt [.ref 0, .int a1] (fX3 m0) 0 0 (zP (fX3 m0) K) := by
  unfold wX3_freeAt at hw
  refine am_Met.of2 (ls := [some (.ref 0), some (.int a1)]) pf_X3_freeAt rfl rfl rfl rfl ?_
  refine am_aload_n dX3_freeAt_0 rfl ?_
  refine am_iload_n dX3_freeAt_1 rfl ?_
  refine am_selfP fam_X3 rfl dX3_freeAt_2 q_X3_freeAt_47 rfl (sX3_lengthAt hw) rfl rfl rfl rfl rfl (fun r1 hw => ?_)
  refine am_aload_n dX3_freeAt_5 rfl ?_
  refine am_iload_n dX3_freeAt_6 rfl ?_
  refine am_selfP fam_X3 rfl dX3_freeAt_7 q_X3_freeAt_51 rfl (sX3_usedAt hw) rfl rfl rfl rfl rfl (fun r2 hw => ?_)
  refine am_isub dX3_freeAt_10 ?_
  exact am_ireturn dX3_freeAt_11 rfl ⟨_, rfl, rfl, hw⟩

def wX3_countAt (a1 : Int32) (m0 : Mu) (K : Int32 → Prop) : Prop := ((a1 < 0 → K (0 : Int32)) ∧ (¬ a1 < 0 → (((13 : Int32) ≤ a1 → K (0 : Int32)) ∧ (¬ (13 : Int32) ≤ a1 → (vp_in a1 13 ∧ K (m0 2 (a1).toNatClampNeg))))))
set_option maxRecDepth 20000 in
theorem sX3_countAt {a1 : Int32} {m0 : Mu} {K : Int32 → Prop} (hw : wX3_countAt a1 m0 K) : am_Met mX3_countAt [.ref 0, .int a1] (fX3 m0) 0 0 (zP (fX3 m0) K) := by
  unfold wX3_countAt at hw
  refine am_Met.of2 (ls := [some (.ref 0), some (.int a1)]) pf_X3_countAt rfl rfl rfl rfl ?_
  refine am_iload_n dX3_countAt_0 rfl ?_
  refine am_if_lt 19 dX3_countAt_1 (by decide) (fun c1 => ?_) (fun c1 => ?_)
  · have hw := hw.1 c1
    refine am_iconst dX3_countAt_19 ic_0 ?_
    exact am_ireturn dX3_countAt_20 rfl ⟨_, rfl, rfl, hw⟩
  · have hw := hw.2 c1
    refine am_iload_n dX3_countAt_4 rfl ?_
    refine am_bipush dX3_countAt_5 bc_13 ?_
    refine am_icmp_ge 19 dX3_countAt_7 (by decide) (fun c2 => ?_) (fun c2 => ?_)
    · have hw := hw.1 c2
      refine am_iconst dX3_countAt_19 ic_0 ?_
      exact am_ireturn dX3_countAt_20 rfl ⟨_, rfl, rfl, hw⟩
    · have hw := hw.2 c2
      refine am_aload_n dX3_countAt_10 rfl ?_
      refine am_getf dX3_countAt_11 fl_X3_18 rfl rfl ?_
      refine am_iload_n dX3_countAt_14 rfl ?_
      refine am_iaload dX3_countAt_15 rfl hw.1 ?_
      have hw := hw.2
      refine am_goto 20 dX3_countAt_16 (by decide) ?_
      exact am_ireturn dX3_countAt_20 rfl ⟨_, rfl, rfl, hw⟩

def wX3_locomotiveAt (a1 a2 : Int32) (m0 : Mu) (K : Int32 → Prop) : Prop := ((a1 < 0 → K (-11 : Int32)) ∧ (¬ a1 < 0 → (((13 : Int32) ≤ a1 → K (-11 : Int32)) ∧ (¬ (13 : Int32) ≤ a1 → ((a2 < 0 → K (-11 : Int32)) ∧ (¬ a2 < 0 → (vp_in a1 13 ∧ (((m0 2 (a1).toNatClampNeg) ≤ a2 → K (-11 : Int32)) ∧ (¬ (m0 2 (a1).toNatClampNeg) ≤ a2 → ((a2 < (8 : Int32) → (vp_in ((a1 * (8 : Int32)) + a2) 104 ∧ K (m0 3 (((a1 * (8 : Int32)) + a2)).toNatClampNeg))) ∧ (¬ a2 < (8 : Int32) → K (-11 : Int32))))))))))))
set_option maxRecDepth 20000 in
theorem sX3_locomotiveAt {a1 a2 : Int32} {m0 : Mu} {K : Int32 → Prop} (hw : wX3_locomotiveAt a1 a2 m0 K) : am_Met mX3_locomotiveAt [.ref 0, .int a1, .int a2] (fX3 m0) 0 0 (zP (fX3 m0) K) := by
  unfold wX3_locomotiveAt at hw
  refine am_Met.of2 (ls := [some (.ref 0), some (.int a1), some (.int a2)]) pf_X3_locomotiveAt rfl rfl rfl rfl ?_
  refine am_iload_n dX3_locomotiveAt_0 rfl ?_
  refine am_if_lt 30 dX3_locomotiveAt_1 (by decide) (fun c1 => ?_) (fun c1 => ?_)
  · have hw := hw.1 c1
    refine am_bipush dX3_locomotiveAt_30 bc_m11 ?_
    exact am_ireturn dX3_locomotiveAt_32 rfl ⟨_, rfl, rfl, hw⟩
  · have hw := hw.2 c1
    refine am_iload_n dX3_locomotiveAt_4 rfl ?_
    refine am_bipush dX3_locomotiveAt_5 bc_13 ?_
    refine am_icmp_ge 30 dX3_locomotiveAt_7 (by decide) (fun c2 => ?_) (fun c2 => ?_)
    · have hw := hw.1 c2
      refine am_bipush dX3_locomotiveAt_30 bc_m11 ?_
      exact am_ireturn dX3_locomotiveAt_32 rfl ⟨_, rfl, rfl, hw⟩
    · have hw := hw.2 c2
      refine am_iload_n dX3_locomotiveAt_10 rfl ?_
      refine am_if_lt 30 dX3_locomotiveAt_11 (by decide) (fun c3 => ?_) (fun c3 => ?_)
      · have hw := hw.1 c3
        refine am_bipush dX3_locomotiveAt_30 bc_m11 ?_
        exact am_ireturn dX3_locomotiveAt_32 rfl ⟨_, rfl, rfl, hw⟩
      · have hw := hw.2 c3
        refine am_iload_n dX3_locomotiveAt_14 rfl ?_
        refine am_aload_n dX3_locomotiveAt_15 rfl ?_
        refine am_getf dX3_locomotiveAt_16 fl_X3_18 rfl rfl ?_
        refine am_iload_n dX3_locomotiveAt_19 rfl ?_
        refine am_iaload dX3_locomotiveAt_20 rfl hw.1 ?_
        have hw := hw.2
        refine am_icmp_ge 30 dX3_locomotiveAt_21 (by decide) (fun c4 => ?_) (fun c4 => ?_)
        · have hw := hw.1 c4
          refine am_bipush dX3_locomotiveAt_30 bc_m11 ?_
          exact am_ireturn dX3_locomotiveAt_32 rfl ⟨_, rfl, rfl, hw⟩
        · have hw := hw.2 c4
          refine am_iload_n dX3_locomotiveAt_24 rfl ?_
          refine am_bipush dX3_locomotiveAt_25 bc_8 ?_
          refine am_icmp_lt 33 dX3_locomotiveAt_27 (by decide) (fun c5 => ?_) (fun c5 => ?_)
          · have hw := hw.1 c5
            refine am_aload_n dX3_locomotiveAt_33 rfl ?_
            refine am_getf dX3_locomotiveAt_34 fl_X3_21 rfl rfl ?_
            refine am_iload_n dX3_locomotiveAt_37 rfl ?_
            refine am_bipush dX3_locomotiveAt_38 bc_8 ?_
            refine am_imul dX3_locomotiveAt_40 ?_
            refine am_iload_n dX3_locomotiveAt_41 rfl ?_
            refine am_iadd dX3_locomotiveAt_42 ?_
            refine am_iaload dX3_locomotiveAt_43 rfl hw.1 ?_
            have hw := hw.2
            exact am_ireturn dX3_locomotiveAt_44 rfl ⟨_, rfl, rfl, hw⟩
          · have hw := hw.2 c5
            refine am_bipush dX3_locomotiveAt_30 bc_m11 ?_
            exact am_ireturn dX3_locomotiveAt_32 rfl ⟨_, rfl, rfl, hw⟩

def lpX3_indexIn_9 (m0 : Mu) (K : Int32 → Prop)  : Nat → Int32 → Int32 → Int32 → Int32 → Prop
  | 0, _, _, _, _ => False
  | n + 1, v1, v2, v3, v4 => ((v3 ≤ v4 → K (-11 : Int32)) ∧ (¬ v3 ≤ v4 → wX3_locomotiveAt v1 v4 m0 (fun r3 : Int32 => ((r3 = v2 → K v4) ∧ (¬ r3 = v2 → ∀ x5 : Int32, x5 = v4 + (1 : Int32) → lpX3_indexIn_9 m0 K n v1 v2 v3 x5)))))
set_option maxRecDepth 20000 in
theorem slpX3_indexIn_9 {m0 : Mu} {K : Int32 → Prop} : ∀ (n : Nat) (v1 v2 v3 v4 : Int32), lpX3_indexIn_9 m0 K n v1 v2 v3 v4 → am_Ok mX3_indexIn none (zP (fX3 m0) K) 0 0 9 [some (.ref 0), some (.int v1), some (.int v2), some (.int v3), some (.int v4)] [] (fX3 m0) := by
  intro n
  induction n with
  | zero => intro v1 v2 v3 v4 hw; exact False.elim hw
  | succ n ih =>
    intro v1 v2 v3 v4 hw
    unfold lpX3_indexIn_9 at hw
    refine am_iload dX3_indexIn_9 rfl ?_
    refine am_iload_n dX3_indexIn_11 rfl ?_
    refine am_icmp_ge 35 dX3_indexIn_12 (by decide) (fun c2 => ?_) (fun c2 => ?_)
    · have hw := hw.1 c2
      refine am_bipush dX3_indexIn_35 bc_m11 ?_
      exact am_ireturn dX3_indexIn_37 rfl ⟨_, rfl, rfl, hw⟩
    · have hw := hw.2 c2
      refine am_aload_n dX3_indexIn_15 rfl ?_
      refine am_iload_n dX3_indexIn_16 rfl ?_
      refine am_iload dX3_indexIn_17 rfl ?_
      refine am_selfP fam_X3 rfl dX3_indexIn_19 q_X3_indexIn_61 rfl (sX3_locomotiveAt hw) rfl rfl rfl rfl rfl (fun r3 hw => ?_)
      refine am_iload_n dX3_indexIn_22 rfl ?_
      refine am_icmp_ne 29 dX3_indexIn_23 (by decide) (fun c4 => ?_) (fun c4 => ?_)
      · have hw := hw.1 c4
        refine am_iload dX3_indexIn_26 rfl ?_
        exact am_ireturn dX3_indexIn_28 rfl ⟨_, rfl, rfl, hw⟩
      · have hw := hw.2 c4
        refine am_iinc' (lf := fun y9 => [some (.ref 0), some (.int v1), some (.int v2), some (.int v3), some (.int y9)]) dX3_indexIn_29 rfl rfl rfl ic_1 (fun _ => rfl) (fun x5 ex5 => ?_)
        have hw := hw x5 ex5
        refine am_goto 9 dX3_indexIn_32 (by decide) ?_
        refine am_forget (ls' := [some (.ref 0), some (.int v1), some (.int v2), some (.int v3), some (.int x5)]) [true, true, true, true, true] rfl ?_
        exact ih _ _ _ _ hw
def wX3_indexIn (a1 a2 : Int32) (m0 : Mu) (K : Int32 → Prop) : Prop := wX3_countAt a1 m0 (fun r1 : Int32 => (∃ n6 : Nat, lpX3_indexIn_9 m0 K n6 a1 a2 r1 (0 : Int32)))
set_option maxRecDepth 20000 in
theorem sX3_indexIn {a1 a2 : Int32} {m0 : Mu} {K : Int32 → Prop} (hw : wX3_indexIn a1 a2 m0 K) : am_Met mX3_indexIn [.ref 0, .int a1, .int a2] (fX3 m0) 0 0 (zP (fX3 m0) K) := by
  unfold wX3_indexIn at hw
  refine am_Met.of2 (ls := [some (.ref 0), some (.int a1), some (.int a2), none, none]) pf_X3_indexIn rfl rfl rfl rfl ?_
  refine am_aload_n dX3_indexIn_0 rfl ?_
  refine am_iload_n dX3_indexIn_1 rfl ?_
  refine am_selfP fam_X3 rfl dX3_indexIn_2 q_X3_indexIn_58 rfl (sX3_countAt hw) rfl rfl rfl rfl rfl (fun r1 hw => ?_)
  refine am_istore_n' (ls' := [some (.ref 0), some (.int a1), some (.int a2), some (.int r1), none]) dX3_indexIn_5 rfl rfl rfl ?_
  refine am_iconst dX3_indexIn_6 ic_0 ?_
  refine am_istore' (ls' := [some (.ref 0), some (.int a1), some (.int a2), some (.int r1), some (.int (0 : Int32))]) dX3_indexIn_7 rfl rfl rfl ?_
  obtain ⟨n6, hw⟩ := hw
  refine am_forget (ls' := [some (.ref 0), some (.int a1), some (.int a2), some (.int r1), some (.int (0 : Int32))]) [true, true, true, true, true] rfl ?_
  exact slpX3_indexIn_9  n6 _ _ _ _ hw

def lpX3_placeOf_2 (m0 : Mu) (K : Int32 → Prop)  : Nat → Int32 → Int32 → Prop
  | 0, _, _ => False
  | n + 1, v1, v2 => (((13 : Int32) ≤ v2 → K (-11 : Int32)) ∧ (¬ (13 : Int32) ≤ v2 → wX3_indexIn v2 v1 m0 (fun r2 : Int32 => ((r2 = (-11 : Int32) → ∀ x4 : Int32, x4 = v2 + (1 : Int32) → lpX3_placeOf_2 m0 K n v1 x4) ∧ (¬ r2 = (-11 : Int32) → K v2)))))
set_option maxRecDepth 20000 in
theorem slpX3_placeOf_2 {m0 : Mu} {K : Int32 → Prop} : ∀ (n : Nat) (v1 v2 : Int32), lpX3_placeOf_2 m0 K n v1 v2 → am_Ok mX3_placeOf none (zP (fX3 m0) K) 0 0 2 [some (.ref 0), some (.int v1), some (.int v2)] [] (fX3 m0) := by
  intro n
  induction n with
  | zero => intro v1 v2 hw; exact False.elim hw
  | succ n ih =>
    intro v1 v2 hw
    unfold lpX3_placeOf_2 at hw
    refine am_iload_n dX3_placeOf_2 rfl ?_
    refine am_bipush dX3_placeOf_3 bc_13 ?_
    refine am_icmp_ge 27 dX3_placeOf_5 (by decide) (fun c1 => ?_) (fun c1 => ?_)
    · have hw := hw.1 c1
      refine am_bipush dX3_placeOf_27 bc_m11 ?_
      exact am_ireturn dX3_placeOf_29 rfl ⟨_, rfl, rfl, hw⟩
    · have hw := hw.2 c1
      refine am_aload_n dX3_placeOf_8 rfl ?_
      refine am_iload_n dX3_placeOf_9 rfl ?_
      refine am_iload_n dX3_placeOf_10 rfl ?_
      refine am_selfP fam_X3 rfl dX3_placeOf_11 q_X3_placeOf_54 rfl (sX3_indexIn hw) rfl rfl rfl rfl rfl (fun r2 hw => ?_)
      refine am_bipush dX3_placeOf_14 bc_m11 ?_
      refine am_icmp_eq 21 dX3_placeOf_16 (by decide) (fun c3 => ?_) (fun c3 => ?_)
      · have hw := hw.1 c3
        refine am_iinc' (lf := fun y9 => [some (.ref 0), some (.int v1), some (.int y9)]) dX3_placeOf_21 rfl rfl rfl ic_1 (fun _ => rfl) (fun x4 ex4 => ?_)
        have hw := hw x4 ex4
        refine am_goto 2 dX3_placeOf_24 (by decide) ?_
        refine am_forget (ls' := [some (.ref 0), some (.int v1), some (.int x4)]) [true, true, true] rfl ?_
        exact ih _ _ hw
      · have hw := hw.2 c3
        refine am_iload_n dX3_placeOf_19 rfl ?_
        exact am_ireturn dX3_placeOf_20 rfl ⟨_, rfl, rfl, hw⟩
def wX3_placeOf (a1 : Int32) (m0 : Mu) (K : Int32 → Prop) : Prop := (∃ n5 : Nat, lpX3_placeOf_2 m0 K n5 a1 (0 : Int32))
set_option maxRecDepth 20000 in
theorem sX3_placeOf {a1 : Int32} {m0 : Mu} {K : Int32 → Prop} (hw : wX3_placeOf a1 m0 K) : am_Met mX3_placeOf [.ref 0, .int a1] (fX3 m0) 0 0 (zP (fX3 m0) K) := by
  unfold wX3_placeOf at hw
  refine am_Met.of2 (ls := [some (.ref 0), some (.int a1), none]) pf_X3_placeOf rfl rfl rfl rfl ?_
  refine am_iconst dX3_placeOf_0 ic_0 ?_
  refine am_istore_n' (ls' := [some (.ref 0), some (.int a1), some (.int (0 : Int32))]) dX3_placeOf_1 rfl rfl rfl ?_
  obtain ⟨n5, hw⟩ := hw
  refine am_forget (ls' := [some (.ref 0), some (.int a1), some (.int (0 : Int32))]) [true, true, true] rfl ?_
  exact slpX3_placeOf_2  n5 _ _ hw

def lpX3_trackCount_4 (m0 : Mu) (K : Int32 → Prop)  : Nat → Int32 → Int32 → Prop
  | 0, _, _ => False
  | n + 1, v1, v2 => (((12 : Int32) ≤ v2 → K v1) ∧ (¬ (12 : Int32) ≤ v2 → (vp_in v2 13 ∧ (((m0 0 (v2).toNatClampNeg) ≤ 0 → ∀ x3 : Int32, x3 = v2 + (1 : Int32) → lpX3_trackCount_4 m0 K n v1 x3) ∧ (¬ (m0 0 (v2).toNatClampNeg) ≤ 0 → ∀ x4 : Int32, x4 = v1 + (1 : Int32) → ∀ x5 : Int32, x5 = v2 + (1 : Int32) → lpX3_trackCount_4 m0 K n x4 x5)))))
set_option maxRecDepth 20000 in
theorem slpX3_trackCount_4 {m0 : Mu} {K : Int32 → Prop} : ∀ (n : Nat) (v1 v2 : Int32), lpX3_trackCount_4 m0 K n v1 v2 → am_Ok mX3_trackCount none (zP (fX3 m0) K) 0 0 4 [some (.ref 0), some (.int v1), some (.int v2)] [] (fX3 m0) := by
  intro n
  induction n with
  | zero => intro v1 v2 hw; exact False.elim hw
  | succ n ih =>
    intro v1 v2 hw
    unfold lpX3_trackCount_4 at hw
    refine am_iload_n dX3_trackCount_4 rfl ?_
    refine am_bipush dX3_trackCount_5 bc_12 ?_
    refine am_icmp_ge 28 dX3_trackCount_7 (by decide) (fun c1 => ?_) (fun c1 => ?_)
    · have hw := hw.1 c1
      refine am_iload_n dX3_trackCount_28 rfl ?_
      exact am_ireturn dX3_trackCount_29 rfl ⟨_, rfl, rfl, hw⟩
    · have hw := hw.2 c1
      refine am_aload_n dX3_trackCount_10 rfl ?_
      refine am_getf dX3_trackCount_11 fl_X3_9 rfl rfl ?_
      refine am_iload_n dX3_trackCount_14 rfl ?_
      refine am_iaload dX3_trackCount_15 rfl hw.1 ?_
      have hw := hw.2
      refine am_if_le 22 dX3_trackCount_16 (by decide) (fun c2 => ?_) (fun c2 => ?_)
      · have hw := hw.1 c2
        refine am_iinc' (lf := fun y9 => [some (.ref 0), some (.int v1), some (.int y9)]) dX3_trackCount_22 rfl rfl rfl ic_1 (fun _ => rfl) (fun x3 ex3 => ?_)
        have hw := hw x3 ex3
        refine am_goto 4 dX3_trackCount_25 (by decide) ?_
        refine am_forget (ls' := [some (.ref 0), some (.int v1), some (.int x3)]) [true, true, true] rfl ?_
        exact ih _ _ hw
      · have hw := hw.2 c2
        refine am_iinc' (lf := fun y9 => [some (.ref 0), some (.int y9), some (.int v2)]) dX3_trackCount_19 rfl rfl rfl ic_1 (fun _ => rfl) (fun x4 ex4 => ?_)
        have hw := hw x4 ex4
        refine am_iinc' (lf := fun y9 => [some (.ref 0), some (.int x4), some (.int y9)]) dX3_trackCount_22 rfl rfl rfl ic_1 (fun _ => rfl) (fun x5 ex5 => ?_)
        have hw := hw x5 ex5
        refine am_goto 4 dX3_trackCount_25 (by decide) ?_
        refine am_forget (ls' := [some (.ref 0), some (.int x4), some (.int x5)]) [true, true, true] rfl ?_
        exact ih _ _ hw
def wX3_trackCount (m0 : Mu) (K : Int32 → Prop) : Prop := (∃ n6 : Nat, lpX3_trackCount_4 m0 K n6 (0 : Int32) (0 : Int32))
set_option maxRecDepth 20000 in
theorem sX3_trackCount {m0 : Mu} {K : Int32 → Prop} (hw : wX3_trackCount m0 K) : am_Met mX3_trackCount [.ref 0] (fX3 m0) 0 0 (zP (fX3 m0) K) := by
  unfold wX3_trackCount at hw
  refine am_Met.of2 (ls := [some (.ref 0), none, none]) pf_X3_trackCount rfl rfl rfl rfl ?_
  refine am_iconst dX3_trackCount_0 ic_0 ?_
  refine am_istore_n' (ls' := [some (.ref 0), some (.int (0 : Int32)), none]) dX3_trackCount_1 rfl rfl rfl ?_
  refine am_iconst dX3_trackCount_2 ic_0 ?_
  refine am_istore_n' (ls' := [some (.ref 0), some (.int (0 : Int32)), some (.int (0 : Int32))]) dX3_trackCount_3 rfl rfl rfl ?_
  obtain ⟨n6, hw⟩ := hw
  refine am_forget (ls' := [some (.ref 0), some (.int (0 : Int32)), some (.int (0 : Int32))]) [true, true, true] rfl ?_
  exact slpX3_trackCount_4  n6 _ _ hw

def wX3_positionAt (a1 : Int32) (m0 : Mu) (K : Int32 → Prop) : Prop := ((a1 = 0 → K (m0 8 7)) ∧ (¬ a1 = 0 → K (am_rem ((m0 8 7) + (6 : Int32)) (12 : Int32))))
set_option maxRecDepth 20000 in
theorem sX3_positionAt {a1 : Int32} {m0 : Mu} {K : Int32 → Prop} (hw : wX3_positionAt a1 m0 K) : am_Met mX3_positionAt [.ref 0, .int a1] (fX3 m0) 0 0 (zP (fX3 m0) K) := by
  unfold wX3_positionAt at hw
  refine am_Met.of2 (ls := [some (.ref 0), some (.int a1)]) pf_X3_positionAt rfl rfl rfl rfl ?_
  refine am_iload_n dX3_positionAt_0 rfl ?_
  refine am_if_ne 11 dX3_positionAt_1 (by decide) (fun c1 => ?_) (fun c1 => ?_)
  · have hw := hw.1 c1
    refine am_aload_n dX3_positionAt_4 rfl ?_
    refine am_getf dX3_positionAt_5 fl_X3_40 rfl rfl ?_
    refine am_goto 21 dX3_positionAt_8 (by decide) ?_
    exact am_ireturn dX3_positionAt_21 rfl ⟨_, rfl, rfl, hw⟩
  · have hw := hw.2 c1
    refine am_aload_n dX3_positionAt_11 rfl ?_
    refine am_getf dX3_positionAt_12 fl_X3_40 rfl rfl ?_
    refine am_bipush dX3_positionAt_15 bc_6 ?_
    refine am_iadd dX3_positionAt_17 ?_
    refine am_bipush dX3_positionAt_18 bc_12 ?_
    refine am_irem' dX3_positionAt_20 nz_12 ?_
    exact am_ireturn dX3_positionAt_21 rfl ⟨_, rfl, rfl, hw⟩

def wX3_setLength (a1 a2 : Int32) (m0 : Mu) (K : Mu → Prop) : Prop := ((a1 < 0 → K m0) ∧ (¬ a1 < 0 → (((13 : Int32) ≤ a1 → K m0) ∧ (¬ (13 : Int32) ≤ a1 → (vp_in a1 13 ∧ ∀ m3 : Mu, m3 = mu_up m0 0 (a1).toNatClampNeg a2 → K m3)))))
set_option maxRecDepth 20000 in
theorem sX3_setLength {a1 a2 : Int32} {m0 : Mu} {K : Mu → Prop} (hw : wX3_setLength a1 a2 m0 K) : am_Met mX3_setLength [.ref 0, .int a1, .int a2] (fX3 m0) 0 0 (zV fX3 K) := by
  unfold wX3_setLength at hw
  refine am_Met.of2 (ls := [some (.ref 0), some (.int a1), some (.int a2)]) pf_X3_setLength rfl rfl rfl rfl ?_
  refine am_iload_n dX3_setLength_0 rfl ?_
  refine am_if_lt 17 dX3_setLength_1 (by decide) (fun c1 => ?_) (fun c1 => ?_)
  · have hw := hw.1 c1
    exact am_vreturn dX3_setLength_17 rfl ⟨_, rfl, rfl, hw⟩
  · have hw := hw.2 c1
    refine am_iload_n dX3_setLength_4 rfl ?_
    refine am_bipush dX3_setLength_5 bc_13 ?_
    refine am_icmp_ge 17 dX3_setLength_7 (by decide) (fun c2 => ?_) (fun c2 => ?_)
    · have hw := hw.1 c2
      exact am_vreturn dX3_setLength_17 rfl ⟨_, rfl, rfl, hw⟩
    · have hw := hw.2 c2
      refine am_aload_n dX3_setLength_10 rfl ?_
      refine am_getf dX3_setLength_11 fl_X3_9 rfl rfl ?_
      refine am_iload_n dX3_setLength_14 rfl ?_
      refine am_iload_n dX3_setLength_15 rfl ?_
      refine am_iastore' (F := fX3) (m := mu_up m0 0 (a1).toNatClampNeg a2) dX3_setLength_16 rfl hw.1 rfl (fun m3 em3 => ?_)
      have hw := hw.2 m3 em3
      exact am_vreturn dX3_setLength_17 rfl ⟨_, rfl, rfl, hw⟩

def wX3_markDead (a1 a2 : Int32) (m0 : Mu) (K : Mu → Prop) : Prop := wX3_isLocomotive a1 m0 (fun r1 : Int32 => ((r1 = 0 → K m0) ∧ (¬ r1 = 0 → ∀ x3 : Int32, x3 = ((1 : Int32) <<< (a1 &&& 31)) → ((a2 = 0 → ∀ m5 : Mu, m5 = mu_up m0 8 6 ((m0 8 6) &&& (x3 ^^^ (-1 : Int32))) → K m5) ∧ (¬ a2 = 0 → ∀ m6 : Mu, m6 = mu_up m0 8 6 ((m0 8 6) ||| x3) → K m6)))))
set_option maxRecDepth 20000 in
theorem sX3_markDead {a1 a2 : Int32} {m0 : Mu} {K : Mu → Prop} (hw : wX3_markDead a1 a2 m0 K) : am_Met mX3_markDead [.ref 0, .int a1, .int a2] (fX3 m0) 0 0 (zV fX3 K) := by
  unfold wX3_markDead at hw
  refine am_Met.of2 (ls := [some (.ref 0), some (.int a1), some (.int a2), none]) pf_X3_markDead rfl rfl rfl rfl ?_
  refine am_aload_n dX3_markDead_0 rfl ?_
  refine am_iload_n dX3_markDead_1 rfl ?_
  refine am_selfP fam_X3 rfl dX3_markDead_2 q_X3_markDead_43 rfl (sX3_isLocomotive hw) rfl rfl rfl rfl rfl (fun r1 hw => ?_)
  refine am_if_eq 37 dX3_markDead_5 (by decide) (fun c2 => ?_) (fun c2 => ?_)
  · have hw := hw.1 c2
    exact am_vreturn dX3_markDead_37 rfl ⟨_, rfl, rfl, hw⟩
  · have hw := hw.2 c2
    refine am_iconst dX3_markDead_8 ic_1 ?_
    refine am_iload_n dX3_markDead_9 rfl ?_
    refine am_ishl dX3_markDead_10 ?_
    refine am_top (fun x3 ex3 => ?_)
    have hw := hw x3 ex3
    refine am_istore_n' (ls' := [some (.ref 0), some (.int a1), some (.int a2), some (.int x3)]) dX3_markDead_11 rfl rfl rfl ?_
    refine am_aload_n dX3_markDead_12 rfl ?_
    refine am_iload_n dX3_markDead_13 rfl ?_
    refine am_if_eq 26 dX3_markDead_14 (by decide) (fun c4 => ?_) (fun c4 => ?_)
    · have hw := hw.1 c4
      refine am_aload_n dX3_markDead_26 rfl ?_
      refine am_getf dX3_markDead_27 fl_X3_37 rfl rfl ?_
      refine am_iload_n dX3_markDead_30 rfl ?_
      refine am_iconst dX3_markDead_31 ic_m1 ?_
      refine am_ixor dX3_markDead_32 ?_
      refine am_iand dX3_markDead_33 ?_
      refine am_putf' (F := fX3) (m := mu_up m0 8 6 ((m0 8 6) &&& (x3 ^^^ (-1 : Int32)))) dX3_markDead_34 fp_X3_37 rfl rfl rfl (fun m5 em5 => ?_)
      have hw := hw m5 em5
      exact am_vreturn dX3_markDead_37 rfl ⟨_, rfl, rfl, hw⟩
    · have hw := hw.2 c4
      refine am_aload_n dX3_markDead_17 rfl ?_
      refine am_getf dX3_markDead_18 fl_X3_37 rfl rfl ?_
      refine am_iload_n dX3_markDead_21 rfl ?_
      refine am_ior dX3_markDead_22 ?_
      refine am_goto 34 dX3_markDead_23 (by decide) ?_
      refine am_putf' (F := fX3) (m := mu_up m0 8 6 ((m0 8 6) ||| x3)) dX3_markDead_34 fp_X3_37 rfl rfl rfl (fun m6 em6 => ?_)
      have hw := hw m6 em6
      exact am_vreturn dX3_markDead_37 rfl ⟨_, rfl, rfl, hw⟩

def lpX3_putIn_45 (K : Mu → Prop)  : Nat → Int32 → Int32 → Int32 → Int32 → Int32 → Mu → Prop
  | 0, _, _, _, _, _, _ => False
  | n + 1, v1, v2, v3, v5, v6, m0 => ((v6 ≤ v2 → (vp_in (v5 + v2) 104 ∧ ∀ m9 : Mu, m9 = mu_up m0 3 ((v5 + v2)).toNatClampNeg v3 → (vp_in v1 13 ∧ (vp_in v1 13 ∧ ∀ m10 : Mu, m10 = mu_up m9 2 (v1).toNatClampNeg ((m9 2 (v1).toNatClampNeg) + (1 : Int32)) → (vp_in v1 13 ∧ wX3_sizeOf v3 m10 (fun r11 : Int32 => (vp_in v1 13 ∧ ∀ m12 : Mu, m12 = mu_up m10 1 (v1).toNatClampNeg ((m10 1 (v1).toNatClampNeg) + r11) → K m12))))))) ∧ (¬ v6 ≤ v2 → (vp_in ((v5 + v6) - (1 : Int32)) 104 ∧ (vp_in (v5 + v6) 104 ∧ ∀ m13 : Mu, m13 = mu_up m0 3 ((v5 + v6)).toNatClampNeg (m0 3 (((v5 + v6) - (1 : Int32))).toNatClampNeg) → ∀ x14 : Int32, x14 = v6 + (-1 : Int32) → lpX3_putIn_45 K n v1 v2 v3 v5 x14 m13))))
set_option maxRecDepth 20000 in
theorem slpX3_putIn_45 {K : Mu → Prop} : ∀ (n : Nat) (v1 v2 v3 v5 v6 : Int32) (m0 : Mu), lpX3_putIn_45 K n v1 v2 v3 v5 v6 m0 → am_Ok mX3_putIn none (zV fX3 K) 0 0 45 [some (.ref 0), some (.int v1), some (.int v2), some (.int v3), none, some (.int v5), some (.int v6)] [] (fX3 m0) := by
  intro n
  induction n with
  | zero => intro v1 v2 v3 v5 v6 m0 hw; exact False.elim hw
  | succ n ih =>
    intro v1 v2 v3 v5 v6 m0 hw
    unfold lpX3_putIn_45 at hw
    refine am_iload dX3_putIn_45 rfl ?_
    refine am_iload_n dX3_putIn_47 rfl ?_
    refine am_icmp_le 79 dX3_putIn_48 (by decide) (fun c8 => ?_) (fun c8 => ?_)
    · have hw := hw.1 c8
      refine am_aload_n dX3_putIn_79 rfl ?_
      refine am_getf dX3_putIn_80 fl_X3_21 rfl rfl ?_
      refine am_iload dX3_putIn_83 rfl ?_
      refine am_iload_n dX3_putIn_85 rfl ?_
      refine am_iadd dX3_putIn_86 ?_
      refine am_iload_n dX3_putIn_87 rfl ?_
      refine am_iastore' (F := fX3) (m := mu_up m0 3 ((v5 + v2)).toNatClampNeg v3) dX3_putIn_88 rfl hw.1 rfl (fun m9 em9 => ?_)
      have hw := hw.2 m9 em9
      refine am_aload_n dX3_putIn_89 rfl ?_
      refine am_getf dX3_putIn_90 fl_X3_18 rfl rfl ?_
      refine am_iload_n dX3_putIn_93 rfl ?_
      refine am_dup2 dX3_putIn_94 rfl rfl ?_
      refine am_iaload dX3_putIn_95 rfl hw.1 ?_
      have hw := hw.2
      refine am_iconst dX3_putIn_96 ic_1 ?_
      refine am_iadd dX3_putIn_97 ?_
      refine am_iastore' (F := fX3) (m := mu_up m9 2 (v1).toNatClampNeg ((m9 2 (v1).toNatClampNeg) + (1 : Int32))) dX3_putIn_98 rfl hw.1 rfl (fun m10 em10 => ?_)
      have hw := hw.2 m10 em10
      refine am_aload_n dX3_putIn_99 rfl ?_
      refine am_getf dX3_putIn_100 fl_X3_15 rfl rfl ?_
      refine am_iload_n dX3_putIn_103 rfl ?_
      refine am_dup2 dX3_putIn_104 rfl rfl ?_
      refine am_iaload dX3_putIn_105 rfl hw.1 ?_
      have hw := hw.2
      refine am_aload_n dX3_putIn_106 rfl ?_
      refine am_iload_n dX3_putIn_107 rfl ?_
      refine am_selfP fam_X3 rfl dX3_putIn_108 q_X3_putIn_78 rfl (sX3_sizeOf hw) rfl rfl rfl rfl rfl (fun r11 hw => ?_)
      refine am_iadd dX3_putIn_111 ?_
      refine am_iastore' (F := fX3) (m := mu_up m10 1 (v1).toNatClampNeg ((m10 1 (v1).toNatClampNeg) + r11)) dX3_putIn_112 rfl hw.1 rfl (fun m12 em12 => ?_)
      have hw := hw.2 m12 em12
      exact am_vreturn dX3_putIn_113 rfl ⟨_, rfl, rfl, hw⟩
    · have hw := hw.2 c8
      refine am_aload_n dX3_putIn_51 rfl ?_
      refine am_getf dX3_putIn_52 fl_X3_21 rfl rfl ?_
      refine am_iload dX3_putIn_55 rfl ?_
      refine am_iload dX3_putIn_57 rfl ?_
      refine am_iadd dX3_putIn_59 ?_
      refine am_aload_n dX3_putIn_60 rfl ?_
      refine am_getf dX3_putIn_61 fl_X3_21 rfl rfl ?_
      refine am_iload dX3_putIn_64 rfl ?_
      refine am_iload dX3_putIn_66 rfl ?_
      refine am_iadd dX3_putIn_68 ?_
      refine am_iconst dX3_putIn_69 ic_1 ?_
      refine am_isub dX3_putIn_70 ?_
      refine am_iaload dX3_putIn_71 rfl hw.1 ?_
      have hw := hw.2
      refine am_iastore' (F := fX3) (m := mu_up m0 3 ((v5 + v6)).toNatClampNeg (m0 3 (((v5 + v6) - (1 : Int32))).toNatClampNeg)) dX3_putIn_72 rfl hw.1 rfl (fun m13 em13 => ?_)
      have hw := hw.2 m13 em13
      refine am_iinc' (lf := fun y9 => [some (.ref 0), some (.int v1), some (.int v2), some (.int v3), none, some (.int v5), some (.int y9)]) dX3_putIn_73 rfl rfl rfl ic_m1 (fun _ => rfl) (fun x14 ex14 => ?_)
      have hw := hw x14 ex14
      refine am_goto 45 dX3_putIn_76 (by decide) ?_
      refine am_forget (ls' := [some (.ref 0), some (.int v1), some (.int v2), some (.int v3), none, some (.int v5), some (.int x14)]) [true, true, true, true, false, true, true] rfl ?_
      exact ih _ _ _ _ _ _ hw
def wX3_putIn (a1 a2 a3 : Int32) (m0 : Mu) (K : Mu → Prop) : Prop := wX3_countAt a1 m0 (fun r1 : Int32 => ((a1 < 0 → K m0) ∧ (¬ a1 < 0 → (((13 : Int32) ≤ a1 → K m0) ∧ (¬ (13 : Int32) ≤ a1 → ((a2 < 0 → K m0) ∧ (¬ a2 < 0 → ((r1 < a2 → K m0) ∧ (¬ r1 < a2 → ((r1 < (8 : Int32) → ∀ x7 : Int32, x7 = (a1 * (8 : Int32)) → (∃ n15 : Nat, lpX3_putIn_45 K n15 a1 a2 a3 x7 r1 m0)) ∧ (¬ r1 < (8 : Int32) → K m0)))))))))))
set_option maxRecDepth 20000 in
theorem sX3_putIn {a1 a2 a3 : Int32} {m0 : Mu} {K : Mu → Prop} (hw : wX3_putIn a1 a2 a3 m0 K) : am_Met mX3_putIn [.ref 0, .int a1, .int a2, .int a3] (fX3 m0) 0 0 (zV fX3 K) := by
  unfold wX3_putIn at hw
  refine am_Met.of2 (ls := [some (.ref 0), some (.int a1), some (.int a2), some (.int a3), none, none, none]) pf_X3_putIn rfl rfl rfl rfl ?_
  refine am_aload_n dX3_putIn_0 rfl ?_
  refine am_iload_n dX3_putIn_1 rfl ?_
  refine am_selfP fam_X3 rfl dX3_putIn_2 q_X3_putIn_58 rfl (sX3_countAt hw) rfl rfl rfl rfl rfl (fun r1 hw => ?_)
  refine am_istore' (ls' := [some (.ref 0), some (.int a1), some (.int a2), some (.int a3), some (.int r1), none, none]) dX3_putIn_5 rfl rfl rfl ?_
  refine am_iload_n dX3_putIn_7 rfl ?_
  refine am_if_lt 34 dX3_putIn_8 (by decide) (fun c2 => ?_) (fun c2 => ?_)
  · have hw := hw.1 c2
    exact am_vreturn dX3_putIn_34 rfl ⟨_, rfl, rfl, hw⟩
  · have hw := hw.2 c2
    refine am_iload_n dX3_putIn_11 rfl ?_
    refine am_bipush dX3_putIn_12 bc_13 ?_
    refine am_icmp_ge 34 dX3_putIn_14 (by decide) (fun c3 => ?_) (fun c3 => ?_)
    · have hw := hw.1 c3
      exact am_vreturn dX3_putIn_34 rfl ⟨_, rfl, rfl, hw⟩
    · have hw := hw.2 c3
      refine am_iload_n dX3_putIn_17 rfl ?_
      refine am_if_lt 34 dX3_putIn_18 (by decide) (fun c4 => ?_) (fun c4 => ?_)
      · have hw := hw.1 c4
        exact am_vreturn dX3_putIn_34 rfl ⟨_, rfl, rfl, hw⟩
      · have hw := hw.2 c4
        refine am_iload_n dX3_putIn_21 rfl ?_
        refine am_iload dX3_putIn_22 rfl ?_
        refine am_icmp_gt 34 dX3_putIn_24 (by decide) (fun c5 => ?_) (fun c5 => ?_)
        · have hw := hw.1 c5
          exact am_vreturn dX3_putIn_34 rfl ⟨_, rfl, rfl, hw⟩
        · have hw := hw.2 c5
          refine am_iload dX3_putIn_27 rfl ?_
          refine am_bipush dX3_putIn_29 bc_8 ?_
          refine am_icmp_lt 35 dX3_putIn_31 (by decide) (fun c6 => ?_) (fun c6 => ?_)
          · have hw := hw.1 c6
            refine am_iload_n dX3_putIn_35 rfl ?_
            refine am_bipush dX3_putIn_36 bc_8 ?_
            refine am_imul dX3_putIn_38 ?_
            refine am_top (fun x7 ex7 => ?_)
            have hw := hw x7 ex7
            refine am_istore' (ls' := [some (.ref 0), some (.int a1), some (.int a2), some (.int a3), some (.int r1), some (.int x7), none]) dX3_putIn_39 rfl rfl rfl ?_
            refine am_iload dX3_putIn_41 rfl ?_
            refine am_istore' (ls' := [some (.ref 0), some (.int a1), some (.int a2), some (.int a3), some (.int r1), some (.int x7), some (.int r1)]) dX3_putIn_43 rfl rfl rfl ?_
            obtain ⟨n15, hw⟩ := hw
            refine am_forget (ls' := [some (.ref 0), some (.int a1), some (.int a2), some (.int a3), none, some (.int x7), some (.int r1)]) [true, true, true, true, false, true, true] rfl ?_
            exact slpX3_putIn_45  n15 _ _ _ _ _ _ hw
          · have hw := hw.2 c6
            exact am_vreturn dX3_putIn_34 rfl ⟨_, rfl, rfl, hw⟩

def wX3_addFirst (a1 a2 : Int32) (m0 : Mu) (K : Int32 → Mu → Prop) : Prop := ∀ x1 : Int32, x1 = (m0 8 5) → ((x1 < 0 → K (-9 : Int32) m0) ∧ (¬ x1 < 0 → ((x1 < (8 : Int32) → (vp_in x1 8 ∧ ∀ m4 : Mu, m4 = mu_up m0 4 (x1).toNatClampNeg a1 → ∀ m5 : Mu, m5 = mu_up m4 8 5 ((m4 8 5) + (1 : Int32)) → wX3_markDead x1 (0 : Int32) m5 (fun m6 : Mu => wX3_putIn a2 (0 : Int32) x1 m6 (fun m7 : Mu => K x1 m7)))) ∧ (¬ x1 < (8 : Int32) → K (-9 : Int32) m0))))
set_option maxRecDepth 20000 in
theorem sX3_addFirst {a1 a2 : Int32} {m0 : Mu} {K : Int32 → Mu → Prop} (hw : wX3_addFirst a1 a2 m0 K) : am_Met mX3_addFirst [.ref 0, .int a1, .int a2] (fX3 m0) 0 0 (zI fX3 K) := by
  unfold wX3_addFirst at hw
  refine am_Met.of2 (ls := [some (.ref 0), some (.int a1), some (.int a2), none]) pf_X3_addFirst rfl rfl rfl rfl ?_
  refine am_aload_n dX3_addFirst_0 rfl ?_
  refine am_getf dX3_addFirst_1 fl_X3_33 rfl rfl ?_
  refine am_top (fun x1 ex1 => ?_)
  have hw := hw x1 ex1
  refine am_istore_n' (ls' := [some (.ref 0), some (.int a1), some (.int a2), some (.int x1)]) dX3_addFirst_4 rfl rfl rfl ?_
  refine am_iload_n dX3_addFirst_5 rfl ?_
  refine am_if_lt 15 dX3_addFirst_6 (by decide) (fun c2 => ?_) (fun c2 => ?_)
  · have hw := hw.1 c2
    refine am_bipush dX3_addFirst_15 bc_m9 ?_
    exact am_ireturn dX3_addFirst_17 rfl ⟨_, _, rfl, rfl, hw⟩
  · have hw := hw.2 c2
    refine am_iload_n dX3_addFirst_9 rfl ?_
    refine am_bipush dX3_addFirst_10 bc_8 ?_
    refine am_icmp_lt 18 dX3_addFirst_12 (by decide) (fun c3 => ?_) (fun c3 => ?_)
    · have hw := hw.1 c3
      refine am_aload_n dX3_addFirst_18 rfl ?_
      refine am_getf dX3_addFirst_19 fl_X3_24 rfl rfl ?_
      refine am_iload_n dX3_addFirst_22 rfl ?_
      refine am_iload_n dX3_addFirst_23 rfl ?_
      refine am_iastore' (F := fX3) (m := mu_up m0 4 (x1).toNatClampNeg a1) dX3_addFirst_24 rfl hw.1 rfl (fun m4 em4 => ?_)
      have hw := hw.2 m4 em4
      refine am_aload_n dX3_addFirst_25 rfl ?_
      refine am_dup dX3_addFirst_26 rfl ?_
      refine am_getf dX3_addFirst_27 fl_X3_33 rfl rfl ?_
      refine am_iconst dX3_addFirst_30 ic_1 ?_
      refine am_iadd dX3_addFirst_31 ?_
      refine am_putf' (F := fX3) (m := mu_up m4 8 5 ((m4 8 5) + (1 : Int32))) dX3_addFirst_32 fp_X3_33 rfl rfl rfl (fun m5 em5 => ?_)
      have hw := hw m5 em5
      refine am_aload_n dX3_addFirst_35 rfl ?_
      refine am_iload_n dX3_addFirst_36 rfl ?_
      refine am_iconst dX3_addFirst_37 ic_0 ?_
      refine am_selfU fam_X3 rfl dX3_addFirst_38 q_X3_addFirst_64 rfl (sX3_markDead hw) rfl rfl rfl rfl rfl (fun m6 hw => ?_)
      refine am_aload_n dX3_addFirst_41 rfl ?_
      refine am_iload_n dX3_addFirst_42 rfl ?_
      refine am_iconst dX3_addFirst_43 ic_0 ?_
      refine am_iload_n dX3_addFirst_44 rfl ?_
      refine am_selfU fam_X3 rfl dX3_addFirst_45 q_X3_addFirst_68 rfl (sX3_putIn hw) rfl rfl rfl rfl rfl (fun m7 hw => ?_)
      refine am_iload_n dX3_addFirst_48 rfl ?_
      exact am_ireturn dX3_addFirst_49 rfl ⟨_, _, rfl, rfl, hw⟩
    · have hw := hw.2 c3
      refine am_bipush dX3_addFirst_15 bc_m9 ?_
      exact am_ireturn dX3_addFirst_17 rfl ⟨_, _, rfl, rfl, hw⟩

def jnX3_takeOut_73 (K : Int32 → Mu → Prop) (v1 v3 : Int32) (m0 : Mu) : Prop := (vp_in v1 13 ∧ (vp_in v1 13 ∧ ∀ m6 : Mu, m6 = mu_up m0 2 (v1).toNatClampNeg ((m0 2 (v1).toNatClampNeg) - (1 : Int32)) → (vp_in v1 13 ∧ wX3_sizeOf v3 m6 (fun r7 : Int32 => (vp_in v1 13 ∧ ∀ m8 : Mu, m8 = mu_up m6 1 (v1).toNatClampNeg ((m6 1 (v1).toNatClampNeg) - r7) → K v3 m8)))))
set_option maxRecDepth 20000 in
theorem sjnX3_takeOut_73 {m0 : Mu} {K : Int32 → Mu → Prop} {v1 v3 : Int32} (hw : jnX3_takeOut_73 K v1 v3 m0) : am_Ok mX3_takeOut none (zI fX3 K) 0 0 73 [some (.ref 0), some (.int v1), none, some (.int v3), none, none] [] (fX3 m0) := by
  unfold jnX3_takeOut_73 at hw
  refine am_aload_n dX3_takeOut_73 rfl ?_
  refine am_getf dX3_takeOut_74 fl_X3_18 rfl rfl ?_
  refine am_iload_n dX3_takeOut_77 rfl ?_
  refine am_dup2 dX3_takeOut_78 rfl rfl ?_
  refine am_iaload dX3_takeOut_79 rfl hw.1 ?_
  have hw := hw.2
  refine am_iconst dX3_takeOut_80 ic_1 ?_
  refine am_isub dX3_takeOut_81 ?_
  refine am_iastore' (F := fX3) (m := mu_up m0 2 (v1).toNatClampNeg ((m0 2 (v1).toNatClampNeg) - (1 : Int32))) dX3_takeOut_82 rfl hw.1 rfl (fun m6 em6 => ?_)
  have hw := hw.2 m6 em6
  refine am_aload_n dX3_takeOut_83 rfl ?_
  refine am_getf dX3_takeOut_84 fl_X3_15 rfl rfl ?_
  refine am_iload_n dX3_takeOut_87 rfl ?_
  refine am_dup2 dX3_takeOut_88 rfl rfl ?_
  refine am_iaload dX3_takeOut_89 rfl hw.1 ?_
  have hw := hw.2
  refine am_aload_n dX3_takeOut_90 rfl ?_
  refine am_iload_n dX3_takeOut_91 rfl ?_
  refine am_selfP fam_X3 rfl dX3_takeOut_92 q_X3_takeOut_78 rfl (sX3_sizeOf hw) rfl rfl rfl rfl rfl (fun r7 hw => ?_)
  refine am_isub dX3_takeOut_95 ?_
  refine am_iastore' (F := fX3) (m := mu_up m6 1 (v1).toNatClampNeg ((m6 1 (v1).toNatClampNeg) - r7)) dX3_takeOut_96 rfl hw.1 rfl (fun m8 em8 => ?_)
  have hw := hw.2 m8 em8
  refine am_iload_n dX3_takeOut_97 rfl ?_
  exact am_ireturn dX3_takeOut_98 rfl ⟨_, _, rfl, rfl, hw⟩
def lpX3_takeOut_27 (K : Int32 → Mu → Prop)  : Nat → Int32 → Int32 → Int32 → Int32 → Mu → Prop
  | 0, _, _, _, _, _ => False
  | n + 1, v1, v3, v4, v5, m0 => (vp_in v1 13 ∧ (((m0 2 (v1).toNatClampNeg) ≤ v5 → jnX3_takeOut_73 K v1 v3 m0) ∧ (¬ (m0 2 (v1).toNatClampNeg) ≤ v5 → (((8 : Int32) ≤ v5 → jnX3_takeOut_73 K v1 v3 m0) ∧ (¬ (8 : Int32) ≤ v5 → (vp_in (v4 + v5) 104 ∧ (vp_in ((v4 + v5) - (1 : Int32)) 104 ∧ ∀ m10 : Mu, m10 = mu_up m0 3 (((v4 + v5) - (1 : Int32))).toNatClampNeg (m0 3 ((v4 + v5)).toNatClampNeg) → ∀ x11 : Int32, x11 = v5 + (1 : Int32) → lpX3_takeOut_27 K n v1 v3 v4 x11 m10)))))))
set_option maxRecDepth 20000 in
theorem slpX3_takeOut_27 {K : Int32 → Mu → Prop} : ∀ (n : Nat) (v1 v3 v4 v5 : Int32) (m0 : Mu), lpX3_takeOut_27 K n v1 v3 v4 v5 m0 → am_Ok mX3_takeOut none (zI fX3 K) 0 0 27 [some (.ref 0), some (.int v1), none, some (.int v3), some (.int v4), some (.int v5)] [] (fX3 m0) := by
  intro n
  induction n with
  | zero => intro v1 v3 v4 v5 m0 hw; exact False.elim hw
  | succ n ih =>
    intro v1 v3 v4 v5 m0 hw
    unfold lpX3_takeOut_27 at hw
    refine am_iload dX3_takeOut_27 rfl ?_
    refine am_aload_n dX3_takeOut_29 rfl ?_
    refine am_getf dX3_takeOut_30 fl_X3_18 rfl rfl ?_
    refine am_iload_n dX3_takeOut_33 rfl ?_
    refine am_iaload dX3_takeOut_34 rfl hw.1 ?_
    have hw := hw.2
    refine am_icmp_ge 73 dX3_takeOut_35 (by decide) (fun c5 => ?_) (fun c5 => ?_)
    · have hw := hw.1 c5
      refine am_forget (ls' := [some (.ref 0), some (.int v1), none, some (.int v3), none, none]) [true, true, false, true, false, false] rfl ?_
      exact sjnX3_takeOut_73  hw
    · have hw := hw.2 c5
      refine am_iload dX3_takeOut_38 rfl ?_
      refine am_bipush dX3_takeOut_40 bc_8 ?_
      refine am_icmp_ge 73 dX3_takeOut_42 (by decide) (fun c9 => ?_) (fun c9 => ?_)
      · have hw := hw.1 c9
        refine am_forget (ls' := [some (.ref 0), some (.int v1), none, some (.int v3), none, none]) [true, true, false, true, false, false] rfl ?_
        exact sjnX3_takeOut_73  hw
      · have hw := hw.2 c9
        refine am_aload_n dX3_takeOut_45 rfl ?_
        refine am_getf dX3_takeOut_46 fl_X3_21 rfl rfl ?_
        refine am_iload dX3_takeOut_49 rfl ?_
        refine am_iload dX3_takeOut_51 rfl ?_
        refine am_iadd dX3_takeOut_53 ?_
        refine am_iconst dX3_takeOut_54 ic_1 ?_
        refine am_isub dX3_takeOut_55 ?_
        refine am_aload_n dX3_takeOut_56 rfl ?_
        refine am_getf dX3_takeOut_57 fl_X3_21 rfl rfl ?_
        refine am_iload dX3_takeOut_60 rfl ?_
        refine am_iload dX3_takeOut_62 rfl ?_
        refine am_iadd dX3_takeOut_64 ?_
        refine am_iaload dX3_takeOut_65 rfl hw.1 ?_
        have hw := hw.2
        refine am_iastore' (F := fX3) (m := mu_up m0 3 (((v4 + v5) - (1 : Int32))).toNatClampNeg (m0 3 ((v4 + v5)).toNatClampNeg)) dX3_takeOut_66 rfl hw.1 rfl (fun m10 em10 => ?_)
        have hw := hw.2 m10 em10
        refine am_iinc' (lf := fun y9 => [some (.ref 0), some (.int v1), none, some (.int v3), some (.int v4), some (.int y9)]) dX3_takeOut_67 rfl rfl rfl ic_1 (fun _ => rfl) (fun x11 ex11 => ?_)
        have hw := hw x11 ex11
        refine am_goto 27 dX3_takeOut_70 (by decide) ?_
        refine am_forget (ls' := [some (.ref 0), some (.int v1), none, some (.int v3), some (.int v4), some (.int x11)]) [true, true, false, true, true, true] rfl ?_
        exact ih _ _ _ _ _ hw
def wX3_takeOut (a1 a2 : Int32) (m0 : Mu) (K : Int32 → Mu → Prop) : Prop := wX3_locomotiveAt a1 a2 m0 (fun r1 : Int32 => ((r1 = (-11 : Int32) → K (-11 : Int32) m0) ∧ (¬ r1 = (-11 : Int32) → ∀ x3 : Int32, x3 = (a1 * (8 : Int32)) → ∀ x4 : Int32, x4 = (a2 + (1 : Int32)) → (∃ n12 : Nat, lpX3_takeOut_27 K n12 a1 r1 x3 x4 m0))))
set_option maxRecDepth 20000 in
theorem sX3_takeOut {a1 a2 : Int32} {m0 : Mu} {K : Int32 → Mu → Prop} (hw : wX3_takeOut a1 a2 m0 K) : am_Met mX3_takeOut [.ref 0, .int a1, .int a2] (fX3 m0) 0 0 (zI fX3 K) := by
  unfold wX3_takeOut at hw
  refine am_Met.of2 (ls := [some (.ref 0), some (.int a1), some (.int a2), none, none, none]) pf_X3_takeOut rfl rfl rfl rfl ?_
  refine am_aload_n dX3_takeOut_0 rfl ?_
  refine am_iload_n dX3_takeOut_1 rfl ?_
  refine am_iload_n dX3_takeOut_2 rfl ?_
  refine am_selfP fam_X3 rfl dX3_takeOut_3 q_X3_takeOut_61 rfl (sX3_locomotiveAt hw) rfl rfl rfl rfl rfl (fun r1 hw => ?_)
  refine am_istore_n' (ls' := [some (.ref 0), some (.int a1), some (.int a2), some (.int r1), none, none]) dX3_takeOut_6 rfl rfl rfl ?_
  refine am_iload_n dX3_takeOut_7 rfl ?_
  refine am_bipush dX3_takeOut_8 bc_m11 ?_
  refine am_icmp_ne 16 dX3_takeOut_10 (by decide) (fun c2 => ?_) (fun c2 => ?_)
  · have hw := hw.1 c2
    refine am_bipush dX3_takeOut_13 bc_m11 ?_
    exact am_ireturn dX3_takeOut_15 rfl ⟨_, _, rfl, rfl, hw⟩
  · have hw := hw.2 c2
    refine am_iload_n dX3_takeOut_16 rfl ?_
    refine am_bipush dX3_takeOut_17 bc_8 ?_
    refine am_imul dX3_takeOut_19 ?_
    refine am_top (fun x3 ex3 => ?_)
    have hw := hw x3 ex3
    refine am_istore' (ls' := [some (.ref 0), some (.int a1), some (.int a2), some (.int r1), some (.int x3), none]) dX3_takeOut_20 rfl rfl rfl ?_
    refine am_iload_n dX3_takeOut_22 rfl ?_
    refine am_iconst dX3_takeOut_23 ic_1 ?_
    refine am_iadd dX3_takeOut_24 ?_
    refine am_top (fun x4 ex4 => ?_)
    have hw := hw x4 ex4
    refine am_istore' (ls' := [some (.ref 0), some (.int a1), some (.int a2), some (.int r1), some (.int x3), some (.int x4)]) dX3_takeOut_25 rfl rfl rfl ?_
    obtain ⟨n12, hw⟩ := hw
    refine am_forget (ls' := [some (.ref 0), some (.int a1), none, some (.int r1), some (.int x3), some (.int x4)]) [true, true, false, true, true, true] rfl ?_
    exact slpX3_takeOut_27  n12 _ _ _ _ _ hw

def wX3_removeNewest (m0 : Mu) (K : Int32 → Mu → Prop) : Prop := ∀ x1 : Int32, x1 = ((m0 8 5) - (1 : Int32)) → wX3_placeOf x1 m0 (fun r2 : Int32 => wX3_indexIn r2 x1 m0 (fun r3 : Int32 => wX3_takeOut r2 r3 m0 (fun (r4 : Int32) (m5 : Mu) => ∀ m6 : Mu, m6 = mu_up m5 8 5 x1 → K x1 m6)))
set_option maxRecDepth 20000 in
theorem sX3_removeNewest {m0 : Mu} {K : Int32 → Mu → Prop} (hw : wX3_removeNewest m0 K) : am_Met mX3_removeNewest [.ref 0] (fX3 m0) 0 0 (zI fX3 K) := by
  unfold wX3_removeNewest at hw
  refine am_Met.of2 (ls := [some (.ref 0), none, none]) pf_X3_removeNewest rfl rfl rfl rfl ?_
  refine am_aload_n dX3_removeNewest_0 rfl ?_
  refine am_getf dX3_removeNewest_1 fl_X3_33 rfl rfl ?_
  refine am_iconst dX3_removeNewest_4 ic_1 ?_
  refine am_isub dX3_removeNewest_5 ?_
  refine am_top (fun x1 ex1 => ?_)
  have hw := hw x1 ex1
  refine am_istore_n' (ls' := [some (.ref 0), some (.int x1), none]) dX3_removeNewest_6 rfl rfl rfl ?_
  refine am_aload_n dX3_removeNewest_7 rfl ?_
  refine am_iload_n dX3_removeNewest_8 rfl ?_
  refine am_selfP fam_X3 rfl dX3_removeNewest_9 q_X3_removeNewest_72 rfl (sX3_placeOf hw) rfl rfl rfl rfl rfl (fun r2 hw => ?_)
  refine am_istore_n' (ls' := [some (.ref 0), some (.int x1), some (.int r2)]) dX3_removeNewest_12 rfl rfl rfl ?_
  refine am_aload_n dX3_removeNewest_13 rfl ?_
  refine am_iload_n dX3_removeNewest_14 rfl ?_
  refine am_aload_n dX3_removeNewest_15 rfl ?_
  refine am_iload_n dX3_removeNewest_16 rfl ?_
  refine am_iload_n dX3_removeNewest_17 rfl ?_
  refine am_selfP fam_X3 rfl dX3_removeNewest_18 q_X3_removeNewest_54 rfl (sX3_indexIn hw) rfl rfl rfl rfl rfl (fun r3 hw => ?_)
  refine am_selfI fam_X3 rfl dX3_removeNewest_21 q_X3_removeNewest_75 rfl (sX3_takeOut hw) rfl rfl rfl rfl rfl (fun r4 m5 hw => ?_)
  refine am_pop dX3_removeNewest_24 rfl ?_
  refine am_aload_n dX3_removeNewest_25 rfl ?_
  refine am_iload_n dX3_removeNewest_26 rfl ?_
  refine am_putf' (F := fX3) (m := mu_up m5 8 5 x1) dX3_removeNewest_27 fp_X3_33 rfl rfl rfl (fun m6 em6 => ?_)
  have hw := hw m6 em6
  refine am_iload_n dX3_removeNewest_30 rfl ?_
  exact am_ireturn dX3_removeNewest_31 rfl ⟨_, _, rfl, rfl, hw⟩

def wX3_emptyRows (m0 : Mu) (K : Mu → Prop) : Prop := ∀ m1 : Mu, m1 = mu_set m0 2 (am_fill 13 (0 : Int32) (m0 2)) → ∀ m2 : Mu, m2 = mu_set m1 1 (am_fill 13 (0 : Int32) (m1 1)) → K m2
set_option maxRecDepth 20000 in
theorem sX3_emptyRows {m0 : Mu} {K : Mu → Prop} (hw : wX3_emptyRows m0 K) : am_Met mX3_emptyRows [.ref 0] (fX3 m0) 0 0 (zV fX3 K) := by
  unfold wX3_emptyRows at hw
  refine am_Met.of2 (ls := [some (.ref 0)]) pf_X3_emptyRows rfl rfl rfl rfl ?_
  refine am_aload_n dX3_emptyRows_0 rfl ?_
  refine am_getf dX3_emptyRows_1 fl_X3_18 rfl rfl ?_
  refine am_iconst dX3_emptyRows_4 ic_0 ?_
  refine am_fillS 3 dX3_emptyRows_5 q_X3_emptyRows_81 rfl rfl rfl rfl ?_
  refine am_hm (F := fX3) (m := mu_set m0 2 (am_fill 13 (0 : Int32) (m0 2))) rfl (fun m1 em1 => ?_)
  have hw := hw m1 em1
  refine am_aload_n dX3_emptyRows_8 rfl ?_
  refine am_getf dX3_emptyRows_9 fl_X3_15 rfl rfl ?_
  refine am_iconst dX3_emptyRows_12 ic_0 ?_
  refine am_fillS 2 dX3_emptyRows_13 q_X3_emptyRows_81 rfl rfl rfl rfl ?_
  refine am_hm (F := fX3) (m := mu_set m1 1 (am_fill 13 (0 : Int32) (m1 1))) rfl (fun m2 em2 => ?_)
  have hw := hw m2 em2
  exact am_vreturn dX3_emptyRows_16 rfl ⟨_, rfl, rfl, hw⟩

def lpX3_allFit_2 (m0 : Mu) (K : Int32 → Prop)  : Nat → Int32 → Prop
  | 0, _ => False
  | n + 1, v1 => (((13 : Int32) ≤ v1 → K (1 : Int32)) ∧ (¬ (13 : Int32) ≤ v1 → (vp_in v1 13 ∧ (vp_in v1 13 ∧ (((m0 1 (v1).toNatClampNeg) ≤ (m0 0 (v1).toNatClampNeg) → ∀ x3 : Int32, x3 = v1 + (1 : Int32) → lpX3_allFit_2 m0 K n x3) ∧ (¬ (m0 1 (v1).toNatClampNeg) ≤ (m0 0 (v1).toNatClampNeg) → K (0 : Int32)))))))
set_option maxRecDepth 20000 in
theorem slpX3_allFit_2 {m0 : Mu} {K : Int32 → Prop} : ∀ (n : Nat) (v1 : Int32), lpX3_allFit_2 m0 K n v1 → am_Ok mX3_allFit none (zP (fX3 m0) K) 0 0 2 [some (.ref 0), some (.int v1)] [] (fX3 m0) := by
  intro n
  induction n with
  | zero => intro v1 hw; exact False.elim hw
  | succ n ih =>
    intro v1 hw
    unfold lpX3_allFit_2 at hw
    refine am_iload_n dX3_allFit_2 rfl ?_
    refine am_bipush dX3_allFit_3 bc_13 ?_
    refine am_icmp_ge 31 dX3_allFit_5 (by decide) (fun c1 => ?_) (fun c1 => ?_)
    · have hw := hw.1 c1
      refine am_iconst dX3_allFit_31 ic_1 ?_
      exact am_zreturn dX3_allFit_32 rfl rfl ⟨_, rfl, rfl, hw⟩
    · have hw := hw.2 c1
      refine am_aload_n dX3_allFit_8 rfl ?_
      refine am_getf dX3_allFit_9 fl_X3_15 rfl rfl ?_
      refine am_iload_n dX3_allFit_12 rfl ?_
      refine am_iaload dX3_allFit_13 rfl hw.1 ?_
      have hw := hw.2
      refine am_aload_n dX3_allFit_14 rfl ?_
      refine am_getf dX3_allFit_15 fl_X3_9 rfl rfl ?_
      refine am_iload_n dX3_allFit_18 rfl ?_
      refine am_iaload dX3_allFit_19 rfl hw.1 ?_
      have hw := hw.2
      refine am_icmp_le 25 dX3_allFit_20 (by decide) (fun c2 => ?_) (fun c2 => ?_)
      · have hw := hw.1 c2
        refine am_iinc' (lf := fun y9 => [some (.ref 0), some (.int y9)]) dX3_allFit_25 rfl rfl rfl ic_1 (fun _ => rfl) (fun x3 ex3 => ?_)
        have hw := hw x3 ex3
        refine am_goto 2 dX3_allFit_28 (by decide) ?_
        refine am_forget (ls' := [some (.ref 0), some (.int x3)]) [true, true] rfl ?_
        exact ih _ hw
      · have hw := hw.2 c2
        refine am_iconst dX3_allFit_23 ic_0 ?_
        exact am_zreturn dX3_allFit_24 rfl rfl ⟨_, rfl, rfl, hw⟩
def wX3_allFit (m0 : Mu) (K : Int32 → Prop) : Prop := (∃ n4 : Nat, lpX3_allFit_2 m0 K n4 (0 : Int32))
set_option maxRecDepth 20000 in
theorem sX3_allFit {m0 : Mu} {K : Int32 → Prop} (hw : wX3_allFit m0 K) : am_Met mX3_allFit [.ref 0] (fX3 m0) 0 0 (zP (fX3 m0) K) := by
  unfold wX3_allFit at hw
  refine am_Met.of2 (ls := [some (.ref 0), none]) pf_X3_allFit rfl rfl rfl rfl ?_
  refine am_iconst dX3_allFit_0 ic_0 ?_
  refine am_istore_n' (ls' := [some (.ref 0), some (.int (0 : Int32))]) dX3_allFit_1 rfl rfl rfl ?_
  obtain ⟨n4, hw⟩ := hw
  refine am_forget (ls' := [some (.ref 0), some (.int (0 : Int32))]) [true, true] rfl ?_
  exact slpX3_allFit_2  n4 _ hw

def wX3_sourceOf (a1 : Int32) (m0 : Mu) (K : Int32 → Prop) : Prop := (((30 : Int32) ≤ a1 → K (12 : Int32)) ∧ (¬ (30 : Int32) ≤ a1 → wX4_endOf a1 (fun r2 : Int32 => wX3_positionAt r2 m0 (fun r3 : Int32 => K r3))))
set_option maxRecDepth 20000 in
theorem sX3_sourceOf {a1 : Int32} {m0 : Mu} {K : Int32 → Prop} (hw : wX3_sourceOf a1 m0 K) : am_Met mX3_sourceOf [.ref 0, .int a1] (fX3 m0) 0 0 (zP (fX3 m0) K) := by
  unfold wX3_sourceOf at hw
  refine am_Met.of2 (ls := [some (.ref 0), some (.int a1)]) pf_X3_sourceOf rfl rfl rfl rfl ?_
  refine am_iload_n dX3_sourceOf_0 rfl ?_
  refine am_bipush dX3_sourceOf_1 bc_30 ?_
  refine am_icmp_ge 17 dX3_sourceOf_3 (by decide) (fun c1 => ?_) (fun c1 => ?_)
  · have hw := hw.1 c1
    refine am_bipush dX3_sourceOf_17 bc_12 ?_
    exact am_ireturn dX3_sourceOf_19 rfl ⟨_, rfl, rfl, hw⟩
  · have hw := hw.2 c1
    refine am_aload_n dX3_sourceOf_6 rfl ?_
    refine am_iload_n dX3_sourceOf_7 rfl ?_
    refine am_stS dX3_sourceOf_8 q_X3_sourceOf_87 (sX4_endOf hw) rfl rfl rfl rfl (fun r2 hw => ?_)
    refine am_selfP fam_X3 rfl dX3_sourceOf_11 q_X3_sourceOf_90 rfl (sX3_positionAt hw) rfl rfl rfl rfl rfl (fun r3 hw => ?_)
    refine am_goto 19 dX3_sourceOf_14 (by decide) ?_
    exact am_ireturn dX3_sourceOf_19 rfl ⟨_, rfl, rfl, hw⟩

def wX3_targetOf (a1 : Int32) (m0 : Mu) (K : Int32 → Prop) : Prop := (((30 : Int32) ≤ a1 → wX4_endOf a1 (fun r2 : Int32 => wX3_positionAt r2 m0 (fun r3 : Int32 => K r3))) ∧ (¬ (30 : Int32) ≤ a1 → K (12 : Int32)))
set_option maxRecDepth 20000 in
theorem sX3_targetOf {a1 : Int32} {m0 : Mu} {K : Int32 → Prop} (hw : wX3_targetOf a1 m0 K) : am_Met mX3_targetOf [.ref 0, .int a1] (fX3 m0) 0 0 (zP (fX3 m0) K) := by
  unfold wX3_targetOf at hw
  refine am_Met.of2 (ls := [some (.ref 0), some (.int a1)]) pf_X3_targetOf rfl rfl rfl rfl ?_
  refine am_iload_n dX3_targetOf_0 rfl ?_
  refine am_bipush dX3_targetOf_1 bc_30 ?_
  refine am_icmp_ge 11 dX3_targetOf_3 (by decide) (fun c1 => ?_) (fun c1 => ?_)
  · have hw := hw.1 c1
    refine am_aload_n dX3_targetOf_11 rfl ?_
    refine am_iload_n dX3_targetOf_12 rfl ?_
    refine am_stS dX3_targetOf_13 q_X3_targetOf_87 (sX4_endOf hw) rfl rfl rfl rfl (fun r2 hw => ?_)
    refine am_selfP fam_X3 rfl dX3_targetOf_16 q_X3_targetOf_90 rfl (sX3_positionAt hw) rfl rfl rfl rfl rfl (fun r3 hw => ?_)
    exact am_ireturn dX3_targetOf_19 rfl ⟨_, rfl, rfl, hw⟩
  · have hw := hw.2 c1
    refine am_bipush dX3_targetOf_6 bc_12 ?_
    refine am_goto 19 dX3_targetOf_8 (by decide) ?_
    exact am_ireturn dX3_targetOf_19 rfl ⟨_, rfl, rfl, hw⟩

def jnX3_movementError_75 (m0 : Mu) (K : Int32 → Prop) (X0 : Int32 → Int32 → Int32 → Int32 → Int32 → Int32 → Int32 → Prop) (v1 v2 v3 v4 v5 v6 v7 u0 u1 : Int32) : Prop := wX3_locomotiveAt u1 u0 m0 (fun r14 : Int32 => wX3_sizeOf r14 m0 (fun r15 : Int32 => ∀ x16 : Int32, x16 = (v5 + r15) → ((v6 = 0 → wX3_isAlive r14 m0 (fun r18 : Int32 => ((r18 = 0 → ∀ x20 : Int32, x20 = v7 + (1 : Int32) → X0 v1 v2 v3 v4 x16 (0 : Int32) x20) ∧ (¬ r18 = 0 → ∀ x21 : Int32, x21 = v7 + (1 : Int32) → X0 v1 v2 v3 v4 x16 (1 : Int32) x21)))) ∧ (¬ v6 = 0 → ∀ x22 : Int32, x22 = v7 + (1 : Int32) → X0 v1 v2 v3 v4 x16 (1 : Int32) x22))))
set_option maxRecDepth 20000 in
theorem sjnX3_movementError_75 {m0 : Mu} {K : Int32 → Prop} {X0 : Int32 → Int32 → Int32 → Int32 → Int32 → Int32 → Int32 → Prop} (hX0 : ∀ (a0 a1 a2 a3 a4 a5 a6 : Int32), X0 a0 a1 a2 a3 a4 a5 a6 → am_Ok mX3_movementError none (zP (fX3 m0) K) 0 0 49 [some (.ref 0), some (.int a0), some (.int a1), some (.int a2), some (.int a3), some (.int a4), some (.int a5), some (.int a6), none] [] (fX3 m0)) {v1 v2 v3 v4 v5 v6 v7 u0 u1 : Int32} (hw : jnX3_movementError_75 m0 K X0 v1 v2 v3 v4 v5 v6 v7 u0 u1) : am_Ok mX3_movementError none (zP (fX3 m0) K) 0 0 75 [some (.ref 0), some (.int v1), some (.int v2), some (.int v3), some (.int v4), some (.int v5), some (.int v6), some (.int v7), none] [.int u0, .int u1, .ref 0] (fX3 m0) := by
  unfold jnX3_movementError_75 at hw
  refine am_selfP fam_X3 rfl dX3_movementError_75 q_X3_movementError_61 rfl (sX3_locomotiveAt hw) rfl rfl rfl rfl rfl (fun r14 hw => ?_)
  refine am_istore' (ls' := [some (.ref 0), some (.int v1), some (.int v2), some (.int v3), some (.int v4), some (.int v5), some (.int v6), some (.int v7), some (.int r14)]) dX3_movementError_78 rfl rfl rfl ?_
  refine am_iload dX3_movementError_80 rfl ?_
  refine am_aload_n dX3_movementError_82 rfl ?_
  refine am_iload dX3_movementError_83 rfl ?_
  refine am_selfP fam_X3 rfl dX3_movementError_85 q_X3_movementError_78 rfl (sX3_sizeOf hw) rfl rfl rfl rfl rfl (fun r15 hw => ?_)
  refine am_iadd dX3_movementError_88 ?_
  refine am_top (fun x16 ex16 => ?_)
  have hw := hw x16 ex16
  refine am_istore' (ls' := [some (.ref 0), some (.int v1), some (.int v2), some (.int v3), some (.int v4), some (.int x16), some (.int v6), some (.int v7), some (.int r14)]) dX3_movementError_89 rfl rfl rfl ?_
  refine am_iload dX3_movementError_91 rfl ?_
  refine am_if_ne 105 dX3_movementError_93 (by decide) (fun c17 => ?_) (fun c17 => ?_)
  · have hw := hw.1 c17
    refine am_aload_n dX3_movementError_96 rfl ?_
    refine am_iload dX3_movementError_97 rfl ?_
    refine am_selfP fam_X3 rfl dX3_movementError_99 q_X3_movementError_96 rfl (sX3_isAlive hw) rfl rfl rfl rfl rfl (fun r18 hw => ?_)
    refine am_if_eq 109 dX3_movementError_102 (by decide) (fun c19 => ?_) (fun c19 => ?_)
    · have hw := hw.1 c19
      refine am_iconst dX3_movementError_109 ic_0 ?_
      refine am_istore' (ls' := [some (.ref 0), some (.int v1), some (.int v2), some (.int v3), some (.int v4), some (.int x16), some (.int (0 : Int32)), some (.int v7), some (.int r14)]) dX3_movementError_110 rfl rfl rfl ?_
      refine am_iinc' (lf := fun y9 => [some (.ref 0), some (.int v1), some (.int v2), some (.int v3), some (.int v4), some (.int x16), some (.int (0 : Int32)), some (.int y9), some (.int r14)]) dX3_movementError_112 rfl rfl rfl ic_1 (fun _ => rfl) (fun x20 ex20 => ?_)
      have hw := hw x20 ex20
      refine am_goto 49 dX3_movementError_115 (by decide) ?_
      refine am_forget (ls' := [some (.ref 0), some (.int v1), some (.int v2), some (.int v3), some (.int v4), some (.int x16), some (.int (0 : Int32)), some (.int x20), none]) [true, true, true, true, true, true, true, true, false] rfl ?_
      exact hX0 _ _ _ _ _ _ _ hw
    · have hw := hw.2 c19
      refine am_iconst dX3_movementError_105 ic_1 ?_
      refine am_goto 110 dX3_movementError_106 (by decide) ?_
      refine am_istore' (ls' := [some (.ref 0), some (.int v1), some (.int v2), some (.int v3), some (.int v4), some (.int x16), some (.int (1 : Int32)), some (.int v7), some (.int r14)]) dX3_movementError_110 rfl rfl rfl ?_
      refine am_iinc' (lf := fun y9 => [some (.ref 0), some (.int v1), some (.int v2), some (.int v3), some (.int v4), some (.int x16), some (.int (1 : Int32)), some (.int y9), some (.int r14)]) dX3_movementError_112 rfl rfl rfl ic_1 (fun _ => rfl) (fun x21 ex21 => ?_)
      have hw := hw x21 ex21
      refine am_goto 49 dX3_movementError_115 (by decide) ?_
      refine am_forget (ls' := [some (.ref 0), some (.int v1), some (.int v2), some (.int v3), some (.int v4), some (.int x16), some (.int (1 : Int32)), some (.int x21), none]) [true, true, true, true, true, true, true, true, false] rfl ?_
      exact hX0 _ _ _ _ _ _ _ hw
  · have hw := hw.2 c17
    refine am_iconst dX3_movementError_105 ic_1 ?_
    refine am_goto 110 dX3_movementError_106 (by decide) ?_
    refine am_istore' (ls' := [some (.ref 0), some (.int v1), some (.int v2), some (.int v3), some (.int v4), some (.int x16), some (.int (1 : Int32)), some (.int v7), some (.int r14)]) dX3_movementError_110 rfl rfl rfl ?_
    refine am_iinc' (lf := fun y9 => [some (.ref 0), some (.int v1), some (.int v2), some (.int v3), some (.int v4), some (.int x16), some (.int (1 : Int32)), some (.int y9), some (.int r14)]) dX3_movementError_112 rfl rfl rfl ic_1 (fun _ => rfl) (fun x22 ex22 => ?_)
    have hw := hw x22 ex22
    refine am_goto 49 dX3_movementError_115 (by decide) ?_
    refine am_forget (ls' := [some (.ref 0), some (.int v1), some (.int v2), some (.int v3), some (.int v4), some (.int x16), some (.int (1 : Int32)), some (.int x22), none]) [true, true, true, true, true, true, true, true, false] rfl ?_
    exact hX0 _ _ _ _ _ _ _ hw
def lpX3_movementError_49 (m0 : Mu) (K : Int32 → Prop)  : Nat → Int32 → Int32 → Int32 → Int32 → Int32 → Int32 → Int32 → Prop
  | 0, _, _, _, _, _, _, _ => False
  | n + 1, v1, v2, v3, v4, v5, v6, v7 => ((v2 ≤ v7 → ((v6 = 0 → K (-7 : Int32)) ∧ (¬ v6 = 0 → wX3_targetOf v1 m0 (fun r10 : Int32 => wX3_freeAt r10 m0 (fun r11 : Int32 => ((v5 ≤ r11 → K (0 : Int32)) ∧ (¬ v5 ≤ r11 → K (-8 : Int32)))))))) ∧ (¬ v2 ≤ v7 → ((v1 = (40 : Int32) → jnX3_movementError_75 m0 K (fun a0 a1 a2 a3 a4 a5 a6 => lpX3_movementError_49 m0 K n a0 a1 a2 a3 a4 a5 a6) v1 v2 v3 v4 v5 v6 v7 ((v4 - (1 : Int32)) - v7) v3) ∧ (¬ v1 = (40 : Int32) → jnX3_movementError_75 m0 K (fun a0 a1 a2 a3 a4 a5 a6 => lpX3_movementError_49 m0 K n a0 a1 a2 a3 a4 a5 a6) v1 v2 v3 v4 v5 v6 v7 v7 v3))))
set_option maxRecDepth 20000 in
theorem slpX3_movementError_49 {m0 : Mu} {K : Int32 → Prop} : ∀ (n : Nat) (v1 v2 v3 v4 v5 v6 v7 : Int32), lpX3_movementError_49 m0 K n v1 v2 v3 v4 v5 v6 v7 → am_Ok mX3_movementError none (zP (fX3 m0) K) 0 0 49 [some (.ref 0), some (.int v1), some (.int v2), some (.int v3), some (.int v4), some (.int v5), some (.int v6), some (.int v7), none] [] (fX3 m0) := by
  intro n
  induction n with
  | zero => intro v1 v2 v3 v4 v5 v6 v7 hw; exact False.elim hw
  | succ n ih =>
    intro v1 v2 v3 v4 v5 v6 v7 hw
    unfold lpX3_movementError_49 at hw
    refine am_iload dX3_movementError_49 rfl ?_
    refine am_iload_n dX3_movementError_51 rfl ?_
    refine am_icmp_ge 118 dX3_movementError_52 (by decide) (fun c8 => ?_) (fun c8 => ?_)
    · have hw := hw.1 c8
      refine am_iload dX3_movementError_118 rfl ?_
      refine am_if_ne 126 dX3_movementError_120 (by decide) (fun c9 => ?_) (fun c9 => ?_)
      · have hw := hw.1 c9
        refine am_bipush dX3_movementError_123 bc_m7 ?_
        exact am_ireturn dX3_movementError_125 rfl ⟨_, rfl, rfl, hw⟩
      · have hw := hw.2 c9
        refine am_iload dX3_movementError_126 rfl ?_
        refine am_aload_n dX3_movementError_128 rfl ?_
        refine am_aload_n dX3_movementError_129 rfl ?_
        refine am_iload_n dX3_movementError_130 rfl ?_
        refine am_selfP fam_X3 rfl dX3_movementError_131 q_X3_movementError_99 rfl (sX3_targetOf hw) rfl rfl rfl rfl rfl (fun r10 hw => ?_)
        refine am_selfP fam_X3 rfl dX3_movementError_134 q_X3_movementError_102 rfl (sX3_freeAt hw) rfl rfl rfl rfl rfl (fun r11 hw => ?_)
        refine am_icmp_le 145 dX3_movementError_137 (by decide) (fun c12 => ?_) (fun c12 => ?_)
        · have hw := hw.1 c12
          refine am_iconst dX3_movementError_145 ic_0 ?_
          exact am_ireturn dX3_movementError_146 rfl ⟨_, rfl, rfl, hw⟩
        · have hw := hw.2 c12
          refine am_bipush dX3_movementError_140 bc_m8 ?_
          refine am_goto 146 dX3_movementError_142 (by decide) ?_
          exact am_ireturn dX3_movementError_146 rfl ⟨_, rfl, rfl, hw⟩
    · have hw := hw.2 c8
      refine am_aload_n dX3_movementError_55 rfl ?_
      refine am_iload_n dX3_movementError_56 rfl ?_
      refine am_iload_n dX3_movementError_57 rfl ?_
      refine am_bipush dX3_movementError_58 bc_40 ?_
      refine am_icmp_ne 73 dX3_movementError_60 (by decide) (fun c13 => ?_) (fun c13 => ?_)
      · have hw := hw.1 c13
        refine am_iload dX3_movementError_63 rfl ?_
        refine am_iconst dX3_movementError_65 ic_1 ?_
        refine am_isub dX3_movementError_66 ?_
        refine am_iload dX3_movementError_67 rfl ?_
        refine am_isub dX3_movementError_69 ?_
        refine am_goto 75 dX3_movementError_70 (by decide) ?_
        refine am_forget (ls' := [some (.ref 0), some (.int v1), some (.int v2), some (.int v3), some (.int v4), some (.int v5), some (.int v6), some (.int v7), none]) [true, true, true, true, true, true, true, true, false] rfl ?_
        exact sjnX3_movementError_75 (fun a0 a1 a2 a3 a4 a5 a6 hq => ih a0 a1 a2 a3 a4 a5 a6 hq) hw
      · have hw := hw.2 c13
        refine am_iload dX3_movementError_73 rfl ?_
        refine am_forget (ls' := [some (.ref 0), some (.int v1), some (.int v2), some (.int v3), some (.int v4), some (.int v5), some (.int v6), some (.int v7), none]) [true, true, true, true, true, true, true, true, false] rfl ?_
        exact sjnX3_movementError_75 (fun a0 a1 a2 a3 a4 a5 a6 hq => ih a0 a1 a2 a3 a4 a5 a6 hq) hw
def wX3_movementError (a1 a2 : Int32) (m0 : Mu) (K : Int32 → Prop) : Prop := wX4_endOf a1 (fun r1 : Int32 => wX3_positionAt r1 m0 (fun r2 : Int32 => wX3_lengthAt r2 m0 (fun r3 : Int32 => ((r3 = 0 → K (-2 : Int32)) ∧ (¬ r3 = 0 → wX3_sourceOf a1 m0 (fun r5 : Int32 => wX3_countAt r5 m0 (fun r6 : Int32 => ((a2 ≤ r6 → (∃ n23 : Nat, lpX3_movementError_49 m0 K n23 a1 a2 r5 r6 (0 : Int32) (0 : Int32) (0 : Int32))) ∧ (¬ a2 ≤ r6 → K (-6 : Int32))))))))))
set_option maxRecDepth 20000 in
theorem sX3_movementError {a1 a2 : Int32} {m0 : Mu} {K : Int32 → Prop} (hw : wX3_movementError a1 a2 m0 K) : am_Met mX3_movementError [.ref 0, .int a1, .int a2] (fX3 m0) 0 0 (zP (fX3 m0) K) := by
  unfold wX3_movementError at hw
  refine am_Met.of2 (ls := [some (.ref 0), some (.int a1), some (.int a2), none, none, none, none, none, none]) pf_X3_movementError rfl rfl rfl rfl ?_
  refine am_aload_n dX3_movementError_0 rfl ?_
  refine am_aload_n dX3_movementError_1 rfl ?_
  refine am_iload_n dX3_movementError_2 rfl ?_
  refine am_stS dX3_movementError_3 q_X3_movementError_87 (sX4_endOf hw) rfl rfl rfl rfl (fun r1 hw => ?_)
  refine am_selfP fam_X3 rfl dX3_movementError_6 q_X3_movementError_90 rfl (sX3_positionAt hw) rfl rfl rfl rfl rfl (fun r2 hw => ?_)
  refine am_selfP fam_X3 rfl dX3_movementError_9 q_X3_movementError_47 rfl (sX3_lengthAt hw) rfl rfl rfl rfl rfl (fun r3 hw => ?_)
  refine am_if_ne 18 dX3_movementError_12 (by decide) (fun c4 => ?_) (fun c4 => ?_)
  · have hw := hw.1 c4
    refine am_bipush dX3_movementError_15 bc_m2 ?_
    exact am_ireturn dX3_movementError_17 rfl ⟨_, rfl, rfl, hw⟩
  · have hw := hw.2 c4
    refine am_aload_n dX3_movementError_18 rfl ?_
    refine am_iload_n dX3_movementError_19 rfl ?_
    refine am_selfP fam_X3 rfl dX3_movementError_20 q_X3_movementError_93 rfl (sX3_sourceOf hw) rfl rfl rfl rfl rfl (fun r5 hw => ?_)
    refine am_istore_n' (ls' := [some (.ref 0), some (.int a1), some (.int a2), some (.int r5), none, none, none, none, none]) dX3_movementError_23 rfl rfl rfl ?_
    refine am_aload_n dX3_movementError_24 rfl ?_
    refine am_iload_n dX3_movementError_25 rfl ?_
    refine am_selfP fam_X3 rfl dX3_movementError_26 q_X3_movementError_58 rfl (sX3_countAt hw) rfl rfl rfl rfl rfl (fun r6 hw => ?_)
    refine am_istore' (ls' := [some (.ref 0), some (.int a1), some (.int a2), some (.int r5), some (.int r6), none, none, none, none]) dX3_movementError_29 rfl rfl rfl ?_
    refine am_iload dX3_movementError_31 rfl ?_
    refine am_iload_n dX3_movementError_33 rfl ?_
    refine am_icmp_ge 40 dX3_movementError_34 (by decide) (fun c7 => ?_) (fun c7 => ?_)
    · have hw := hw.1 c7
      refine am_iconst dX3_movementError_40 ic_0 ?_
      refine am_istore' (ls' := [some (.ref 0), some (.int a1), some (.int a2), some (.int r5), some (.int r6), some (.int (0 : Int32)), none, none, none]) dX3_movementError_41 rfl rfl rfl ?_
      refine am_iconst dX3_movementError_43 ic_0 ?_
      refine am_istore' (ls' := [some (.ref 0), some (.int a1), some (.int a2), some (.int r5), some (.int r6), some (.int (0 : Int32)), some (.int (0 : Int32)), none, none]) dX3_movementError_44 rfl rfl rfl ?_
      refine am_iconst dX3_movementError_46 ic_0 ?_
      refine am_istore' (ls' := [some (.ref 0), some (.int a1), some (.int a2), some (.int r5), some (.int r6), some (.int (0 : Int32)), some (.int (0 : Int32)), some (.int (0 : Int32)), none]) dX3_movementError_47 rfl rfl rfl ?_
      obtain ⟨n23, hw⟩ := hw
      refine am_forget (ls' := [some (.ref 0), some (.int a1), some (.int a2), some (.int r5), some (.int r6), some (.int (0 : Int32)), some (.int (0 : Int32)), some (.int (0 : Int32)), none]) [true, true, true, true, true, true, true, true, false] rfl ?_
      exact slpX3_movementError_49  n23 _ _ _ _ _ _ _ hw
    · have hw := hw.2 c7
      refine am_bipush dX3_movementError_37 bc_m6 ?_
      exact am_ireturn dX3_movementError_39 rfl ⟨_, rfl, rfl, hw⟩

def jnX3_shift_42 (K : Mu → Prop) (X0 : Int32 → Int32 → Int32 → Int32 → Int32 → Mu → Prop) (v1 v2 v3 v4 v5 u0 u1 : Int32) (m0 : Mu) : Prop := wX3_takeOut u1 u0 m0 (fun (r6 : Int32) (m7 : Mu) => ((v1 = (20 : Int32) → wX3_countAt (12 : Int32) m7 (fun r9 : Int32 => wX3_putIn v4 r9 r6 m7 (fun m10 : Mu => ∀ x11 : Int32, x11 = v5 + (1 : Int32) → X0 v1 v2 v3 v4 x11 m10))) ∧ (¬ v1 = (20 : Int32) → wX3_putIn v4 (0 : Int32) r6 m7 (fun m12 : Mu => ∀ x13 : Int32, x13 = v5 + (1 : Int32) → X0 v1 v2 v3 v4 x13 m12))))
set_option maxRecDepth 20000 in
theorem sjnX3_shift_42 {m0 : Mu} {K : Mu → Prop} {X0 : Int32 → Int32 → Int32 → Int32 → Int32 → Mu → Prop} (hX0 : ∀ (a0 a1 a2 a3 a4 : Int32) (mm : Mu), X0 a0 a1 a2 a3 a4 mm → am_Ok mX3_shift none (zV fX3 K) 0 0 16 [some (.ref 0), some (.int a0), some (.int a1), some (.int a2), some (.int a3), some (.int a4), none] [] (fX3 mm)) {v1 v2 v3 v4 v5 u0 u1 : Int32} (hw : jnX3_shift_42 K X0 v1 v2 v3 v4 v5 u0 u1 m0) : am_Ok mX3_shift none (zV fX3 K) 0 0 42 [some (.ref 0), some (.int v1), some (.int v2), some (.int v3), some (.int v4), some (.int v5), none] [.int u0, .int u1, .ref 0] (fX3 m0) := by
  unfold jnX3_shift_42 at hw
  refine am_selfI fam_X3 rfl dX3_shift_42 q_X3_shift_75 rfl (sX3_takeOut hw) rfl rfl rfl rfl rfl (fun r6 m7 hw => ?_)
  refine am_istore' (ls' := [some (.ref 0), some (.int v1), some (.int v2), some (.int v3), some (.int v4), some (.int v5), some (.int r6)]) dX3_shift_45 rfl rfl rfl ?_
  refine am_aload_n dX3_shift_47 rfl ?_
  refine am_iload dX3_shift_48 rfl ?_
  refine am_iload_n dX3_shift_50 rfl ?_
  refine am_bipush dX3_shift_51 bc_20 ?_
  refine am_icmp_ne 65 dX3_shift_53 (by decide) (fun c8 => ?_) (fun c8 => ?_)
  · have hw := hw.1 c8
    refine am_aload_n dX3_shift_56 rfl ?_
    refine am_bipush dX3_shift_57 bc_12 ?_
    refine am_selfP fam_X3 rfl dX3_shift_59 q_X3_shift_58 rfl (sX3_countAt hw) rfl rfl rfl rfl rfl (fun r9 hw => ?_)
    refine am_goto 66 dX3_shift_62 (by decide) ?_
    refine am_iload dX3_shift_66 rfl ?_
    refine am_selfU fam_X3 rfl dX3_shift_68 q_X3_shift_68 rfl (sX3_putIn hw) rfl rfl rfl rfl rfl (fun m10 hw => ?_)
    refine am_iinc' (lf := fun y9 => [some (.ref 0), some (.int v1), some (.int v2), some (.int v3), some (.int v4), some (.int y9), some (.int r6)]) dX3_shift_71 rfl rfl rfl ic_1 (fun _ => rfl) (fun x11 ex11 => ?_)
    have hw := hw x11 ex11
    refine am_goto 16 dX3_shift_74 (by decide) ?_
    refine am_forget (ls' := [some (.ref 0), some (.int v1), some (.int v2), some (.int v3), some (.int v4), some (.int x11), none]) [true, true, true, true, true, true, false] rfl ?_
    exact hX0 _ _ _ _ _ _ hw
  · have hw := hw.2 c8
    refine am_iconst dX3_shift_65 ic_0 ?_
    refine am_iload dX3_shift_66 rfl ?_
    refine am_selfU fam_X3 rfl dX3_shift_68 q_X3_shift_68 rfl (sX3_putIn hw) rfl rfl rfl rfl rfl (fun m12 hw => ?_)
    refine am_iinc' (lf := fun y9 => [some (.ref 0), some (.int v1), some (.int v2), some (.int v3), some (.int v4), some (.int y9), some (.int r6)]) dX3_shift_71 rfl rfl rfl ic_1 (fun _ => rfl) (fun x13 ex13 => ?_)
    have hw := hw x13 ex13
    refine am_goto 16 dX3_shift_74 (by decide) ?_
    refine am_forget (ls' := [some (.ref 0), some (.int v1), some (.int v2), some (.int v3), some (.int v4), some (.int x13), none]) [true, true, true, true, true, true, false] rfl ?_
    exact hX0 _ _ _ _ _ _ hw
def lpX3_shift_16 (K : Mu → Prop)  : Nat → Int32 → Int32 → Int32 → Int32 → Int32 → Mu → Prop
  | 0, _, _, _, _, _, _ => False
  | n + 1, v1, v2, v3, v4, v5, m0 => ((v2 ≤ v5 → K m0) ∧ (¬ v2 ≤ v5 → ((v1 = (40 : Int32) → wX3_countAt (12 : Int32) m0 (fun r5 : Int32 => jnX3_shift_42 K (fun a0 a1 a2 a3 a4 mm => lpX3_shift_16 K n a0 a1 a2 a3 a4 mm) v1 v2 v3 v4 v5 (r5 - (1 : Int32)) v3 m0)) ∧ (¬ v1 = (40 : Int32) → jnX3_shift_42 K (fun a0 a1 a2 a3 a4 mm => lpX3_shift_16 K n a0 a1 a2 a3 a4 mm) v1 v2 v3 v4 v5 (0 : Int32) v3 m0))))
set_option maxRecDepth 20000 in
theorem slpX3_shift_16 {K : Mu → Prop} : ∀ (n : Nat) (v1 v2 v3 v4 v5 : Int32) (m0 : Mu), lpX3_shift_16 K n v1 v2 v3 v4 v5 m0 → am_Ok mX3_shift none (zV fX3 K) 0 0 16 [some (.ref 0), some (.int v1), some (.int v2), some (.int v3), some (.int v4), some (.int v5), none] [] (fX3 m0) := by
  intro n
  induction n with
  | zero => intro v1 v2 v3 v4 v5 m0 hw; exact False.elim hw
  | succ n ih =>
    intro v1 v2 v3 v4 v5 m0 hw
    unfold lpX3_shift_16 at hw
    refine am_iload dX3_shift_16 rfl ?_
    refine am_iload_n dX3_shift_18 rfl ?_
    refine am_icmp_ge 77 dX3_shift_19 (by decide) (fun c3 => ?_) (fun c3 => ?_)
    · have hw := hw.1 c3
      exact am_vreturn dX3_shift_77 rfl ⟨_, rfl, rfl, hw⟩
    · have hw := hw.2 c3
      refine am_aload_n dX3_shift_22 rfl ?_
      refine am_iload_n dX3_shift_23 rfl ?_
      refine am_iload_n dX3_shift_24 rfl ?_
      refine am_bipush dX3_shift_25 bc_40 ?_
      refine am_icmp_ne 41 dX3_shift_27 (by decide) (fun c4 => ?_) (fun c4 => ?_)
      · have hw := hw.1 c4
        refine am_aload_n dX3_shift_30 rfl ?_
        refine am_bipush dX3_shift_31 bc_12 ?_
        refine am_selfP fam_X3 rfl dX3_shift_33 q_X3_shift_58 rfl (sX3_countAt hw) rfl rfl rfl rfl rfl (fun r5 hw => ?_)
        refine am_iconst dX3_shift_36 ic_1 ?_
        refine am_isub dX3_shift_37 ?_
        refine am_goto 42 dX3_shift_38 (by decide) ?_
        refine am_forget (ls' := [some (.ref 0), some (.int v1), some (.int v2), some (.int v3), some (.int v4), some (.int v5), none]) [true, true, true, true, true, true, false] rfl ?_
        exact sjnX3_shift_42 (fun a0 a1 a2 a3 a4 mm hq => ih a0 a1 a2 a3 a4 mm hq) hw
      · have hw := hw.2 c4
        refine am_iconst dX3_shift_41 ic_0 ?_
        refine am_forget (ls' := [some (.ref 0), some (.int v1), some (.int v2), some (.int v3), some (.int v4), some (.int v5), none]) [true, true, true, true, true, true, false] rfl ?_
        exact sjnX3_shift_42 (fun a0 a1 a2 a3 a4 mm hq => ih a0 a1 a2 a3 a4 mm hq) hw
def wX3_shift (a1 a2 : Int32) (m0 : Mu) (K : Mu → Prop) : Prop := wX3_sourceOf a1 m0 (fun r1 : Int32 => wX3_targetOf a1 m0 (fun r2 : Int32 => (∃ n14 : Nat, lpX3_shift_16 K n14 a1 a2 r1 r2 (0 : Int32) m0)))
set_option maxRecDepth 20000 in
theorem sX3_shift {a1 a2 : Int32} {m0 : Mu} {K : Mu → Prop} (hw : wX3_shift a1 a2 m0 K) : am_Met mX3_shift [.ref 0, .int a1, .int a2] (fX3 m0) 0 0 (zV fX3 K) := by
  unfold wX3_shift at hw
  refine am_Met.of2 (ls := [some (.ref 0), some (.int a1), some (.int a2), none, none, none, none]) pf_X3_shift rfl rfl rfl rfl ?_
  refine am_aload_n dX3_shift_0 rfl ?_
  refine am_iload_n dX3_shift_1 rfl ?_
  refine am_selfP fam_X3 rfl dX3_shift_2 q_X3_shift_93 rfl (sX3_sourceOf hw) rfl rfl rfl rfl rfl (fun r1 hw => ?_)
  refine am_istore_n' (ls' := [some (.ref 0), some (.int a1), some (.int a2), some (.int r1), none, none, none]) dX3_shift_5 rfl rfl rfl ?_
  refine am_aload_n dX3_shift_6 rfl ?_
  refine am_iload_n dX3_shift_7 rfl ?_
  refine am_selfP fam_X3 rfl dX3_shift_8 q_X3_shift_99 rfl (sX3_targetOf hw) rfl rfl rfl rfl rfl (fun r2 hw => ?_)
  refine am_istore' (ls' := [some (.ref 0), some (.int a1), some (.int a2), some (.int r1), some (.int r2), none, none]) dX3_shift_11 rfl rfl rfl ?_
  refine am_iconst dX3_shift_13 ic_0 ?_
  refine am_istore' (ls' := [some (.ref 0), some (.int a1), some (.int a2), some (.int r1), some (.int r2), some (.int (0 : Int32)), none]) dX3_shift_14 rfl rfl rfl ?_
  obtain ⟨n14, hw⟩ := hw
  refine am_forget (ls' := [some (.ref 0), some (.int a1), some (.int a2), some (.int r1), some (.int r2), some (.int (0 : Int32)), none]) [true, true, true, true, true, true, false] rfl ?_
  exact slpX3_shift_16  n14 _ _ _ _ _ _ hw

def wX3_carryOut (a1 : Int32) (m0 : Mu) (K : Mu → Prop) : Prop := ((a1 = 0 → ∀ m2 : Mu, m2 = mu_up m0 8 7 (am_rem ((m0 8 7) + (1 : Int32)) (12 : Int32)) → K m2) ∧ (¬ a1 = 0 → ((a1 = (1 : Int32) → ∀ m4 : Mu, m4 = mu_up m0 8 7 (am_rem (((m0 8 7) + (12 : Int32)) - (1 : Int32)) (12 : Int32)) → K m4) ∧ (¬ a1 = (1 : Int32) → wX3_shift (a1 - (am_rem a1 (10 : Int32))) (am_rem a1 (10 : Int32)) m0 (fun m5 : Mu => K m5)))))
set_option maxRecDepth 20000 in
theorem sX3_carryOut {a1 : Int32} {m0 : Mu} {K : Mu → Prop} (hw : wX3_carryOut a1 m0 K) : am_Met mX3_carryOut [.ref 0, .int a1] (fX3 m0) 0 0 (zV fX3 K) := by
  unfold wX3_carryOut at hw
  refine am_Met.of2 (ls := [some (.ref 0), some (.int a1)]) pf_X3_carryOut rfl rfl rfl rfl ?_
  refine am_iload_n dX3_carryOut_0 rfl ?_
  refine am_if_ne 20 dX3_carryOut_1 (by decide) (fun c1 => ?_) (fun c1 => ?_)
  · have hw := hw.1 c1
    refine am_aload_n dX3_carryOut_4 rfl ?_
    refine am_aload_n dX3_carryOut_5 rfl ?_
    refine am_getf dX3_carryOut_6 fl_X3_40 rfl rfl ?_
    refine am_iconst dX3_carryOut_9 ic_1 ?_
    refine am_iadd dX3_carryOut_10 ?_
    refine am_bipush dX3_carryOut_11 bc_12 ?_
    refine am_irem' dX3_carryOut_13 nz_12 ?_
    refine am_putf' (F := fX3) (m := mu_up m0 8 7 (am_rem ((m0 8 7) + (1 : Int32)) (12 : Int32))) dX3_carryOut_14 fp_X3_40 rfl rfl rfl (fun m2 em2 => ?_)
    have hw := hw m2 em2
    refine am_goto 58 dX3_carryOut_17 (by decide) ?_
    exact am_vreturn dX3_carryOut_58 rfl ⟨_, rfl, rfl, hw⟩
  · have hw := hw.2 c1
    refine am_iload_n dX3_carryOut_20 rfl ?_
    refine am_iconst dX3_carryOut_21 ic_1 ?_
    refine am_icmp_ne 44 dX3_carryOut_22 (by decide) (fun c3 => ?_) (fun c3 => ?_)
    · have hw := hw.1 c3
      refine am_aload_n dX3_carryOut_25 rfl ?_
      refine am_aload_n dX3_carryOut_26 rfl ?_
      refine am_getf dX3_carryOut_27 fl_X3_40 rfl rfl ?_
      refine am_bipush dX3_carryOut_30 bc_12 ?_
      refine am_iadd dX3_carryOut_32 ?_
      refine am_iconst dX3_carryOut_33 ic_1 ?_
      refine am_isub dX3_carryOut_34 ?_
      refine am_bipush dX3_carryOut_35 bc_12 ?_
      refine am_irem' dX3_carryOut_37 nz_12 ?_
      refine am_putf' (F := fX3) (m := mu_up m0 8 7 (am_rem (((m0 8 7) + (12 : Int32)) - (1 : Int32)) (12 : Int32))) dX3_carryOut_38 fp_X3_40 rfl rfl rfl (fun m4 em4 => ?_)
      have hw := hw m4 em4
      refine am_goto 58 dX3_carryOut_41 (by decide) ?_
      exact am_vreturn dX3_carryOut_58 rfl ⟨_, rfl, rfl, hw⟩
    · have hw := hw.2 c3
      refine am_aload_n dX3_carryOut_44 rfl ?_
      refine am_iload_n dX3_carryOut_45 rfl ?_
      refine am_iload_n dX3_carryOut_46 rfl ?_
      refine am_bipush dX3_carryOut_47 bc_10 ?_
      refine am_irem' dX3_carryOut_49 nz_10 ?_
      refine am_isub dX3_carryOut_50 ?_
      refine am_iload_n dX3_carryOut_51 rfl ?_
      refine am_bipush dX3_carryOut_52 bc_10 ?_
      refine am_irem' dX3_carryOut_54 nz_10 ?_
      refine am_selfU fam_X3 rfl dX3_carryOut_55 q_X3_carryOut_105 rfl (sX3_shift hw) rfl rfl rfl rfl rfl (fun m5 hw => ?_)
      exact am_vreturn dX3_carryOut_58 rfl ⟨_, rfl, rfl, hw⟩
end
