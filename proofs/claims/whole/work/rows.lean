section
-- ===== PART A: goes FIRST, ahead of the names: the tables' words, and 'selects' of the private methods out of them =====
/-- a private method of a class that the tables say can be made, by its rows of tables_1 -/
def lw_okq (q : MethodName × Nat) : Prop := (q.1.cls ≠ "java/lang/invoke/MethodHandle" ∧ q.1.cls ≠ "java/lang/invoke/VarHandle") ∧ Cond.instantiable q.1.cls q.2 ∈ tables_1 ∧ Cond.privateMethod q.1 ∈ tables_1 ∧ Cond.instanceMethod q.1 ∈ tables_1
theorem lw_p0 : lw_okq (⟨"TurntableHouse", "changeLength", "(II)I"⟩, 5) := ⟨⟨by decide +kernel, by decide +kernel⟩, List.mem_of_getElem? (i := 12) (by decide +kernel), List.mem_of_getElem? (i := 94) (by decide +kernel), List.mem_of_getElem? (i := 95) (by decide +kernel)⟩
theorem lw_p1 : lw_okq (⟨"TurntableHouse", "houseChanges", "()V"⟩, 5) := ⟨⟨by decide +kernel, by decide +kernel⟩, List.mem_of_getElem? (i := 12) (by decide +kernel), List.mem_of_getElem? (i := 106) (by decide +kernel), List.mem_of_getElem? (i := 107) (by decide +kernel)⟩
theorem lw_p2 : lw_okq (⟨"TurntableHouse", "placeError", "(I)I"⟩, 5) := ⟨⟨by decide +kernel, by decide +kernel⟩, List.mem_of_getElem? (i := 12) (by decide +kernel), List.mem_of_getElem? (i := 206) (by decide +kernel), List.mem_of_getElem? (i := 207) (by decide +kernel)⟩
theorem lw_p3 : lw_okq (⟨"TurntableHouse", "moveIfPossible", "(II)I"⟩, 5) := ⟨⟨by decide +kernel, by decide +kernel⟩, List.mem_of_getElem? (i := 12) (by decide +kernel), List.mem_of_getElem? (i := 267) (by decide +kernel), List.mem_of_getElem? (i := 268) (by decide +kernel)⟩
theorem lw_p4 : lw_okq (⟨"TurntableHouse", "planError", "(II)I"⟩, 5) := ⟨⟨by decide +kernel, by decide +kernel⟩, List.mem_of_getElem? (i := 12) (by decide +kernel), List.mem_of_getElem? (i := 311) (by decide +kernel), List.mem_of_getElem? (i := 312) (by decide +kernel)⟩
theorem lw_p5 : lw_okq (⟨"TurntableHouse", "readyPlanner", "()LTurntableHouse$Planner;"⟩, 5) := ⟨⟨by decide +kernel, by decide +kernel⟩, List.mem_of_getElem? (i := 12) (by decide +kernel), List.mem_of_getElem? (i := 319) (by decide +kernel), List.mem_of_getElem? (i := 320) (by decide +kernel)⟩
theorem lw_p6 : lw_okq (⟨"TurntableHouse$Planner", "listPlaces", "()V"⟩, 13) := ⟨⟨by decide +kernel, by decide +kernel⟩, List.mem_of_getElem? (i := 323) (by decide +kernel), List.mem_of_getElem? (i := 398) (by decide +kernel), List.mem_of_getElem? (i := 399) (by decide +kernel)⟩
theorem lw_p7 : lw_okq (⟨"TurntableHouse$Planner", "waysToPut", "(I)I"⟩, 13) := ⟨⟨by decide +kernel, by decide +kernel⟩, List.mem_of_getElem? (i := 323) (by decide +kernel), List.mem_of_getElem? (i := 403) (by decide +kernel), List.mem_of_getElem? (i := 404) (by decide +kernel)⟩
theorem lw_p8 : lw_okq (⟨"TurntableHouse$Planner", "addGoals", "()V"⟩, 13) := ⟨⟨by decide +kernel, by decide +kernel⟩, List.mem_of_getElem? (i := 323) (by decide +kernel), List.mem_of_getElem? (i := 418) (by decide +kernel), List.mem_of_getElem? (i := 419) (by decide +kernel)⟩
theorem lw_p9 : lw_okq (⟨"TurntableHouse$Planner", "showRows", "(I)V"⟩, 13) := ⟨⟨by decide +kernel, by decide +kernel⟩, List.mem_of_getElem? (i := 323) (by decide +kernel), List.mem_of_getElem? (i := 422) (by decide +kernel), List.mem_of_getElem? (i := 423) (by decide +kernel)⟩
theorem lw_p10 : lw_okq (⟨"TurntableHouse$Planner", "putIntoLine", "(II)V"⟩, 13) := ⟨⟨by decide +kernel, by decide +kernel⟩, List.mem_of_getElem? (i := 323) (by decide +kernel), List.mem_of_getElem? (i := 431) (by decide +kernel), List.mem_of_getElem? (i := 432) (by decide +kernel)⟩
theorem lw_p11 : lw_okq (⟨"TurntableHouse$Planner", "improve", "(IILTurntableHouse$StateQueue;)V"⟩, 13) := ⟨⟨by decide +kernel, by decide +kernel⟩, List.mem_of_getElem? (i := 323) (by decide +kernel), List.mem_of_getElem? (i := 442) (by decide +kernel), List.mem_of_getElem? (i := 443) (by decide +kernel)⟩
theorem lw_p12 : lw_okq (⟨"TurntableHouse$Planner", "stateOf", "(LTurntableHouse$Yard;)I"⟩, 13) := ⟨⟨by decide +kernel, by decide +kernel⟩, List.mem_of_getElem? (i := 323) (by decide +kernel), List.mem_of_getElem? (i := 454) (by decide +kernel), List.mem_of_getElem? (i := 455) (by decide +kernel)⟩
theorem lw_p13 : lw_okq (⟨"TurntableHouse$Planner", "nearerQueue", "()LTurntableHouse$StateQueue;"⟩, 13) := ⟨⟨by decide +kernel, by decide +kernel⟩, List.mem_of_getElem? (i := 323) (by decide +kernel), List.mem_of_getElem? (i := 467) (by decide +kernel), List.mem_of_getElem? (i := 468) (by decide +kernel)⟩
theorem lw_p14 : lw_okq (⟨"TurntableHouse$Planner", "costOf", "(I)I"⟩, 13) := ⟨⟨by decide +kernel, by decide +kernel⟩, List.mem_of_getElem? (i := 323) (by decide +kernel), List.mem_of_getElem? (i := 475) (by decide +kernel), List.mem_of_getElem? (i := 476) (by decide +kernel)⟩
theorem lw_p15 : lw_okq (⟨"TurntableHouse$Planner", "listNeighbours", "(I)V"⟩, 13) := ⟨⟨by decide +kernel, by decide +kernel⟩, List.mem_of_getElem? (i := 323) (by decide +kernel), List.mem_of_getElem? (i := 484) (by decide +kernel), List.mem_of_getElem? (i := 485) (by decide +kernel)⟩
def lw_privs_1 : List (MethodName × Nat) := [(⟨"TurntableHouse", "changeLength", "(II)I"⟩, 5), (⟨"TurntableHouse", "houseChanges", "()V"⟩, 5), (⟨"TurntableHouse", "placeError", "(I)I"⟩, 5), (⟨"TurntableHouse", "moveIfPossible", "(II)I"⟩, 5), (⟨"TurntableHouse", "planError", "(II)I"⟩, 5), (⟨"TurntableHouse", "readyPlanner", "()LTurntableHouse$Planner;"⟩, 5), (⟨"TurntableHouse$Planner", "listPlaces", "()V"⟩, 13), (⟨"TurntableHouse$Planner", "waysToPut", "(I)I"⟩, 13), (⟨"TurntableHouse$Planner", "addGoals", "()V"⟩, 13), (⟨"TurntableHouse$Planner", "showRows", "(I)V"⟩, 13), (⟨"TurntableHouse$Planner", "putIntoLine", "(II)V"⟩, 13), (⟨"TurntableHouse$Planner", "improve", "(IILTurntableHouse$StateQueue;)V"⟩, 13), (⟨"TurntableHouse$Planner", "stateOf", "(LTurntableHouse$Yard;)I"⟩, 13), (⟨"TurntableHouse$Planner", "nearerQueue", "()LTurntableHouse$StateQueue;"⟩, 13), (⟨"TurntableHouse$Planner", "costOf", "(I)I"⟩, 13), (⟨"TurntableHouse$Planner", "listNeighbours", "(I)V"⟩, 13)]
theorem lw_r1 : ∀ q ∈ lw_privs_1, lw_okq q := List.forall_mem_cons.mpr ⟨lw_p0, List.forall_mem_cons.mpr ⟨lw_p1, List.forall_mem_cons.mpr ⟨lw_p2, List.forall_mem_cons.mpr ⟨lw_p3, List.forall_mem_cons.mpr ⟨lw_p4, List.forall_mem_cons.mpr ⟨lw_p5, List.forall_mem_cons.mpr ⟨lw_p6, List.forall_mem_cons.mpr ⟨lw_p7, List.forall_mem_cons.mpr ⟨lw_p8, List.forall_mem_cons.mpr ⟨lw_p9, List.forall_mem_cons.mpr ⟨lw_p10, List.forall_mem_cons.mpr ⟨lw_p11, List.forall_mem_cons.mpr ⟨lw_p12, List.forall_mem_cons.mpr ⟨lw_p13, List.forall_mem_cons.mpr ⟨lw_p14, List.forall_mem_cons.mpr ⟨lw_p15, fun _ h => absurd h List.not_mem_nil⟩⟩⟩⟩⟩⟩⟩⟩⟩⟩⟩⟩⟩⟩⟩⟩
theorem lw_p16 : lw_okq (⟨"TurntableHouse$Planner", "addNeighbour", "(II)V"⟩, 13) := ⟨⟨by decide +kernel, by decide +kernel⟩, List.mem_of_getElem? (i := 323) (by decide +kernel), List.mem_of_getElem? (i := 491) (by decide +kernel), List.mem_of_getElem? (i := 492) (by decide +kernel)⟩
theorem lw_p17 : lw_okq (⟨"TurntableHouse$Planner", "addMovements", "(I)V"⟩, 13) := ⟨⟨by decide +kernel, by decide +kernel⟩, List.mem_of_getElem? (i := 323) (by decide +kernel), List.mem_of_getElem? (i := 496) (by decide +kernel), List.mem_of_getElem? (i := 497) (by decide +kernel)⟩
theorem lw_p18 : lw_okq (⟨"TurntableHouse$Planner", "improveNeighbours", "(I)V"⟩, 13) := ⟨⟨by decide +kernel, by decide +kernel⟩, List.mem_of_getElem? (i := 323) (by decide +kernel), List.mem_of_getElem? (i := 504) (by decide +kernel), List.mem_of_getElem? (i := 505) (by decide +kernel)⟩
theorem lw_p19 : lw_okq (⟨"TurntableHouse$Planner", "firstOnBestPlan", "(I)I"⟩, 13) := ⟨⟨by decide +kernel, by decide +kernel⟩, List.mem_of_getElem? (i := 323) (by decide +kernel), List.mem_of_getElem? (i := 520) (by decide +kernel), List.mem_of_getElem? (i := 521) (by decide +kernel)⟩
theorem lw_p20 : lw_okq (⟨"TurntableHouseModel", "used", "(I)I"⟩, 32) := ⟨⟨by decide +kernel, by decide +kernel⟩, List.mem_of_getElem? (i := 536) (by decide +kernel), List.mem_of_getElem? (i := 650) (by decide +kernel), List.mem_of_getElem? (i := 651) (by decide +kernel)⟩
theorem lw_p21 : lw_okq (⟨"TurntableHouseModel", "cell", "(II)I"⟩, 32) := ⟨⟨by decide +kernel, by decide +kernel⟩, List.mem_of_getElem? (i := 536) (by decide +kernel), List.mem_of_getElem? (i := 654) (by decide +kernel), List.mem_of_getElem? (i := 655) (by decide +kernel)⟩
theorem lw_p22 : lw_okq (⟨"TurntableHouseModel", "change", "()V"⟩, 32) := ⟨⟨by decide +kernel, by decide +kernel⟩, List.mem_of_getElem? (i := 536) (by decide +kernel), List.mem_of_getElem? (i := 658) (by decide +kernel), List.mem_of_getElem? (i := 659) (by decide +kernel)⟩
theorem lw_p23 : lw_okq (⟨"TurntableHouseModel", "isTrack", "(I)Z"⟩, 32) := ⟨⟨by decide +kernel, by decide +kernel⟩, List.mem_of_getElem? (i := 536) (by decide +kernel), List.mem_of_getElem? (i := 670) (by decide +kernel), List.mem_of_getElem? (i := 671) (by decide +kernel)⟩
theorem lw_p24 : lw_okq (⟨"TurntableHouseModel", "insert", "(III)V"⟩, 32) := ⟨⟨by decide +kernel, by decide +kernel⟩, List.mem_of_getElem? (i := 536) (by decide +kernel), List.mem_of_getElem? (i := 674) (by decide +kernel), List.mem_of_getElem? (i := 675) (by decide +kernel)⟩
theorem lw_p25 : lw_okq (⟨"TurntableHouseModel", "placeOf", "(I)I"⟩, 32) := ⟨⟨by decide +kernel, by decide +kernel⟩, List.mem_of_getElem? (i := 536) (by decide +kernel), List.mem_of_getElem? (i := 682) (by decide +kernel), List.mem_of_getElem? (i := 683) (by decide +kernel)⟩
theorem lw_p26 : lw_okq (⟨"TurntableHouseModel", "take", "(II)I"⟩, 32) := ⟨⟨by decide +kernel, by decide +kernel⟩, List.mem_of_getElem? (i := 536) (by decide +kernel), List.mem_of_getElem? (i := 686) (by decide +kernel), List.mem_of_getElem? (i := 687) (by decide +kernel)⟩
theorem lw_p27 : lw_okq (⟨"TurntableHouseModel", "isLocomotive", "(I)Z"⟩, 32) := ⟨⟨by decide +kernel, by decide +kernel⟩, List.mem_of_getElem? (i := 536) (by decide +kernel), List.mem_of_getElem? (i := 694) (by decide +kernel), List.mem_of_getElem? (i := 695) (by decide +kernel)⟩
theorem lw_p28 : lw_okq (⟨"TurntableHouseModel", "pointed", "(I)I"⟩, 32) := ⟨⟨by decide +kernel, by decide +kernel⟩, List.mem_of_getElem? (i := 536) (by decide +kernel), List.mem_of_getElem? (i := 725) (by decide +kernel), List.mem_of_getElem? (i := 726) (by decide +kernel)⟩
theorem lw_p29 : lw_okq (⟨"TurntableHouseModel", "turnBy", "(I)V"⟩, 32) := ⟨⟨by decide +kernel, by decide +kernel⟩, List.mem_of_getElem? (i := 536) (by decide +kernel), List.mem_of_getElem? (i := 733) (by decide +kernel), List.mem_of_getElem? (i := 734) (by decide +kernel)⟩
theorem lw_p30 : lw_okq (⟨"TurntableHouseModel", "write", "(I)V"⟩, 32) := ⟨⟨by decide +kernel, by decide +kernel⟩, List.mem_of_getElem? (i := 536) (by decide +kernel), List.mem_of_getElem? (i := 737) (by decide +kernel), List.mem_of_getElem? (i := 738) (by decide +kernel)⟩
theorem lw_p31 : lw_okq (⟨"TurntableHouseModel", "wrongMove", "(IIII)I"⟩, 32) := ⟨⟨by decide +kernel, by decide +kernel⟩, List.mem_of_getElem? (i := 536) (by decide +kernel), List.mem_of_getElem? (i := 745) (by decide +kernel), List.mem_of_getElem? (i := 746) (by decide +kernel)⟩
def lw_privs_2 : List (MethodName × Nat) := [(⟨"TurntableHouse$Planner", "addNeighbour", "(II)V"⟩, 13), (⟨"TurntableHouse$Planner", "addMovements", "(I)V"⟩, 13), (⟨"TurntableHouse$Planner", "improveNeighbours", "(I)V"⟩, 13), (⟨"TurntableHouse$Planner", "firstOnBestPlan", "(I)I"⟩, 13), (⟨"TurntableHouseModel", "used", "(I)I"⟩, 32), (⟨"TurntableHouseModel", "cell", "(II)I"⟩, 32), (⟨"TurntableHouseModel", "change", "()V"⟩, 32), (⟨"TurntableHouseModel", "isTrack", "(I)Z"⟩, 32), (⟨"TurntableHouseModel", "insert", "(III)V"⟩, 32), (⟨"TurntableHouseModel", "placeOf", "(I)I"⟩, 32), (⟨"TurntableHouseModel", "take", "(II)I"⟩, 32), (⟨"TurntableHouseModel", "isLocomotive", "(I)Z"⟩, 32), (⟨"TurntableHouseModel", "pointed", "(I)I"⟩, 32), (⟨"TurntableHouseModel", "turnBy", "(I)V"⟩, 32), (⟨"TurntableHouseModel", "write", "(I)V"⟩, 32), (⟨"TurntableHouseModel", "wrongMove", "(IIII)I"⟩, 32)]
theorem lw_r2 : ∀ q ∈ lw_privs_2, lw_okq q := List.forall_mem_cons.mpr ⟨lw_p16, List.forall_mem_cons.mpr ⟨lw_p17, List.forall_mem_cons.mpr ⟨lw_p18, List.forall_mem_cons.mpr ⟨lw_p19, List.forall_mem_cons.mpr ⟨lw_p20, List.forall_mem_cons.mpr ⟨lw_p21, List.forall_mem_cons.mpr ⟨lw_p22, List.forall_mem_cons.mpr ⟨lw_p23, List.forall_mem_cons.mpr ⟨lw_p24, List.forall_mem_cons.mpr ⟨lw_p25, List.forall_mem_cons.mpr ⟨lw_p26, List.forall_mem_cons.mpr ⟨lw_p27, List.forall_mem_cons.mpr ⟨lw_p28, List.forall_mem_cons.mpr ⟨lw_p29, List.forall_mem_cons.mpr ⟨lw_p30, List.forall_mem_cons.mpr ⟨lw_p31, fun _ h => absurd h List.not_mem_nil⟩⟩⟩⟩⟩⟩⟩⟩⟩⟩⟩⟩⟩⟩⟩⟩
theorem lw_p32 : lw_okq (⟨"TurntableHouseModel", "goIn", "(II)V"⟩, 32) := ⟨⟨by decide +kernel, by decide +kernel⟩, List.mem_of_getElem? (i := 536) (by decide +kernel), List.mem_of_getElem? (i := 749) (by decide +kernel), List.mem_of_getElem? (i := 750) (by decide +kernel)⟩
theorem lw_p33 : lw_okq (⟨"TurntableHouseModel", "goOut", "(II)V"⟩, 32) := ⟨⟨by decide +kernel, by decide +kernel⟩, List.mem_of_getElem? (i := 536) (by decide +kernel), List.mem_of_getElem? (i := 757) (by decide +kernel), List.mem_of_getElem? (i := 758) (by decide +kernel)⟩
theorem lw_p34 : lw_okq (⟨"TurntableHouseModel", "wrongPlan", "(II)I"⟩, 32) := ⟨⟨by decide +kernel, by decide +kernel⟩, List.mem_of_getElem? (i := 536) (by decide +kernel), List.mem_of_getElem? (i := 777) (by decide +kernel), List.mem_of_getElem? (i := 778) (by decide +kernel)⟩
theorem lw_p35 : lw_okq (⟨"TurntableHouseModel", "layRows", "()V"⟩, 32) := ⟨⟨by decide +kernel, by decide +kernel⟩, List.mem_of_getElem? (i := 536) (by decide +kernel), List.mem_of_getElem? (i := 781) (by decide +kernel), List.mem_of_getElem? (i := 782) (by decide +kernel)⟩
theorem lw_p36 : lw_okq (⟨"TurntableHouseModel", "layAll", "(II)V"⟩, 32) := ⟨⟨by decide +kernel, by decide +kernel⟩, List.mem_of_getElem? (i := 536) (by decide +kernel), List.mem_of_getElem? (i := 785) (by decide +kernel), List.mem_of_getElem? (i := 786) (by decide +kernel)⟩
theorem lw_p37 : lw_okq (⟨"TurntableHouseModel", "layOrders", "(I)V"⟩, 32) := ⟨⟨by decide +kernel, by decide +kernel⟩, List.mem_of_getElem? (i := 536) (by decide +kernel), List.mem_of_getElem? (i := 789) (by decide +kernel), List.mem_of_getElem? (i := 790) (by decide +kernel)⟩
theorem lw_p38 : lw_okq (⟨"TurntableHouseModel", "layWays", "(I)V"⟩, 32) := ⟨⟨by decide +kernel, by decide +kernel⟩, List.mem_of_getElem? (i := 536) (by decide +kernel), List.mem_of_getElem? (i := 793) (by decide +kernel), List.mem_of_getElem? (i := 794) (by decide +kernel)⟩
theorem lw_p39 : lw_okq (⟨"TurntableHouseModel", "layGoals", "(II)V"⟩, 32) := ⟨⟨by decide +kernel, by decide +kernel⟩, List.mem_of_getElem? (i := 536) (by decide +kernel), List.mem_of_getElem? (i := 797) (by decide +kernel), List.mem_of_getElem? (i := 798) (by decide +kernel)⟩
theorem lw_p40 : lw_okq (⟨"TurntableHouseModel", "layOut", "(I)V"⟩, 32) := ⟨⟨by decide +kernel, by decide +kernel⟩, List.mem_of_getElem? (i := 536) (by decide +kernel), List.mem_of_getElem? (i := 801) (by decide +kernel), List.mem_of_getElem? (i := 802) (by decide +kernel)⟩
theorem lw_p41 : lw_okq (⟨"TurntableHouseModel", "canBe", "()Z"⟩, 32) := ⟨⟨by decide +kernel, by decide +kernel⟩, List.mem_of_getElem? (i := 536) (by decide +kernel), List.mem_of_getElem? (i := 805) (by decide +kernel), List.mem_of_getElem? (i := 806) (by decide +kernel)⟩
theorem lw_p42 : lw_okq (⟨"TurntableHouseModel", "sum", "(III)I"⟩, 32) := ⟨⟨by decide +kernel, by decide +kernel⟩, List.mem_of_getElem? (i := 536) (by decide +kernel), List.mem_of_getElem? (i := 809) (by decide +kernel), List.mem_of_getElem? (i := 810) (by decide +kernel)⟩
theorem lw_p43 : lw_okq (⟨"TurntableHouseModel", "isGoal", "(II)Z"⟩, 32) := ⟨⟨by decide +kernel, by decide +kernel⟩, List.mem_of_getElem? (i := 536) (by decide +kernel), List.mem_of_getElem? (i := 813) (by decide +kernel), List.mem_of_getElem? (i := 814) (by decide +kernel)⟩
theorem lw_p44 : lw_okq (⟨"TurntableHouseModel", "addTurned", "(III)V"⟩, 32) := ⟨⟨by decide +kernel, by decide +kernel⟩, List.mem_of_getElem? (i := 536) (by decide +kernel), List.mem_of_getElem? (i := 817) (by decide +kernel), List.mem_of_getElem? (i := 818) (by decide +kernel)⟩
theorem lw_p45 : lw_okq (⟨"TurntableHouseModel", "finishLevel", "(I)V"⟩, 32) := ⟨⟨by decide +kernel, by decide +kernel⟩, List.mem_of_getElem? (i := 536) (by decide +kernel), List.mem_of_getElem? (i := 821) (by decide +kernel), List.mem_of_getElem? (i := 822) (by decide +kernel)⟩
theorem lw_p46 : lw_okq (⟨"TurntableHouseModel", "finishOne", "(III)V"⟩, 32) := ⟨⟨by decide +kernel, by decide +kernel⟩, List.mem_of_getElem? (i := 536) (by decide +kernel), List.mem_of_getElem? (i := 825) (by decide +kernel), List.mem_of_getElem? (i := 826) (by decide +kernel)⟩
theorem lw_p47 : lw_okq (⟨"TurntableHouseModel", "behind", "(II)I"⟩, 32) := ⟨⟨by decide +kernel, by decide +kernel⟩, List.mem_of_getElem? (i := 536) (by decide +kernel), List.mem_of_getElem? (i := 829) (by decide +kernel), List.mem_of_getElem? (i := 830) (by decide +kernel)⟩
def lw_privs_3 : List (MethodName × Nat) := [(⟨"TurntableHouseModel", "goIn", "(II)V"⟩, 32), (⟨"TurntableHouseModel", "goOut", "(II)V"⟩, 32), (⟨"TurntableHouseModel", "wrongPlan", "(II)I"⟩, 32), (⟨"TurntableHouseModel", "layRows", "()V"⟩, 32), (⟨"TurntableHouseModel", "layAll", "(II)V"⟩, 32), (⟨"TurntableHouseModel", "layOrders", "(I)V"⟩, 32), (⟨"TurntableHouseModel", "layWays", "(I)V"⟩, 32), (⟨"TurntableHouseModel", "layGoals", "(II)V"⟩, 32), (⟨"TurntableHouseModel", "layOut", "(I)V"⟩, 32), (⟨"TurntableHouseModel", "canBe", "()Z"⟩, 32), (⟨"TurntableHouseModel", "sum", "(III)I"⟩, 32), (⟨"TurntableHouseModel", "isGoal", "(II)Z"⟩, 32), (⟨"TurntableHouseModel", "addTurned", "(III)V"⟩, 32), (⟨"TurntableHouseModel", "finishLevel", "(I)V"⟩, 32), (⟨"TurntableHouseModel", "finishOne", "(III)V"⟩, 32), (⟨"TurntableHouseModel", "behind", "(II)I"⟩, 32)]
theorem lw_r3 : ∀ q ∈ lw_privs_3, lw_okq q := List.forall_mem_cons.mpr ⟨lw_p32, List.forall_mem_cons.mpr ⟨lw_p33, List.forall_mem_cons.mpr ⟨lw_p34, List.forall_mem_cons.mpr ⟨lw_p35, List.forall_mem_cons.mpr ⟨lw_p36, List.forall_mem_cons.mpr ⟨lw_p37, List.forall_mem_cons.mpr ⟨lw_p38, List.forall_mem_cons.mpr ⟨lw_p39, List.forall_mem_cons.mpr ⟨lw_p40, List.forall_mem_cons.mpr ⟨lw_p41, List.forall_mem_cons.mpr ⟨lw_p42, List.forall_mem_cons.mpr ⟨lw_p43, List.forall_mem_cons.mpr ⟨lw_p44, List.forall_mem_cons.mpr ⟨lw_p45, List.forall_mem_cons.mpr ⟨lw_p46, List.forall_mem_cons.mpr ⟨lw_p47, fun _ h => absurd h List.not_mem_nil⟩⟩⟩⟩⟩⟩⟩⟩⟩⟩⟩⟩⟩⟩⟩⟩
theorem lw_p48 : lw_okq (⟨"TurntableHouseModel", "takeHere", "(II)I"⟩, 32) := ⟨⟨by decide +kernel, by decide +kernel⟩, List.mem_of_getElem? (i := 536) (by decide +kernel), List.mem_of_getElem? (i := 833) (by decide +kernel), List.mem_of_getElem? (i := 834) (by decide +kernel)⟩
theorem lw_p49 : lw_okq (⟨"TurntableHouseModel", "insertHere", "(III)V"⟩, 32) := ⟨⟨by decide +kernel, by decide +kernel⟩, List.mem_of_getElem? (i := 536) (by decide +kernel), List.mem_of_getElem? (i := 837) (by decide +kernel), List.mem_of_getElem? (i := 838) (by decide +kernel)⟩
theorem lw_p50 : lw_okq (⟨"TurntableHouseModel", "numberOf", "()I"⟩, 32) := ⟨⟨by decide +kernel, by decide +kernel⟩, List.mem_of_getElem? (i := 536) (by decide +kernel), List.mem_of_getElem? (i := 841) (by decide +kernel), List.mem_of_getElem? (i := 842) (by decide +kernel)⟩
theorem lw_p51 : lw_okq (⟨"TurntableHouseModel", "addMoved", "(III)V"⟩, 32) := ⟨⟨by decide +kernel, by decide +kernel⟩, List.mem_of_getElem? (i := 536) (by decide +kernel), List.mem_of_getElem? (i := 845) (by decide +kernel), List.mem_of_getElem? (i := 846) (by decide +kernel)⟩
theorem lw_p52 : lw_okq (⟨"TurntableHouseModel", "situationNow", "()I"⟩, 32) := ⟨⟨by decide +kernel, by decide +kernel⟩, List.mem_of_getElem? (i := 536) (by decide +kernel), List.mem_of_getElem? (i := 849) (by decide +kernel), List.mem_of_getElem? (i := 850) (by decide +kernel)⟩
theorem lw_p53 : lw_okq (⟨"TurntableHouseModel", "bestAction", "(I)I"⟩, 32) := ⟨⟨by decide +kernel, by decide +kernel⟩, List.mem_of_getElem? (i := 536) (by decide +kernel), List.mem_of_getElem? (i := 857) (by decide +kernel), List.mem_of_getElem? (i := 858) (by decide +kernel)⟩
def lw_privs_4 : List (MethodName × Nat) := [(⟨"TurntableHouseModel", "takeHere", "(II)I"⟩, 32), (⟨"TurntableHouseModel", "insertHere", "(III)V"⟩, 32), (⟨"TurntableHouseModel", "numberOf", "()I"⟩, 32), (⟨"TurntableHouseModel", "addMoved", "(III)V"⟩, 32), (⟨"TurntableHouseModel", "situationNow", "()I"⟩, 32), (⟨"TurntableHouseModel", "bestAction", "(I)I"⟩, 32)]
theorem lw_r4 : ∀ q ∈ lw_privs_4, lw_okq q := List.forall_mem_cons.mpr ⟨lw_p48, List.forall_mem_cons.mpr ⟨lw_p49, List.forall_mem_cons.mpr ⟨lw_p50, List.forall_mem_cons.mpr ⟨lw_p51, List.forall_mem_cons.mpr ⟨lw_p52, List.forall_mem_cons.mpr ⟨lw_p53, fun _ h => absurd h List.not_mem_nil⟩⟩⟩⟩⟩⟩
def lw_privs : List (MethodName × Nat) := lw_privs_1 ++ (lw_privs_2 ++ (lw_privs_3 ++ (lw_privs_4)))
def lw_tbl : List Cond := k2_sels lw_privs ++ tables_1
theorem lw_privs_ok : ∀ q ∈ lw_privs, lw_okq q := by
  show ∀ q ∈ lw_privs_1 ++ (lw_privs_2 ++ (lw_privs_3 ++ (lw_privs_4))), lw_okq q
  exact List.forall_mem_append.mpr ⟨lw_r1, List.forall_mem_append.mpr ⟨lw_r2, List.forall_mem_append.mpr ⟨lw_r3, lw_r4⟩⟩⟩

def RX0 : String := "TurntableHouse$ActionLog"
def TX0 : u_T := fun k => match k with
  | 0 => ("TurntableHouse$ActionLog", "codes", "[I", true)
  | _ => ("TurntableHouse$ActionLog", "count", "I", false)
def tyX0 : Nat → FieldType := fun k => match k with
  | 0 => .array .int
  | _ => .int
abbrev wsX00 : List Cond := u_ws RX0 TX0 2
theorem nmX0 : ∀ a, a < 2 → ∀ b, b < 2 → a ≠ b → (TX0 a).2.1 ≠ (TX0 b).2.1 := by decide +kernel
theorem tyX0_ok : ∀ k, k < 2 → parseFieldDescriptor (TX0 k).2.2.1 = some (tyX0 k) := by decide +kernel
abbrev cX0_init : ByteArray := prog_2_method_1_code
def yX0_init : MethodName := ⟨RX0, "<init>", "()V"⟩
abbrev cX0_append : ByteArray := prog_2_method_2_code
def yX0_append : MethodName := ⟨RX0, "append", "(I)V"⟩
abbrev cX0_forgetAll : ByteArray := prog_2_method_3_code
def yX0_forgetAll : MethodName := ⟨RX0, "forgetAll", "()V"⟩
abbrev cX0_latest : ByteArray := prog_2_method_4_code
def yX0_latest : MethodName := ⟨RX0, "latest", "(I)I"⟩
abbrev cX0_removeLatest : ByteArray := prog_2_method_5_code
def yX0_removeLatest : MethodName := ⟨RX0, "removeLatest", "()I"⟩
def RX1 : String := "TurntableHouse$Planner"
def TX1 : u_T := fun k => match k with
  | 0 => ("TurntableHouse$Planner", "view", "LTurntableHouse$Yard;", true)
  | 1 => ("TurntableHouse$Planner", "places", "[I", true)
  | 2 => ("TurntableHouse$Planner", "lineSlots", "[I", true)
  | 3 => ("TurntableHouse$Planner", "codes", "[I", true)
  | 4 => ("TurntableHouse$Planner", "neighbours", "[I", true)
  | 5 => ("TurntableHouse$Planner", "costs", "[I", true)
  | 6 => ("TurntableHouse$Planner", "afterTurns", "LTurntableHouse$StateQueue;", true)
  | 7 => ("TurntableHouse$Planner", "afterMovements", "LTurntableHouse$StateQueue;", true)
  | 8 => ("TurntableHouse$Planner", "placeCount", "I", false)
  | 9 => ("TurntableHouse$Planner", "stateCount", "I", false)
  | 10 => ("TurntableHouse$Planner", "found", "I", false)
  | 11 => ("TurntableHouse$Planner", "goalLocomotive", "I", false)
  | _ => ("TurntableHouse$Planner", "goalPosition", "I", false)
def tyX1 : Nat → FieldType := fun k => match k with
  | 0 => .object "TurntableHouse$Yard"
  | 1 => .array .int
  | 2 => .array .int
  | 3 => .array .int
  | 4 => .array .int
  | 5 => .array .int
  | 6 => .object "TurntableHouse$StateQueue"
  | 7 => .object "TurntableHouse$StateQueue"
  | 8 => .int
  | 9 => .int
  | 10 => .int
  | 11 => .int
  | _ => .int
abbrev wsX10 : List Cond := u_ws RX1 TX1 13
theorem nmX1 : ∀ a, a < 13 → ∀ b, b < 13 → a ≠ b → (TX1 a).2.1 ≠ (TX1 b).2.1 := by decide +kernel
theorem tyX1_ok : ∀ k, k < 13 → parseFieldDescriptor (TX1 k).2.2.1 = some (tyX1 k) := by decide +kernel
abbrev cX1_init : ByteArray := prog_3_method_1_code
def yX1_init : MethodName := ⟨RX1, "<init>", "()V"⟩
abbrev cX1_forgetGoal : ByteArray := prog_3_method_2_code
def yX1_forgetGoal : MethodName := ⟨RX1, "forgetGoal", "()V"⟩
abbrev cX1_aimAt : ByteArray := prog_3_method_3_code
def yX1_aimAt : MethodName := ⟨RX1, "aimAt", "(LTurntableHouse$Yard;II)V"⟩
abbrev cX1_bestCost : ByteArray := prog_3_method_4_code
def yX1_bestCost : MethodName := ⟨RX1, "bestCost", "(LTurntableHouse$Yard;)I"⟩
abbrev cX1_actionAt : ByteArray := prog_3_method_5_code
def yX1_actionAt : MethodName := ⟨RX1, "actionAt", "(LTurntableHouse$Yard;I)I"⟩
abbrev cX1_listPlaces : ByteArray := prog_3_method_6_code
def yX1_listPlaces : MethodName := ⟨RX1, "listPlaces", "()V"⟩
abbrev cX1_waysToPut : ByteArray := prog_3_method_7_code
def yX1_waysToPut : MethodName := ⟨RX1, "waysToPut", "(I)I"⟩
abbrev cX1_addGoals : ByteArray := prog_3_method_8_code
def yX1_addGoals : MethodName := ⟨RX1, "addGoals", "()V"⟩
abbrev cX1_showRows : ByteArray := prog_3_method_9_code
def yX1_showRows : MethodName := ⟨RX1, "showRows", "(I)V"⟩
abbrev cX1_putIntoLine : ByteArray := prog_3_method_10_code
def yX1_putIntoLine : MethodName := ⟨RX1, "putIntoLine", "(II)V"⟩
abbrev cX1_stateOf : ByteArray := prog_3_method_11_code
def yX1_stateOf : MethodName := ⟨RX1, "stateOf", "(LTurntableHouse$Yard;)I"⟩
abbrev cX1_listNeighbours : ByteArray := prog_3_method_12_code
def yX1_listNeighbours : MethodName := ⟨RX1, "listNeighbours", "(I)V"⟩
abbrev cX1_addMovements : ByteArray := prog_3_method_13_code
def yX1_addMovements : MethodName := ⟨RX1, "addMovements", "(I)V"⟩
abbrev cX1_addNeighbour : ByteArray := prog_3_method_14_code
def yX1_addNeighbour : MethodName := ⟨RX1, "addNeighbour", "(II)V"⟩
abbrev cX1_improveNeighbours : ByteArray := prog_3_method_15_code
def yX1_improveNeighbours : MethodName := ⟨RX1, "improveNeighbours", "(I)V"⟩
abbrev cX1_improve : ByteArray := prog_3_method_16_code
def yX1_improve : MethodName := ⟨RX1, "improve", "(IILTurntableHouse$StateQueue;)V"⟩
abbrev cX1_firstOnBestPlan : ByteArray := prog_3_method_17_code
def yX1_firstOnBestPlan : MethodName := ⟨RX1, "firstOnBestPlan", "(I)I"⟩
abbrev cX1_nearerQueue : ByteArray := prog_3_method_18_code
def yX1_nearerQueue : MethodName := ⟨RX1, "nearerQueue", "()LTurntableHouse$StateQueue;"⟩
abbrev cX1_costOf : ByteArray := prog_3_method_19_code
def yX1_costOf : MethodName := ⟨RX1, "costOf", "(I)I"⟩
abbrev cX1_costOfAction : ByteArray := prog_3_method_20_code
def yX1_costOfAction : MethodName := ⟨RX1, "costOfAction", "(I)I"⟩
def RX2 : String := "TurntableHouse$StateQueue"
def TX2 : u_T := fun k => match k with
  | 0 => ("TurntableHouse$StateQueue", "states", "[I", true)
  | 1 => ("TurntableHouse$StateQueue", "head", "I", false)
  | _ => ("TurntableHouse$StateQueue", "tail", "I", false)
def tyX2 : Nat → FieldType := fun k => match k with
  | 0 => .array .int
  | 1 => .int
  | _ => .int
abbrev wsX20 : List Cond := u_ws RX2 TX2 3
theorem nmX2 : ∀ a, a < 3 → ∀ b, b < 3 → a ≠ b → (TX2 a).2.1 ≠ (TX2 b).2.1 := by decide +kernel
theorem tyX2_ok : ∀ k, k < 3 → parseFieldDescriptor (TX2 k).2.2.1 = some (tyX2 k) := by decide +kernel
abbrev cX2_init : ByteArray := prog_4_method_1_code
def yX2_init : MethodName := ⟨RX2, "<init>", "()V"⟩
abbrev cX2_reset : ByteArray := prog_4_method_2_code
def yX2_reset : MethodName := ⟨RX2, "reset", "()V"⟩
abbrev cX2_add : ByteArray := prog_4_method_3_code
def yX2_add : MethodName := ⟨RX2, "add", "(I)V"⟩
abbrev cX2_first : ByteArray := prog_4_method_4_code
def yX2_first : MethodName := ⟨RX2, "first", "()I"⟩
abbrev cX2_removeFirst : ByteArray := prog_4_method_5_code
def yX2_removeFirst : MethodName := ⟨RX2, "removeFirst", "()I"⟩
def RX3 : String := "TurntableHouse$Yard"
def TX3 : u_T := fun k => match k with
  | 0 => ("TurntableHouse$Yard", "lengths", "[I", true)
  | 1 => ("TurntableHouse$Yard", "used", "[I", true)
  | 2 => ("TurntableHouse$Yard", "counts", "[I", true)
  | 3 => ("TurntableHouse$Yard", "rows", "[I", true)
  | 4 => ("TurntableHouse$Yard", "sizes", "[I", true)
  | 5 => ("TurntableHouse$Yard", "locomotiveCount", "I", false)
  | 6 => ("TurntableHouse$Yard", "deadBits", "I", false)
  | _ => ("TurntableHouse$Yard", "endA", "I", false)
def tyX3 : Nat → FieldType := fun k => match k with
  | 0 => .array .int
  | 1 => .array .int
  | 2 => .array .int
  | 3 => .array .int
  | 4 => .array .int
  | 5 => .int
  | 6 => .int
  | _ => .int
abbrev wsX30 : List Cond := u_ws RX3 TX3 8
theorem nmX3 : ∀ a, a < 8 → ∀ b, b < 8 → a ≠ b → (TX3 a).2.1 ≠ (TX3 b).2.1 := by decide +kernel
theorem tyX3_ok : ∀ k, k < 8 → parseFieldDescriptor (TX3 k).2.2.1 = some (tyX3 k) := by decide +kernel
abbrev cX3_init : ByteArray := prog_5_method_1_code
def yX3_init : MethodName := ⟨RX3, "<init>", "()V"⟩
abbrev cX3_copyFrom : ByteArray := prog_5_method_2_code
def yX3_copyFrom : MethodName := ⟨RX3, "copyFrom", "(LTurntableHouse$Yard;)V"⟩
abbrev cX3_isLocomotive : ByteArray := prog_5_method_3_code
def yX3_isLocomotive : MethodName := ⟨RX3, "isLocomotive", "(I)Z"⟩
abbrev cX3_isAlive : ByteArray := prog_5_method_4_code
def yX3_isAlive : MethodName := ⟨RX3, "isAlive", "(I)Z"⟩
abbrev cX3_sizeOf : ByteArray := prog_5_method_5_code
def yX3_sizeOf : MethodName := ⟨RX3, "sizeOf", "(I)I"⟩
abbrev cX3_lengthAt : ByteArray := prog_5_method_6_code
def yX3_lengthAt : MethodName := ⟨RX3, "lengthAt", "(I)I"⟩
abbrev cX3_usedAt : ByteArray := prog_5_method_7_code
def yX3_usedAt : MethodName := ⟨RX3, "usedAt", "(I)I"⟩
abbrev cX3_freeAt : ByteArray := prog_5_method_8_code
def yX3_freeAt : MethodName := ⟨RX3, "freeAt", "(I)I"⟩
abbrev cX3_countAt : ByteArray := prog_5_method_9_code
def yX3_countAt : MethodName := ⟨RX3, "countAt", "(I)I"⟩
abbrev cX3_locomotiveAt : ByteArray := prog_5_method_10_code
def yX3_locomotiveAt : MethodName := ⟨RX3, "locomotiveAt", "(II)I"⟩
abbrev cX3_placeOf : ByteArray := prog_5_method_11_code
def yX3_placeOf : MethodName := ⟨RX3, "placeOf", "(I)I"⟩
abbrev cX3_indexIn : ByteArray := prog_5_method_12_code
def yX3_indexIn : MethodName := ⟨RX3, "indexIn", "(II)I"⟩
abbrev cX3_trackCount : ByteArray := prog_5_method_13_code
def yX3_trackCount : MethodName := ⟨RX3, "trackCount", "()I"⟩
abbrev cX3_positionAt : ByteArray := prog_5_method_14_code
def yX3_positionAt : MethodName := ⟨RX3, "positionAt", "(I)I"⟩
abbrev cX3_setLength : ByteArray := prog_5_method_15_code
def yX3_setLength : MethodName := ⟨RX3, "setLength", "(II)V"⟩
abbrev cX3_markDead : ByteArray := prog_5_method_16_code
def yX3_markDead : MethodName := ⟨RX3, "markDead", "(IZ)V"⟩
abbrev cX3_addFirst : ByteArray := prog_5_method_17_code
def yX3_addFirst : MethodName := ⟨RX3, "addFirst", "(II)I"⟩
abbrev cX3_removeNewest : ByteArray := prog_5_method_18_code
def yX3_removeNewest : MethodName := ⟨RX3, "removeNewest", "()I"⟩
abbrev cX3_takeOut : ByteArray := prog_5_method_19_code
def yX3_takeOut : MethodName := ⟨RX3, "takeOut", "(II)I"⟩
abbrev cX3_putIn : ByteArray := prog_5_method_20_code
def yX3_putIn : MethodName := ⟨RX3, "putIn", "(III)V"⟩
abbrev cX3_emptyRows : ByteArray := prog_5_method_21_code
def yX3_emptyRows : MethodName := ⟨RX3, "emptyRows", "()V"⟩
abbrev cX3_allFit : ByteArray := prog_5_method_22_code
def yX3_allFit : MethodName := ⟨RX3, "allFit", "()Z"⟩
abbrev cX3_sourceOf : ByteArray := prog_5_method_23_code
def yX3_sourceOf : MethodName := ⟨RX3, "sourceOf", "(I)I"⟩
abbrev cX3_targetOf : ByteArray := prog_5_method_24_code
def yX3_targetOf : MethodName := ⟨RX3, "targetOf", "(I)I"⟩
abbrev cX3_movementError : ByteArray := prog_5_method_25_code
def yX3_movementError : MethodName := ⟨RX3, "movementError", "(II)I"⟩
abbrev cX3_shift : ByteArray := prog_5_method_26_code
def yX3_shift : MethodName := ⟨RX3, "shift", "(II)V"⟩
abbrev cX3_carryOut : ByteArray := prog_5_method_27_code
def yX3_carryOut : MethodName := ⟨RX3, "carryOut", "(I)V"⟩
def RX4 : String := "TurntableHouse"
def TX4 : u_T := fun k => match k with
  | 0 => ("TurntableHouse", "yard", "LTurntableHouse$Yard;", true)
  | 1 => ("TurntableHouse", "slots", "[LTurntableHouse$Yard;", true)
  | 2 => ("TurntableHouse", "actions", "LTurntableHouse$ActionLog;", true)
  | 3 => ("TurntableHouse", "planner", "LTurntableHouse$Planner;", false)
  | _ => ("TurntableHouse", "turnCount", "I", false)
def tyX4 : Nat → FieldType := fun k => match k with
  | 0 => .object "TurntableHouse$Yard"
  | 1 => .array (.object "TurntableHouse$Yard")
  | 2 => .object "TurntableHouse$ActionLog"
  | 3 => .object "TurntableHouse$Planner"
  | _ => .int
abbrev wsX40 : List Cond := u_ws RX4 TX4 5
theorem nmX4 : ∀ a, a < 5 → ∀ b, b < 5 → a ≠ b → (TX4 a).2.1 ≠ (TX4 b).2.1 := by decide +kernel
theorem tyX4_ok : ∀ k, k < 5 → parseFieldDescriptor (TX4 k).2.2.1 = some (tyX4 k) := by decide +kernel
abbrev cX4_init : ByteArray := prog_1_method_1_code
def yX4_init : MethodName := ⟨RX4, "<init>", "()V"⟩
abbrev cX4_setTrack : ByteArray := prog_1_method_2_code
def yX4_setTrack : MethodName := ⟨RX4, "setTrack", "(II)I"⟩
abbrev cX4_setTableLength : ByteArray := prog_1_method_3_code
def yX4_setTableLength : MethodName := ⟨RX4, "setTableLength", "(I)I"⟩
abbrev cX4_addLocomotive : ByteArray := prog_1_method_4_code
def yX4_addLocomotive : MethodName := ⟨RX4, "addLocomotive", "(II)I"⟩
abbrev cX4_removeLocomotive : ByteArray := prog_1_method_5_code
def yX4_removeLocomotive : MethodName := ⟨RX4, "removeLocomotive", "()I"⟩
abbrev cX4_setDead : ByteArray := prog_1_method_6_code
def yX4_setDead : MethodName := ⟨RX4, "setDead", "(IZ)I"⟩
abbrev cX4_locomotives : ByteArray := prog_1_method_7_code
def yX4_locomotives : MethodName := ⟨RX4, "locomotives", "()I"⟩
abbrev cX4_trackLength : ByteArray := prog_1_method_8_code
def yX4_trackLength : MethodName := ⟨RX4, "trackLength", "(I)I"⟩
abbrev cX4_freeLength : ByteArray := prog_1_method_9_code
def yX4_freeLength : MethodName := ⟨RX4, "freeLength", "(I)I"⟩
abbrev cX4_row : ByteArray := prog_1_method_10_code
def yX4_row : MethodName := ⟨RX4, "row", "(II)I"⟩
abbrev cX4_place : ByteArray := prog_1_method_11_code
def yX4_place : MethodName := ⟨RX4, "place", "(I)I"⟩
abbrev cX4_pointsTo : ByteArray := prog_1_method_12_code
def yX4_pointsTo : MethodName := ⟨RX4, "pointsTo", "(I)I"⟩
abbrev cX4_turn : ByteArray := prog_1_method_13_code
def yX4_turn : MethodName := ⟨RX4, "turn", "(I)I"⟩
abbrev cX4_moveIn : ByteArray := prog_1_method_14_code
def yX4_moveIn : MethodName := ⟨RX4, "moveIn", "(II)I"⟩
abbrev cX4_moveOut : ByteArray := prog_1_method_15_code
def yX4_moveOut : MethodName := ⟨RX4, "moveOut", "(II)I"⟩
abbrev cX4_turnsMade : ByteArray := prog_1_method_16_code
def yX4_turnsMade : MethodName := ⟨RX4, "turnsMade", "()I"⟩
abbrev cX4_undo : ByteArray := prog_1_method_17_code
def yX4_undo : MethodName := ⟨RX4, "undo", "()I"⟩
abbrev cX4_log : ByteArray := prog_1_method_18_code
def yX4_log : MethodName := ⟨RX4, "log", "(I)I"⟩
abbrev cX4_fewestTurns : ByteArray := prog_1_method_19_code
def yX4_fewestTurns : MethodName := ⟨RX4, "fewestTurns", "(II)I"⟩
abbrev cX4_plan : ByteArray := prog_1_method_20_code
def yX4_plan : MethodName := ⟨RX4, "plan", "(III)I"⟩
abbrev cX4_save : ByteArray := prog_1_method_21_code
def yX4_save : MethodName := ⟨RX4, "save", "(I)I"⟩
abbrev cX4_restore : ByteArray := prog_1_method_22_code
def yX4_restore : MethodName := ⟨RX4, "restore", "(I)I"⟩
abbrev cX4_isPosition : ByteArray := prog_1_method_23_code
def yX4_isPosition : MethodName := ⟨RX4, "isPosition", "(I)Z"⟩
abbrev cX4_isEnd : ByteArray := prog_1_method_24_code
def yX4_isEnd : MethodName := ⟨RX4, "isEnd", "(I)Z"⟩
abbrev cX4_isSlot : ByteArray := prog_1_method_25_code
def yX4_isSlot : MethodName := ⟨RX4, "isSlot", "(I)Z"⟩
abbrev cX4_endOf : ByteArray := prog_1_method_26_code
def yX4_endOf : MethodName := ⟨RX4, "endOf", "(I)I"⟩
abbrev cX4_reverseOf : ByteArray := prog_1_method_27_code
def yX4_reverseOf : MethodName := ⟨RX4, "reverseOf", "(I)I"⟩
abbrev cX4_placeError : ByteArray := prog_1_method_28_code
def yX4_placeError : MethodName := ⟨RX4, "placeError", "(I)I"⟩
abbrev cX4_planError : ByteArray := prog_1_method_29_code
def yX4_planError : MethodName := ⟨RX4, "planError", "(II)I"⟩
abbrev cX4_changeLength : ByteArray := prog_1_method_30_code
def yX4_changeLength : MethodName := ⟨RX4, "changeLength", "(II)I"⟩
abbrev cX4_moveIfPossible : ByteArray := prog_1_method_31_code
def yX4_moveIfPossible : MethodName := ⟨RX4, "moveIfPossible", "(II)I"⟩
abbrev cX4_houseChanges : ByteArray := prog_1_method_32_code
def yX4_houseChanges : MethodName := ⟨RX4, "houseChanges", "()V"⟩
abbrev cX4_readyPlanner : ByteArray := prog_1_method_33_code
def yX4_readyPlanner : MethodName := ⟨RX4, "readyPlanner", "()LTurntableHouse$Planner;"⟩
def RX5 : String := "TurntableHouseModel"
def TX5 : u_T := fun k => match k with
  | 0 => ("TurntableHouseModel", "at", "[I", true)
  | 1 => ("TurntableHouseModel", "slots", "[I", true)
  | 2 => ("TurntableHouseModel", "isSaved", "[Z", true)
  | 3 => ("TurntableHouseModel", "made", "I", false)
  | 4 => ("TurntableHouseModel", "logged", "I", false)
  | 5 => ("TurntableHouseModel", "entries", "[I", true)
  | 6 => ("TurntableHouseModel", "laidFor", "I", false)
  | 7 => ("TurntableHouseModel", "orders", "I", false)
  | 8 => ("TurntableHouseModel", "order", "[I", true)
  | 9 => ("TurntableHouseModel", "orderOf", "[I", true)
  | 10 => ("TurntableHouseModel", "ways", "I", false)
  | 11 => ("TurntableHouseModel", "way", "[I", true)
  | 12 => ("TurntableHouseModel", "wayOf", "[I", true)
  | 13 => ("TurntableHouseModel", "tracks", "I", false)
  | 14 => ("TurntableHouseModel", "placeOfRow", "[I", true)
  | 15 => ("TurntableHouseModel", "rowOfPlace", "[I", true)
  | 16 => ("TurntableHouseModel", "rows", "[I", true)
  | 17 => ("TurntableHouseModel", "many", "[I", true)
  | 18 => ("TurntableHouseModel", "angle", "I", false)
  | 19 => ("TurntableHouseModel", "turnsTo", "[I", true)
  | 20 => ("TurntableHouseModel", "actionsTo", "[I", true)
  | 21 => ("TurntableHouseModel", "isDone", "[Z", true)
  | 22 => ("TurntableHouseModel", "turned", "[I", true)
  | 23 => ("TurntableHouseModel", "moved", "[I", true)
  | 24 => ("TurntableHouseModel", "done", "[I", true)
  | 25 => ("TurntableHouseModel", "turnedFor", "[I", true)
  | 26 => ("TurntableHouseModel", "movedFor", "[I", true)
  | 27 => ("TurntableHouseModel", "wasTurned", "[I", true)
  | 28 => ("TurntableHouseModel", "wasMoved", "[I", true)
  | 29 => ("TurntableHouseModel", "turnedMany", "I", false)
  | 30 => ("TurntableHouseModel", "movedMany", "I", false)
  | _ => ("TurntableHouseModel", "doneMany", "I", false)
def tyX5 : Nat → FieldType := fun k => match k with
  | 0 => .array .int
  | 1 => .array .int
  | 2 => .array .boolean
  | 3 => .int
  | 4 => .int
  | 5 => .array .int
  | 6 => .int
  | 7 => .int
  | 8 => .array .int
  | 9 => .array .int
  | 10 => .int
  | 11 => .array .int
  | 12 => .array .int
  | 13 => .int
  | 14 => .array .int
  | 15 => .array .int
  | 16 => .array .int
  | 17 => .array .int
  | 18 => .int
  | 19 => .array .int
  | 20 => .array .int
  | 21 => .array .boolean
  | 22 => .array .int
  | 23 => .array .int
  | 24 => .array .int
  | 25 => .array .int
  | 26 => .array .int
  | 27 => .array .int
  | 28 => .array .int
  | 29 => .int
  | 30 => .int
  | _ => .int
abbrev wsX50 : List Cond := u_ws RX5 TX5 32
theorem nmX5 : ∀ a, a < 32 → ∀ b, b < 32 → a ≠ b → (TX5 a).2.1 ≠ (TX5 b).2.1 := by decide +kernel
theorem tyX5_ok : ∀ k, k < 32 → parseFieldDescriptor (TX5 k).2.2.1 = some (tyX5 k) := by decide +kernel
abbrev cX5_init : ByteArray := prog_7_method_1_code
def yX5_init : MethodName := ⟨RX5, "<init>", "()V"⟩
abbrev cX5_in : ByteArray := prog_7_method_2_code
def yX5_in : MethodName := ⟨RX5, "in", "(III)Z"⟩
abbrev cX5_change : ByteArray := prog_7_method_3_code
def yX5_change : MethodName := ⟨RX5, "change", "()V"⟩
abbrev cX5_isPosition : ByteArray := prog_7_method_4_code
def yX5_isPosition : MethodName := ⟨RX5, "isPosition", "(I)Z"⟩
abbrev cX5_isLocomotive : ByteArray := prog_7_method_5_code
def yX5_isLocomotive : MethodName := ⟨RX5, "isLocomotive", "(I)Z"⟩
abbrev cX5_isTrack : ByteArray := prog_7_method_6_code
def yX5_isTrack : MethodName := ⟨RX5, "isTrack", "(I)Z"⟩
abbrev cX5_cell : ByteArray := prog_7_method_7_code
def yX5_cell : MethodName := ⟨RX5, "cell", "(II)I"⟩
abbrev cX5_used : ByteArray := prog_7_method_8_code
def yX5_used : MethodName := ⟨RX5, "used", "(I)I"⟩
abbrev cX5_setTrack : ByteArray := prog_7_method_9_code
def yX5_setTrack : MethodName := ⟨RX5, "setTrack", "(II)I"⟩
abbrev cX5_setTableLength : ByteArray := prog_7_method_10_code
def yX5_setTableLength : MethodName := ⟨RX5, "setTableLength", "(I)I"⟩
abbrev cX5_insert : ByteArray := prog_7_method_11_code
def yX5_insert : MethodName := ⟨RX5, "insert", "(III)V"⟩
abbrev cX5_take : ByteArray := prog_7_method_12_code
def yX5_take : MethodName := ⟨RX5, "take", "(II)I"⟩
abbrev cX5_addLocomotive : ByteArray := prog_7_method_13_code
def yX5_addLocomotive : MethodName := ⟨RX5, "addLocomotive", "(II)I"⟩
abbrev cX5_placeOf : ByteArray := prog_7_method_14_code
def yX5_placeOf : MethodName := ⟨RX5, "placeOf", "(I)I"⟩
abbrev cX5_removeLocomotive : ByteArray := prog_7_method_15_code
def yX5_removeLocomotive : MethodName := ⟨RX5, "removeLocomotive", "()I"⟩
abbrev cX5_setDead : ByteArray := prog_7_method_16_code
def yX5_setDead : MethodName := ⟨RX5, "setDead", "(IZ)I"⟩
abbrev cX5_locomotives : ByteArray := prog_7_method_17_code
def yX5_locomotives : MethodName := ⟨RX5, "locomotives", "()I"⟩
abbrev cX5_trackLength : ByteArray := prog_7_method_18_code
def yX5_trackLength : MethodName := ⟨RX5, "trackLength", "(I)I"⟩
abbrev cX5_freeLength : ByteArray := prog_7_method_19_code
def yX5_freeLength : MethodName := ⟨RX5, "freeLength", "(I)I"⟩
abbrev cX5_row : ByteArray := prog_7_method_20_code
def yX5_row : MethodName := ⟨RX5, "row", "(II)I"⟩
abbrev cX5_place : ByteArray := prog_7_method_21_code
def yX5_place : MethodName := ⟨RX5, "place", "(I)I"⟩
abbrev cX5_isEnd : ByteArray := prog_7_method_22_code
def yX5_isEnd : MethodName := ⟨RX5, "isEnd", "(I)Z"⟩
abbrev cX5_pointed : ByteArray := prog_7_method_23_code
def yX5_pointed : MethodName := ⟨RX5, "pointed", "(I)I"⟩
abbrev cX5_pointsTo : ByteArray := prog_7_method_24_code
def yX5_pointsTo : MethodName := ⟨RX5, "pointsTo", "(I)I"⟩
abbrev cX5_write : ByteArray := prog_7_method_25_code
def yX5_write : MethodName := ⟨RX5, "write", "(I)V"⟩
abbrev cX5_turnBy : ByteArray := prog_7_method_26_code
def yX5_turnBy : MethodName := ⟨RX5, "turnBy", "(I)V"⟩
abbrev cX5_turn : ByteArray := prog_7_method_27_code
def yX5_turn : MethodName := ⟨RX5, "turn", "(I)I"⟩
abbrev cX5_goIn : ByteArray := prog_7_method_28_code
def yX5_goIn : MethodName := ⟨RX5, "goIn", "(II)V"⟩
abbrev cX5_goOut : ByteArray := prog_7_method_29_code
def yX5_goOut : MethodName := ⟨RX5, "goOut", "(II)V"⟩
abbrev cX5_wrongMove : ByteArray := prog_7_method_30_code
def yX5_wrongMove : MethodName := ⟨RX5, "wrongMove", "(IIII)I"⟩
abbrev cX5_moveIn : ByteArray := prog_7_method_31_code
def yX5_moveIn : MethodName := ⟨RX5, "moveIn", "(II)I"⟩
abbrev cX5_moveOut : ByteArray := prog_7_method_32_code
def yX5_moveOut : MethodName := ⟨RX5, "moveOut", "(II)I"⟩
abbrev cX5_turnsMade : ByteArray := prog_7_method_33_code
def yX5_turnsMade : MethodName := ⟨RX5, "turnsMade", "()I"⟩
abbrev cX5_undo : ByteArray := prog_7_method_34_code
def yX5_undo : MethodName := ⟨RX5, "undo", "()I"⟩
abbrev cX5_log : ByteArray := prog_7_method_35_code
def yX5_log : MethodName := ⟨RX5, "log", "(I)I"⟩
abbrev cX5_layOrders : ByteArray := prog_7_method_36_code
def yX5_layOrders : MethodName := ⟨RX5, "layOrders", "(I)V"⟩
abbrev cX5_layWays : ByteArray := prog_7_method_37_code
def yX5_layWays : MethodName := ⟨RX5, "layWays", "(I)V"⟩
abbrev cX5_layRows : ByteArray := prog_7_method_38_code
def yX5_layRows : MethodName := ⟨RX5, "layRows", "()V"⟩
abbrev cX5_numberOf : ByteArray := prog_7_method_39_code
def yX5_numberOf : MethodName := ⟨RX5, "numberOf", "()I"⟩
abbrev cX5_layOut : ByteArray := prog_7_method_40_code
def yX5_layOut : MethodName := ⟨RX5, "layOut", "(I)V"⟩
abbrev cX5_sum : ByteArray := prog_7_method_41_code
def yX5_sum : MethodName := ⟨RX5, "sum", "(III)I"⟩
abbrev cX5_canBe : ByteArray := prog_7_method_42_code
def yX5_canBe : MethodName := ⟨RX5, "canBe", "()Z"⟩
abbrev cX5_insertHere : ByteArray := prog_7_method_43_code
def yX5_insertHere : MethodName := ⟨RX5, "insertHere", "(III)V"⟩
abbrev cX5_takeHere : ByteArray := prog_7_method_44_code
def yX5_takeHere : MethodName := ⟨RX5, "takeHere", "(II)I"⟩
abbrev cX5_behind : ByteArray := prog_7_method_45_code
def yX5_behind : MethodName := ⟨RX5, "behind", "(II)I"⟩
abbrev cX5_addTurned : ByteArray := prog_7_method_46_code
def yX5_addTurned : MethodName := ⟨RX5, "addTurned", "(III)V"⟩
abbrev cX5_addMoved : ByteArray := prog_7_method_47_code
def yX5_addMoved : MethodName := ⟨RX5, "addMoved", "(III)V"⟩
abbrev cX5_finishOne : ByteArray := prog_7_method_48_code
def yX5_finishOne : MethodName := ⟨RX5, "finishOne", "(III)V"⟩
abbrev cX5_finishLevel : ByteArray := prog_7_method_49_code
def yX5_finishLevel : MethodName := ⟨RX5, "finishLevel", "(I)V"⟩
abbrev cX5_isGoal : ByteArray := prog_7_method_50_code
def yX5_isGoal : MethodName := ⟨RX5, "isGoal", "(II)Z"⟩
abbrev cX5_layGoals : ByteArray := prog_7_method_51_code
def yX5_layGoals : MethodName := ⟨RX5, "layGoals", "(II)V"⟩
abbrev cX5_layAll : ByteArray := prog_7_method_52_code
def yX5_layAll : MethodName := ⟨RX5, "layAll", "(II)V"⟩
abbrev cX5_situationNow : ByteArray := prog_7_method_53_code
def yX5_situationNow : MethodName := ⟨RX5, "situationNow", "()I"⟩
abbrev cX5_wrongPlan : ByteArray := prog_7_method_54_code
def yX5_wrongPlan : MethodName := ⟨RX5, "wrongPlan", "(II)I"⟩
abbrev cX5_fewestTurns : ByteArray := prog_7_method_55_code
def yX5_fewestTurns : MethodName := ⟨RX5, "fewestTurns", "(II)I"⟩
abbrev cX5_bestAction : ByteArray := prog_7_method_56_code
def yX5_bestAction : MethodName := ⟨RX5, "bestAction", "(I)I"⟩
abbrev cX5_plan : ByteArray := prog_7_method_57_code
def yX5_plan : MethodName := ⟨RX5, "plan", "(III)I"⟩
abbrev cX5_save : ByteArray := prog_7_method_58_code
def yX5_save : MethodName := ⟨RX5, "save", "(I)I"⟩
abbrev cX5_restore : ByteArray := prog_7_method_59_code
def yX5_restore : MethodName := ⟨RX5, "restore", "(I)I"⟩
def RJ6 : String := "java/lang/Integer"
def TJ6 : u_T := fun k => match k with
  | _ => ("", "", "", false)
def tyJ6 : Nat → FieldType := fun k => match k with
  | _ => .int
abbrev wsJ60 : List Cond := u_ws RJ6 TJ6 0
theorem nmJ6 : ∀ a, a < 0 → ∀ b, b < 0 → a ≠ b → (TJ6 a).2.1 ≠ (TJ6 b).2.1 := by decide +kernel
theorem tyJ6_ok : ∀ k, k < 0 → parseFieldDescriptor (TJ6 k).2.2.1 = some (tyJ6 k) := by decide +kernel
abbrev cJ6_bitCount_0f7a4 : ByteArray := prog_8_method_49_code
def yJ6_bitCount_0f7a4 : MethodName := ⟨RJ6, "bitCount", "(I)I"⟩
def RJ9 : String := "java/lang/Math"
def TJ9 : u_T := fun k => match k with
  | _ => ("", "", "", false)
def tyJ9 : Nat → FieldType := fun k => match k with
  | _ => .int
abbrev wsJ90 : List Cond := u_ws RJ9 TJ9 0
theorem nmJ9 : ∀ a, a < 0 → ∀ b, b < 0 → a ≠ b → (TJ9 a).2.1 ≠ (TJ9 b).2.1 := by decide +kernel
theorem tyJ9_ok : ∀ k, k < 0 → parseFieldDescriptor (TJ9 k).2.2.1 = some (tyJ9 k) := by decide +kernel
abbrev cJ9_floorMod_7cf53 : ByteArray := prog_9_method_50_code
def yJ9_floorMod_7cf53 : MethodName := ⟨RJ9, "floorMod", "(II)I"⟩
abbrev cJ9_abs_0f7a4 : ByteArray := prog_9_method_59_code
def yJ9_abs_0f7a4 : MethodName := ⟨RJ9, "abs", "(I)I"⟩
abbrev cJ9_max_7cf53 : ByteArray := prog_9_method_65_code
def yJ9_max_7cf53 : MethodName := ⟨RJ9, "max", "(II)I"⟩
abbrev cJ9_min_7cf53 : ByteArray := prog_9_method_69_code
def yJ9_min_7cf53 : MethodName := ⟨RJ9, "min", "(II)I"⟩
def RJ10 : String := "java/lang/System"
def TJ10 : u_T := fun k => match k with
  | _ => ("", "", "", false)
def tyJ10 : Nat → FieldType := fun k => match k with
  | _ => .int
abbrev wsJ100 : List Cond := u_ws RJ10 TJ10 0
theorem nmJ10 : ∀ a, a < 0 → ∀ b, b < 0 → a ≠ b → (TJ10 a).2.1 ≠ (TJ10 b).2.1 := by decide +kernel
theorem tyJ10_ok : ∀ k, k < 0 → parseFieldDescriptor (TJ10 k).2.2.1 = some (tyJ10 k) := by decide +kernel
def RJ7 : String := "java/util/Arrays"
def TJ7 : u_T := fun k => match k with
  | _ => ("", "", "", false)
def tyJ7 : Nat → FieldType := fun k => match k with
  | _ => .int
abbrev wsJ70 : List Cond := u_ws RJ7 TJ7 0
theorem nmJ7 : ∀ a, a < 0 → ∀ b, b < 0 → a ≠ b → (TJ7 a).2.1 ≠ (TJ7 b).2.1 := by decide +kernel
theorem tyJ7_ok : ∀ k, k < 0 → parseFieldDescriptor (TJ7 k).2.2.1 = some (tyJ7 k) := by decide +kernel
abbrev cJ7_fill_53178 : ByteArray := prog_11_method_103_code
def yJ7_fill_53178 : MethodName := ⟨RJ7, "fill", "([II)V"⟩
def RL : String := "TurntableHouseLaw"
abbrev cL_law : ByteArray := code
def yL_law : MethodName := ⟨RL, "law", "([I)Z"⟩
abbrev vwCl : List vw_C := [(RX0, TX0, 2), (RX1, TX1, 13), (RX2, TX2, 3), (RX3, TX3, 8), (RX4, TX4, 5), (RX5, TX5, 32)]
end
section
/-! THE ABSTRACT MACHINE: a world is a list of places; a place is empty, or holds an int array, an array of yards, an object; a reference is a place's number -/
def am_T : List Cond := lw_tbl.filter goodWord
def am_N : List Cond := [.fieldLinkNest RX1 61 RX3 "locomotiveCount" "I" RX4, .fieldLinkNest RX4 42 RX3 "locomotiveCount" "I" RX4, .fieldLinkNest RX1 157 RX3 "endA" "I" RX4, .fieldLinkNest RX4 99 RX3 "endA" "I" RX4, .fieldLinkNest RX4 111 RX0 "count" "I" RX4, .methodLinkNest RX3 87 yX4_endOf RX4, .methodLinkNest RX1 184 yX4_reverseOf RX4]
theorem am_T_in {w : Cond} (i : Nat) (h : lw_tbl[i]? = some w) (hg : goodWord w = true) : w ∈ am_T := List.mem_filter.mpr ⟨List.mem_of_getElem? h, hg⟩
abbrev am_C : Type := (Nat × Nat × (Nat → Int32)) ⊕ (List (Option Nat) ⊕ (Nat × List Value))
abbrev am_H : Type := List (Option am_C)
def am_v (r : Nat → Nat) : Value → Value := fun v => match v with
  | .ref i => .ref (r i)
  | w => w
def am_e (cy : Nat → ClassId) (r : Nat → Nat) : am_C → va_E := fun c => match c with
  | .inl a => .inl (cy a.1, a.2.1, .inl a.2.2)
  | .inr (.inl l) => .inl (cy 2, l.length, .inr (.inr (.inr (.inr (fun j => (l.getD j none).map r)))))
  | .inr (.inr o) => .inr (o.1, o.2.map (am_v r))
def am_tys (cy : Nat → ClassId) : List (ClassId × FieldType) := [(cy 0, .int), (cy 1, .boolean), (cy 2, .object RX3)]
def am_K (D : va_G) (cy : Nat → ClassId) (U : State) : Prop := va_K D vwCl (am_tys cy) U ∧ (∀ w ∈ am_N, va_Nw w U) ∧ va_AO RX3 U
theorem am_K.warm {D : va_G} {cy : Nat → ClassId} {s U : State} (hW : s.WarmedH U.vm) (h : am_K D cy s) : am_K D cy U := by
  refine ⟨va_K.moved hW.alike h.1, fun w hw => ?_, va_AO.moved hW.alike h.2.2⟩
  have h2 := h.2.1 w hw
  simp only [am_N, List.mem_cons, List.not_mem_nil, or_false] at hw
  rcases hw with rfl | rfl | rfl | rfl | rfl | rfl | rfl
  · exact va_Nw.warmF hW h2
  · exact va_Nw.warmF hW h2
  · exact va_Nw.warmF hW h2
  · exact va_Nw.warmF hW h2
  · exact va_Nw.warmF hW h2
  · exact va_Nw.warmM hW h2
  · exact va_Nw.warmM hW h2
theorem am_K.same {D : va_G} {cy : Nat → ClassId} {s U : State} (hW : s.vm = U.vm) (h : am_K D cy s) : am_K D cy U := by
  have ha : s.vm.Alike U.vm := by rw [hW]; exact Vm.Alike.refl _
  refine ⟨va_K.moved ha h.1, fun w hw => ?_, va_AO.moved ha h.2.2⟩
  have h2 := h.2.1 w hw
  refine va_Nw.same ?_ hW h2
  simp only [am_N, List.mem_cons, List.not_mem_nil, or_false] at hw
  rcases hw with rfl | rfl | rfl | rfl | rfl | rfl | rfl <;> rfl
/-- the world stands in the heap -/
def am_Z (D : va_G) (cy : Nat → ClassId) (r : Nat → Nat) (h : am_H) (A : Nat → Prop) (H : Heap) : Prop :=
  (∀ (k : Nat) (c : am_C), h[k]? = some (some c) → va_at D vwCl (r k, am_e cy r c) H) ∧ (∀ (i j : Nat) (c d : am_C), h[i]? = some (some c) → h[j]? = some (some d) → r i = r j → i = j) ∧ ∀ (k : Nat) (c : am_C), h[k]? = some (some c) → A (r k)
theorem am_Z.toW {D : va_G} {cy : Nat → ClassId} {r : Nat → Nat} {h : am_H} {A : Nat → Prop} {H : Heap} (z : am_Z D cy r h A H) :
    ∃ ws : va_W, va_P D vwCl ws H ∧ va_D A ws ∧ ∀ (k : Nat) (c : am_C), h[k]? = some (some c) → ∃ q : Nat, ws[q]? = some (r k, am_e cy r c) := by
  obtain ⟨z1, z2, z3⟩ := z
  obtain ⟨f, hf⟩ : ∃ f : Nat → Nat × va_E, ∀ k c, h[k]? = some (some c) → f k = (r k, am_e cy r c) :=
    ⟨fun k => match h[k]? with | some (some c) => (r k, am_e cy r c) | _ => (0, .inr (0, [])), fun k c hk => by simp [hk]⟩
  obtain ⟨g, hg⟩ : ∃ g : Nat → Bool, ∀ k, g k = true ↔ ∃ c, h[k]? = some (some c) :=
    ⟨fun k => match h[k]? with | some (some _) => true | _ => false, fun k => by
      cases hk : h[k]? with
      | none => simp [hk]
      | some o => cases o <;> simp [hk]⟩
  have hnd : ((List.range h.length).filter g).Nodup := List.Pairwise.filter _ List.nodup_range
  refine ⟨((List.range h.length).filter g).map f, fun q x hx => ?_, ⟨fun i j x y hi hj hxy => ?_, fun q x hx => ?_⟩, fun k c hk => ?_⟩
  · rw [List.getElem?_map] at hx
    cases hq : ((List.range h.length).filter g)[q]? with
    | none => rw [hq] at hx; cases hx
    | some k =>
      rw [hq] at hx
      obtain ⟨c, hc⟩ := (hg k).mp (List.mem_filter.mp (List.mem_of_getElem? hq)).2
      have e : f k = x := Option.some.inj hx
      rw [← e, hf k c hc]
      exact z1 k c hc
  · rw [List.getElem?_map] at hi hj
    cases hq : ((List.range h.length).filter g)[i]? with
    | none => rw [hq] at hi; cases hi
    | some k =>
      cases hq2 : ((List.range h.length).filter g)[j]? with
      | none => rw [hq2] at hj; cases hj
      | some k2 =>
        rw [hq] at hi
        rw [hq2] at hj
        obtain ⟨c, hc⟩ := (hg k).mp (List.mem_filter.mp (List.mem_of_getElem? hq)).2
        obtain ⟨c2, hc2⟩ := (hg k2).mp (List.mem_filter.mp (List.mem_of_getElem? hq2)).2
        have e : f k = x := Option.some.inj hi
        have e2 : f k2 = y := Option.some.inj hj
        rw [← e, ← e2, hf k c hc, hf k2 c2 hc2] at hxy
        have ek := z2 k k2 c c2 hc hc2 hxy
        subst ek
        exact (List.getElem?_inj (List.getElem?_eq_some_iff.mp hq).1 hnd).mp (by rw [hq, hq2])
  · rw [List.getElem?_map] at hx
    cases hq : ((List.range h.length).filter g)[q]? with
    | none => rw [hq] at hx; cases hx
    | some k =>
      rw [hq] at hx
      obtain ⟨c, hc⟩ := (hg k).mp (List.mem_filter.mp (List.mem_of_getElem? hq)).2
      have e : f k = x := Option.some.inj hx
      rw [← e, hf k c hc]
      exact z3 k c hc
  · have hm : k ∈ (List.range h.length).filter g := List.mem_filter.mpr ⟨List.mem_range.mpr (List.getElem?_eq_some_iff.mp hk).1, (hg k).mpr ⟨c, hk⟩⟩
    obtain ⟨q, hq⟩ := List.getElem?_of_mem hm
    exact ⟨q, by rw [List.getElem?_map, hq, Option.map_some, hf k c hk]⟩
theorem am_set_ne {h : am_H} {k j : Nat} {o : Option am_C} (e : j ≠ k) : (h.set k o)[j]? = h[j]? := List.getElem?_set_ne (Ne.symm e)
theorem am_set_eq {h : am_H} {k : Nat} {o x : Option am_C} (e : h[k]? = some x) : (h.set k o)[k]? = some o := by
  rw [List.getElem?_set_self (List.getElem?_eq_some_iff.mp e).1]
theorem am_Z.set {D : va_G} {cy : Nat → ClassId} {r : Nat → Nat} {h : am_H} {A : Nat → Prop} {H H' : Heap} (z : am_Z D cy r h A H) {ws : va_W} {q k : Nat} {c c' : am_C} (hk : h[k]? = some (some c))
    (cov : ∀ (k : Nat) (c : am_C), h[k]? = some (some c) → ∃ q : Nat, ws[q]? = some (r k, am_e cy r c)) (hq : ws[q]? = some (r k, am_e cy r c)) (hP : va_P D vwCl (ws.set q (r k, am_e cy r c')) H') : am_Z D cy r (h.set k (some c')) A H' := by
  obtain ⟨z1, z2, z3⟩ := z
  have key : ∀ (j : Nat) (d : am_C), (h.set k (some c'))[j]? = some (some d) → (j = k ∧ d = c') ∨ (j ≠ k ∧ h[j]? = some (some d)) := by
    intro j d hj
    by_cases e : j = k
    · subst e
      rw [am_set_eq hk] at hj
      exact Or.inl ⟨rfl, (Option.some.inj (Option.some.inj hj)).symm⟩
    · rw [am_set_ne e] at hj
      exact Or.inr ⟨e, hj⟩
  have pres : ∀ (j : Nat) (d : am_C), (h.set k (some c'))[j]? = some (some d) → ∃ d', h[j]? = some (some d') := by
    intro j d hj
    rcases key j d hj with ⟨e, -⟩ | ⟨-, e⟩
    · subst e; exact ⟨c, hk⟩
    · exact ⟨d, e⟩
  refine ⟨fun j d hj => ?_, fun i j a b hi hj e => ?_, fun j d hj => ?_⟩
  · rcases key j d hj with ⟨e1, e2⟩ | ⟨e1, e2⟩
    · subst e1; subst e2
      exact hP q _ (by rw [List.getElem?_set_self (List.getElem?_eq_some_iff.mp hq).1])
    · obtain ⟨q', hq'⟩ := cov j d e2
      have hne : q' ≠ q := fun e => by
        subst e
        rw [hq] at hq'
        exact e1 (z2 j k d c e2 hk (congrArg Prod.fst (Option.some.inj hq')).symm)
      exact hP q' _ (by rw [List.getElem?_set_ne (Ne.symm hne)]; exact hq')
  · obtain ⟨a', ha⟩ := pres i a hi
    obtain ⟨b', hb⟩ := pres j b hj
    exact z2 i j a' b' ha hb e
  · obtain ⟨d', hd⟩ := pres j d hj
    exact z3 j d' hd
-- no reference to a place
def am_nv (k : Nat) : Value → Bool := fun v => match v with
  | .ref i => !(Nat.beq i k)
  | _ => true
def am_nc (k : Nat) : am_C → Bool := fun c => match c with
  | .inl _ => true
  | .inr (.inl l) => l.all (fun o => match o with | none => true | some i => !(Nat.beq i k))
  | .inr (.inr o) => o.2.all (am_nv k)
def am_nh (k : Nat) (h : am_H) : Bool := h.all (fun o => match o with | none => true | some c => am_nc k c)
def am_nl (k : Nat) (ls : List (Option Value)) : Bool := ls.all (fun o => match o with | none => true | some v => am_nv k v)
def am_ns (k : Nat) (st : List Value) : Bool := st.all (am_nv k)
theorem am_v_eq {r r' : Nat → Nat} {v : Value} (h : ∀ i, v = .ref i → r' i = r i) : am_v r' v = am_v r v := by
  cases v <;> simp [am_v]
  rename_i i
  exact h i rfl
theorem am_nv_ne {k : Nat} {v : Value} (h : am_nv k v = true) : ∀ i, v = .ref i → i ≠ k := by
  intro i e he
  subst e; subst he
  simp [am_nv] at h
theorem am_e_eq {cy : Nat → ClassId} {r r' : Nat → Nat} {c : am_C} (h : ∀ i, (∀ o : Nat × List Value, c = .inr (.inr o) → .ref i ∈ o.2 → r' i = r i) ∧ (∀ l : List (Option Nat), c = .inr (.inl l) → some i ∈ l → r' i = r i)) : am_e cy r' c = am_e cy r c := by
  rcases c with a | l | o
  · rfl
  · simp only [am_e]
    refine congrArg (fun z : Nat → Option Nat => (Sum.inl (cy 2, l.length, .inr (.inr (.inr (.inr z)))) : va_E)) (funext fun j => ?_)
    cases hj : l.getD j none with
    | none => rfl
    | some i =>
      have hm : some i ∈ l := by
        rw [List.getD_eq_getElem?_getD] at hj
        cases hq : l[j]? with
        | none => rw [hq] at hj; cases hj
        | some x => rw [hq] at hj; have : x = some i := hj; subst this; exact List.mem_of_getElem? hq
      simp [(h i).2 l rfl hm]
  · simp only [am_e]
    congr 2
    apply List.map_congr_left
    intro v hv
    exact am_v_eq (fun i e => (h i).1 o rfl (e ▸ hv))
theorem am_nc_eq {cy : Nat → ClassId} {r r' : Nat → Nat} {k : Nat} (hr : ∀ i, i ≠ k → r' i = r i) {c : am_C} (h : am_nc k c = true) : am_e cy r' c = am_e cy r c := by
  refine am_e_eq (fun i => ⟨fun o e hm => hr i ?_, fun l e hm => hr i ?_⟩)
  · subst e
    have h1 := List.all_eq_true.mp (show o.2.all (am_nv k) = true from h) _ hm
    exact am_nv_ne h1 i rfl
  · subst e
    have h1 := List.all_eq_true.mp (show l.all _ = true from h) _ hm
    intro he
    subst he
    simp at h1
theorem am_Z.push {D : va_G} {cy : Nat → ClassId} {r : Nat → Nat} {h : am_H} {A : Nat → Prop} {H H' : Heap} (z : am_Z D cy r h A H) {ws : va_W} {k a : Nat} {c : am_C} (hk : h[k]? = some none) (hn : am_nh k h = true)
    (cov : ∀ (k : Nat) (c : am_C), h[k]? = some (some c) → ∃ q : Nat, ws[q]? = some (r k, am_e cy r c)) (hc : ∀ r r' : Nat → Nat, am_e cy r c = am_e cy r' c) (hP : va_P D vwCl (ws ++ [(a, am_e cy r c)]) H') (hD : va_D A (ws ++ [(a, am_e cy r c)])) : am_Z D cy (fun i => if i = k then a else r i) (h.set k (some c)) A H' := by
  obtain ⟨z1, z2, z3⟩ := z
  have key : ∀ (j : Nat) (d : am_C), (h.set k (some c))[j]? = some (some d) → (j = k ∧ d = c) ∨ (j ≠ k ∧ h[j]? = some (some d)) := by
    intro j d hj
    by_cases e : j = k
    · subst e
      rw [am_set_eq hk] at hj
      exact Or.inl ⟨rfl, (Option.some.inj (Option.some.inj hj)).symm⟩
    · rw [am_set_ne e] at hj
      exact Or.inr ⟨e, hj⟩
  have hold : ∀ (j : Nat) (d : am_C), h[j]? = some (some d) → ∃ q : Nat, q < ws.length ∧ (ws ++ [(a, am_e cy r c)])[q]? = some (r j, am_e cy r d) := by
    intro j d hj
    obtain ⟨q, hq⟩ := cov j d hj
    have hl := (List.getElem?_eq_some_iff.mp hq).1
    exact ⟨q, hl, by rw [List.getElem?_append_left hl]; exact hq⟩
  have hnew : (ws ++ [(a, am_e cy r c)])[ws.length]? = some (a, am_e cy r c) := by simp
  have hne : ∀ (j : Nat) (d : am_C), h[j]? = some (some d) → r j ≠ a := by
    intro j d hj e
    obtain ⟨q, hl, hq⟩ := hold j d hj
    have := hD.1 q ws.length _ _ hq hnew e
    omega
  refine ⟨fun j d hj => ?_, fun i j x y hi hj e => ?_, fun j d hj => ?_⟩
  · rcases key j d hj with ⟨e1, e2⟩ | ⟨e1, e2⟩
    · subst e1; subst e2
      simp only [if_true]
      rw [hc _ r]
      exact hP _ _ hnew
    · simp only [if_neg e1]
      have hcd : am_nc k d = true := List.all_eq_true.mp hn _ (List.mem_of_getElem? e2)
      rw [am_nc_eq (r := r) (fun i hi => if_neg hi) hcd]
      obtain ⟨q, -, hq⟩ := hold j d e2
      exact hP _ _ hq
  · rcases key i x hi with ⟨e1, -⟩ | ⟨e1, e2⟩ <;> rcases key j y hj with ⟨f1, -⟩ | ⟨f1, f2⟩
    · rw [e1, f1]
    · simp only [e1, if_true, if_neg f1] at e
      exact absurd e.symm (hne j y f2)
    · simp only [f1, if_true, if_neg e1] at e
      exact absurd e (hne i x e2)
    · simp only [if_neg e1, if_neg f1] at e
      exact z2 i j x y e2 f2 e
  · rcases key j d hj with ⟨e1, e2⟩ | ⟨e1, e2⟩
    · simp only [e1, if_true]
      exact hD.2 _ _ hnew
    · simp only [if_neg e1]
      exact z3 j d e2
end
section
/-! judgements of the abstract machine -/
/-- a method: name, code, locals, answer's type, frames, words of locals -/
abbrev am_M : Type := MethodName × ByteArray × Nat × Option FieldType × Nat × Nat
def am_L (lc : Array Slot) (n : Nat) (ls : List (Option Value)) (r : Nat → Nat) : Prop := ∃ lv : List (Nat × Value), lv_has lc n lv ∧ ∀ (k : Nat) (v : Value), ls[k]? = some (some v) → (k, am_v r v) ∈ lv ∧ v.category = 1
def am_E (P0 : Nat → Prop) (r0 : Nat → Nat) (N0 : Nat) (r : Nat → Nat) (h : am_H) : Prop := (∀ i, P0 i → r i = r0 i) ∧ (∀ i, P0 i → h[i]? ≠ some none) ∧ h.length = N0
/-- what holds all through a method -/
def am_X (M : am_M) (sc : Option (Nat × (Nat → Int32))) (p : Program) (R : Room) (s : State) (m : MethodId) (args : Array Value) (meth : Method) (c : Code) (D : va_G) (cy : Nat → ClassId) (A : Nat → Prop) (r0 : Nat → Nat) (P0 : Nat → Prop) : Prop :=
  p.tables.exec = Jvm.exec ∧ c.code = M.2.1 ∧ c.maxLocals = M.2.2.1 ∧ s.vm.findClass M.1.cls = some m.cls ∧ (∀ w ∈ am_T, w.before args s = true) ∧ am_K D cy s ∧ (∀ q, s.heap.size ≤ q → A q) ∧ R.frames = M.2.2.2.2.1 ∧ R.locals = M.2.2.2.2.2 ∧ (M.1.name = "<init>" → meth.name = "<init>") ∧
  match sc with
  | none => True
  | some q => P0 1000 ∧ va_X (r0 1000) q.1 q.2 s s.heap ∧ r0 1000 < s.heap.size ∧ ¬ A (r0 1000)
/-- a return's instruction -/
def am_ri (M : am_M) (pc : Nat) (v : Option Value) : Prop := match v with
  | none => decode M.2.1 pc = .ok (.return_, 1) ∧ M.2.2.2.1 = none
  | some (.int x) => decode M.2.1 pc = .ok (.ireturn, 1) ∧ ∃ ty, M.2.2.2.1 = some ty ∧ narrow ty (.int x) = .int x
  | some w => decode M.2.1 pc = .ok (.areturn, 1) ∧ (w = .null ∨ ∃ a, w = .ref a) ∧ ∃ C, M.2.2.2.1 = some (.object C)
def am_Rt (M : am_M) (Z : Option Value → am_H → Prop) (p : Program) (l : Launch) (e : Env) (R : Room) (s : State) (m : MethodId) (args : Array Value) (below : List Frame) (meth : Method) (c : Code) (Q : State → Prop) (D : va_G) (cy : Nat → ClassId) (A : Nat → Prop) (r0 : Nat → Nat) (P0 : Nat → Prop) (N0 : Nat) : Prop :=
  ∀ (v : Option Value) (h : am_H) (r : Nat → Nat) (H : Heap) (locs : List Loc) (cells slots : Nat) (lc : Array Slot) (pc : Nat), Z v h → am_Z D cy r h A H → va_S A s.heap H locs → am_E P0 r0 N0 r h → cells ≤ R.cells → slots ≤ R.slots → am_ri M pc v →
    W p l e R s m args below meth c H locs cells slots Q (F0 m pc lc (v.toList.map (am_v r)))
def am_Go (M : am_M) (p : Program) (l : Launch) (e : Env) (R : Room) (s : State) (m : MethodId) (args : Array Value) (below : List Frame) (meth : Method) (c : Code) (Q : State → Prop) (D : va_G) (cy : Nat → ClassId) (A : Nat → Prop) (r0 : Nat → Nat) (P0 : Nat → Prop) (N0 : Nat) (pc : Nat) (ls : List (Option Value)) (st : List Value) (h : am_H) (nc ns : Nat) : Prop :=
  ∀ (r : Nat → Nat) (H : Heap) (locs : List Loc) (cells slots : Nat) (lc : Array Slot), am_Z D cy r h A H → va_S A s.heap H locs → am_L lc M.2.2.1 ls r → am_E P0 r0 N0 r h → cells + nc ≤ R.cells ∧ slots + ns ≤ R.slots →
    W p l e R s m args below meth c H locs cells slots Q (F0 m pc lc (st.map (am_v r)))
/-- from this place in the method it comes to its end, with Z -/
def am_Ok (M : am_M) (sc : Option (Nat × (Nat → Int32))) (Z : Option Value → am_H → Prop) (nc ns : Nat) (pc : Nat) (ls : List (Option Value)) (st : List Value) (h : am_H) : Prop :=
  ∀ (p : Program) (l : Launch) (e : Env) (R : Room) (s : State) (m : MethodId) (args : Array Value) (below : List Frame) (meth : Method) (c : Code) (Q : State → Prop) (D : va_G) (cy : Nat → ClassId) (A : Nat → Prop) (r0 : Nat → Nat) (P0 : Nat → Prop) (N0 : Nat),
    am_X M sc p R s m args meth c D cy A r0 P0 → am_Rt M Z p l e R s m args below meth c Q D cy A r0 P0 N0 → am_Go M p l e R s m args below meth c Q D cy A r0 P0 N0 pc ls st h nc ns
section AMR
variable {M : am_M} {sc : Option (Nat × (Nat → Int32))} {Z : Option Value → am_H → Prop} {nc ns pc : Nat} {ls : List (Option Value)} {st st' : List Value} {h : am_H}
/-- a step that leaves heap and locals -/
theorem am_pure {pc' : Nat} (w : ∀ {p : Program} {l : Launch} {e : Env} {R : Room} {s : State} {m : MethodId} {args : Array Value} {below : List Frame} {meth : Method} {c : Code} {Q : State → Prop} {H : Heap} {locs : List Loc} {cells slots : Nat} {lc : Array Slot} (r : Nat → Nat), p.tables.exec = Jvm.exec → c.code = M.2.1 → s.vm.findClass M.1.cls = some m.cls → (∀ w ∈ am_T, w.before args s = true) → (∀ (k : Nat) (v : Value), ls[k]? = some (some v) → lc[k]? = some (.val (am_v r v))) →
    W p l e R s m args below meth c H locs cells slots Q (F0 m pc' lc (st'.map (am_v r))) → W p l e R s m args below meth c H locs cells slots Q (F0 m pc lc (st.map (am_v r)))) (k : am_Ok M sc Z nc ns pc' ls st' h) : am_Ok M sc Z nc ns pc ls st h := by
  intro p l e R s m args below meth c Q D cy A r0 P0 N0 X hR r H locs cells slots lc hZ hS hL hE hN
  obtain ⟨lv, hl, hv⟩ := id hL
  exact w r X.1 X.2.1 X.2.2.2.1 X.2.2.2.2.1 (fun k v hk => hl.2.2 _ (hv k v hk).1) (k p l e R s m args below meth c Q D cy A r0 P0 N0 X hR r H locs cells slots lc hZ hS hL hE hN)
theorem am_iconst {n : Int} {v : Int32} (hd : decode M.2.1 pc = .ok (.iconst n, 1)) (hv : Int32.ofInt n = v) (k : am_Ok M sc Z nc ns (pc + 1) ls (.int v :: st) h) : am_Ok M sc Z nc ns pc ls st h := am_pure (fun r hx hb ho ht hl w => lv_iconst hx hb hd hv w) k
theorem am_bipush {n : Int} {v : Int32} (hd : decode M.2.1 pc = .ok (.bipush n, 2)) (hv : (Int8.ofInt n).toInt32 = v) (k : am_Ok M sc Z nc ns (pc + 2) ls (.int v :: st) h) : am_Ok M sc Z nc ns pc ls st h := am_pure (fun r hx hb ho ht hl w => lv_bipush hx hb hd hv w) k
theorem am_sipush {n : Int} {v : Int32} (hd : decode M.2.1 pc = .ok (.sipush n, 3)) (hv : (Int16.ofInt n).toInt32 = v) (k : am_Ok M sc Z nc ns (pc + 3) ls (.int v :: st) h) : am_Ok M sc Z nc ns pc ls st h := am_pure (fun r hx hb ho ht hl w => lv_sipush hx hb hd hv w) k
theorem am_ldc {i : Nat} {v : Int32} (hd : decode M.2.1 pc = .ok (.ldc i, 2)) (hc : Cond.constant M.1.cls i v ∈ am_T) (k : am_Ok M sc Z nc ns (pc + 2) ls (.int v :: st) h) : am_Ok M sc Z nc ns pc ls st h := am_pure (fun r hx hb ho ht hl w => lv_ldc hx hb ho (ht _ hc) hd w) k
theorem am_ldcw {i : Nat} {v : Int32} (hd : decode M.2.1 pc = .ok (.ldc_w i, 3)) (hc : Cond.constant M.1.cls i v ∈ am_T) (k : am_Ok M sc Z nc ns (pc + 3) ls (.int v :: st) h) : am_Ok M sc Z nc ns pc ls st h := am_pure (fun r hx hb ho ht hl w => lv_ldcw hx hb ho (ht _ hc) hd w) k
theorem am_iload_n {i : Fin 4} {x : Int32} (hd : decode M.2.1 pc = .ok (.iload_n i, 1)) (hl : ls[(i : Nat)]? = some (some (.int x))) (k : am_Ok M sc Z nc ns (pc + 1) ls (.int x :: st) h) : am_Ok M sc Z nc ns pc ls st h := am_pure (fun r hx hb ho ht hg w => lv_iload_n hx hb hd rfl (hg _ _ hl) w) k
theorem am_iload {i : Nat} {x : Int32} (hd : decode M.2.1 pc = .ok (.iload i, 2)) (hl : ls[i]? = some (some (.int x))) (k : am_Ok M sc Z nc ns (pc + 2) ls (.int x :: st) h) : am_Ok M sc Z nc ns pc ls st h := am_pure (fun r hx hb ho ht hg w => lv_iload hx hb hd (hg _ _ hl) w) k
theorem am_aload_n {i : Fin 4} {x : Nat} (hd : decode M.2.1 pc = .ok (.aload_n i, 1)) (hl : ls[(i : Nat)]? = some (some (.ref x))) (k : am_Ok M sc Z nc ns (pc + 1) ls (.ref x :: st) h) : am_Ok M sc Z nc ns pc ls st h := am_pure (fun r hx hb ho ht hg w => lv_aload_n hx hb hd rfl (hg _ _ hl) w) k
theorem am_aload {i : Nat} {x : Nat} (hd : decode M.2.1 pc = .ok (.aload i, 2)) (hl : ls[i]? = some (some (.ref x))) (k : am_Ok M sc Z nc ns (pc + 2) ls (.ref x :: st) h) : am_Ok M sc Z nc ns pc ls st h := am_pure (fun r hx hb ho ht hg w => lv_aload hx hb hd (hg _ _ hl) w) k
theorem am_aload_nN {i : Fin 4} (hd : decode M.2.1 pc = .ok (.aload_n i, 1)) (hl : ls[(i : Nat)]? = some (some .null)) (k : am_Ok M sc Z nc ns (pc + 1) ls (.null :: st) h) : am_Ok M sc Z nc ns pc ls st h := am_pure (fun r hx hb ho ht hg w => lv_aload_nN hx hb hd rfl (hg _ _ hl) w) k
theorem am_iadd {x y : Int32} (hd : decode M.2.1 pc = .ok (.iadd, 1)) (k : am_Ok M sc Z nc ns (pc + 1) ls (.int (x + y) :: st) h) : am_Ok M sc Z nc ns pc ls (.int y :: .int x :: st) h := am_pure (fun r hx hb ho ht hg w => lv_iadd hx hb hd w) k
theorem am_isub {x y : Int32} (hd : decode M.2.1 pc = .ok (.isub, 1)) (k : am_Ok M sc Z nc ns (pc + 1) ls (.int (x - y) :: st) h) : am_Ok M sc Z nc ns pc ls (.int y :: .int x :: st) h := am_pure (fun r hx hb ho ht hg w => lv_isub hx hb hd w) k
theorem am_imul {x y : Int32} (hd : decode M.2.1 pc = .ok (.imul, 1)) (k : am_Ok M sc Z nc ns (pc + 1) ls (.int (x * y) :: st) h) : am_Ok M sc Z nc ns pc ls (.int y :: .int x :: st) h := am_pure (fun r hx hb ho ht hg w => lv_imul hx hb hd w) k
theorem am_iand {x y : Int32} (hd : decode M.2.1 pc = .ok (.iand, 1)) (k : am_Ok M sc Z nc ns (pc + 1) ls (.int (x &&& y) :: st) h) : am_Ok M sc Z nc ns pc ls (.int y :: .int x :: st) h := am_pure (fun r hx hb ho ht hg w => lv_iand hx hb hd w) k
theorem am_ior {x y : Int32} (hd : decode M.2.1 pc = .ok (.ior, 1)) (k : am_Ok M sc Z nc ns (pc + 1) ls (.int (x ||| y) :: st) h) : am_Ok M sc Z nc ns pc ls (.int y :: .int x :: st) h := am_pure (fun r hx hb ho ht hg w => lv_ior hx hb hd w) k
theorem am_ixor {x y : Int32} (hd : decode M.2.1 pc = .ok (.ixor, 1)) (k : am_Ok M sc Z nc ns (pc + 1) ls (.int (x ^^^ y) :: st) h) : am_Ok M sc Z nc ns pc ls (.int y :: .int x :: st) h := am_pure (fun r hx hb ho ht hg w => lv_ixor hx hb hd w) k
theorem am_idiv {x y : Int32} (hd : decode M.2.1 pc = .ok (.idiv, 1)) (hy : ¬ y = 0) (k : am_Ok M sc Z nc ns (pc + 1) ls (.int (x / y) :: st) h) : am_Ok M sc Z nc ns pc ls (.int y :: .int x :: st) h := am_pure (fun r hx hb ho ht hg w => lv_idiv hx hb hd hy w) k
theorem am_irem {x y : Int32} (hd : decode M.2.1 pc = .ok (.irem, 1)) (hy : ¬ y = 0) (k : am_Ok M sc Z nc ns (pc + 1) ls (.int (x - x / y * y) :: st) h) : am_Ok M sc Z nc ns pc ls (.int y :: .int x :: st) h := am_pure (fun r hx hb ho ht hg w => lv_irem hx hb hd hy w) k
theorem am_ineg {x : Int32} (hd : decode M.2.1 pc = .ok (.ineg, 1)) (k : am_Ok M sc Z nc ns (pc + 1) ls (.int (-x) :: st) h) : am_Ok M sc Z nc ns pc ls (.int x :: st) h := am_pure (fun r hx hb ho ht hg w => lv_ineg hx hb hd w) k
theorem am_ishl {x y : Int32} (hd : decode M.2.1 pc = .ok (.ishl, 1)) (k : am_Ok M sc Z nc ns (pc + 1) ls (.int (x <<< (y &&& 31)) :: st) h) : am_Ok M sc Z nc ns pc ls (.int y :: .int x :: st) h := am_pure (fun r hx hb ho ht hg w => lv_ishl hx hb hd w) k
theorem am_ishr {x y : Int32} (hd : decode M.2.1 pc = .ok (.ishr, 1)) (k : am_Ok M sc Z nc ns (pc + 1) ls (.int (x >>> (y &&& 31)) :: st) h) : am_Ok M sc Z nc ns pc ls (.int y :: .int x :: st) h := am_pure (fun r hx hb ho ht hg w => lv_ishr hx hb hd w) k
theorem am_iushr {x y : Int32} (hd : decode M.2.1 pc = .ok (.iushr, 1)) (k : am_Ok M sc Z nc ns (pc + 1) ls (.int ((x.toUInt32 >>> (y.toUInt32 &&& Int32.toUInt32 31)).toInt32) :: st) h) : am_Ok M sc Z nc ns pc ls (.int y :: .int x :: st) h := am_pure (fun r hx hb ho ht hg w => lv_iushr hx hb hd rfl w) k
theorem am_v_cat (r : Nat → Nat) (v : Value) : (am_v r v).category = v.category := by cases v <;> rfl
theorem am_dup {v : Value} (hd : decode M.2.1 pc = .ok (.dup, 1)) (hv : v.category = 1) (k : am_Ok M sc Z nc ns (pc + 1) ls (v :: v :: st) h) : am_Ok M sc Z nc ns pc ls (v :: st) h := am_pure (fun r hx hb ho ht hg w => lv_dup hx hb hd (by rw [am_v_cat]; exact hv) w) k
theorem am_dup2 {u v : Value} (hd : decode M.2.1 pc = .ok (.dup2, 1)) (hu : u.category = 1) (hv : v.category = 1) (k : am_Ok M sc Z nc ns (pc + 1) ls (u :: v :: u :: v :: st) h) : am_Ok M sc Z nc ns pc ls (u :: v :: st) h := am_pure (fun r hx hb ho ht hg w => lv_dup2_11 hx hb hd (by rw [am_v_cat]; exact hu) (by rw [am_v_cat]; exact hv) w) k
theorem am_pop {v : Value} (hd : decode M.2.1 pc = .ok (.pop, 1)) (hv : v.category = 1) (k : am_Ok M sc Z nc ns (pc + 1) ls st h) : am_Ok M sc Z nc ns pc ls (v :: st) h := am_pure (fun r hx hb ho ht hg w => lv_pop hx hb hd (by rw [am_v_cat]; exact hv) w) k
theorem am_goto {off : Int} (tgt : Nat) (hd : decode M.2.1 pc = .ok (.goto off, 3)) (ht : (pc : Int) + off = (tgt : Int)) (k : am_Ok M sc Z nc ns tgt ls st h) : am_Ok M sc Z nc ns pc ls st h := am_pure (fun r hx hb ho hh hg w => lv_goto hx hb hd ht w) k
theorem am_ifnull {x : Nat} {off : Int} (hd : decode M.2.1 pc = .ok (.ifnull off, 3)) (k : am_Ok M sc Z nc ns (pc + 3) ls st h) : am_Ok M sc Z nc ns pc ls (.ref x :: st) h := am_pure (fun r hx hb ho ht hg w => lv_ifnull hx hb hd w) k
theorem am_ifnullN {off : Int} (tgt : Nat) (hd : decode M.2.1 pc = .ok (.ifnull off, 3)) (ht : (pc : Int) + off = (tgt : Int)) (k : am_Ok M sc Z nc ns tgt ls st h) : am_Ok M sc Z nc ns pc ls (.null :: st) h := am_pure (fun r hx hb ho hh hg w => lv_ifnullN hx hb hd ht w) k
theorem am_ifnonnull {x : Nat} {off : Int} (tgt : Nat) (hd : decode M.2.1 pc = .ok (.ifnonnull off, 3)) (ht : (pc : Int) + off = (tgt : Int)) (k : am_Ok M sc Z nc ns tgt ls st h) : am_Ok M sc Z nc ns pc ls (.ref x :: st) h := am_pure (fun r hx hb ho hh hg w => lv_ifnonnull hx hb hd ht w) k
theorem am_ifnonnullN {off : Int} (hd : decode M.2.1 pc = .ok (.ifnonnull off, 3)) (k : am_Ok M sc Z nc ns (pc + 3) ls st h) : am_Ok M sc Z nc ns pc ls (.null :: st) h := am_pure (fun r hx hb ho ht hg w => lv_ifnonnullN hx hb hd w) k
/-- a branch -/
theorem am_br {pc1 pc2 : Nat} {C : Prop} (w : ∀ {p : Program} {l : Launch} {e : Env} {R : Room} {s : State} {m : MethodId} {args : Array Value} {below : List Frame} {meth : Method} {c : Code} {Q : State → Prop} {H : Heap} {locs : List Loc} {cells slots : Nat} {lc : Array Slot} (r : Nat → Nat), p.tables.exec = Jvm.exec → c.code = M.2.1 →
    (C → W p l e R s m args below meth c H locs cells slots Q (F0 m pc1 lc (st'.map (am_v r)))) → (¬ C → W p l e R s m args below meth c H locs cells slots Q (F0 m pc2 lc (st'.map (am_v r)))) → W p l e R s m args below meth c H locs cells slots Q (F0 m pc lc (st.map (am_v r)))) (k1 : C → am_Ok M sc Z nc ns pc1 ls st' h) (k2 : ¬ C → am_Ok M sc Z nc ns pc2 ls st' h) : am_Ok M sc Z nc ns pc ls st h := by
  intro p l e R s m args below meth c Q D cy A r0 P0 N0 X hR r H locs cells slots lc hZ hS hL hE hN
  exact w r X.1 X.2.1 (fun hc => k1 hc p l e R s m args below meth c Q D cy A r0 P0 N0 X hR r H locs cells slots lc hZ hS hL hE hN) (fun hc => k2 hc p l e R s m args below meth c Q D cy A r0 P0 N0 X hR r H locs cells slots lc hZ hS hL hE hN)
theorem am_icmp_eq {x y : Int32} {off : Int} (tgt : Nat) (hd : decode M.2.1 pc = .ok (.if_icmp .eq off, 3)) (ht : (pc : Int) + off = (tgt : Int)) (k1 : x = y → am_Ok M sc Z nc ns tgt ls st h) (k2 : ¬ x = y → am_Ok M sc Z nc ns (pc + 3) ls st h) : am_Ok M sc Z nc ns pc ls (.int y :: .int x :: st) h := am_br (fun r hx hb w1 w2 => lv_icmp_eq hx hb hd ht w1 w2) k1 k2
theorem am_icmp_ne {x y : Int32} {off : Int} (tgt : Nat) (hd : decode M.2.1 pc = .ok (.if_icmp .ne off, 3)) (ht : (pc : Int) + off = (tgt : Int)) (k1 : x = y → am_Ok M sc Z nc ns (pc + 3) ls st h) (k2 : ¬ x = y → am_Ok M sc Z nc ns tgt ls st h) : am_Ok M sc Z nc ns pc ls (.int y :: .int x :: st) h := am_br (fun r hx hb w1 w2 => lv_icmp_ne hx hb hd ht w2 w1) k1 k2
theorem am_icmp_lt {x y : Int32} {off : Int} (tgt : Nat) (hd : decode M.2.1 pc = .ok (.if_icmp .lt off, 3)) (ht : (pc : Int) + off = (tgt : Int)) (k1 : x < y → am_Ok M sc Z nc ns tgt ls st h) (k2 : ¬ x < y → am_Ok M sc Z nc ns (pc + 3) ls st h) : am_Ok M sc Z nc ns pc ls (.int y :: .int x :: st) h := am_br (fun r hx hb w1 w2 => lv_icmp_lt hx hb hd ht w1 w2) k1 k2
theorem am_icmp_ge {x y : Int32} {off : Int} (tgt : Nat) (hd : decode M.2.1 pc = .ok (.if_icmp .ge off, 3)) (ht : (pc : Int) + off = (tgt : Int)) (k1 : y ≤ x → am_Ok M sc Z nc ns tgt ls st h) (k2 : ¬ y ≤ x → am_Ok M sc Z nc ns (pc + 3) ls st h) : am_Ok M sc Z nc ns pc ls (.int y :: .int x :: st) h := am_br (fun r hx hb w1 w2 => lv_icmp_ge hx hb hd ht w1 w2) k1 k2
theorem am_icmp_gt {x y : Int32} {off : Int} (tgt : Nat) (hd : decode M.2.1 pc = .ok (.if_icmp .gt off, 3)) (ht : (pc : Int) + off = (tgt : Int)) (k1 : y < x → am_Ok M sc Z nc ns tgt ls st h) (k2 : ¬ y < x → am_Ok M sc Z nc ns (pc + 3) ls st h) : am_Ok M sc Z nc ns pc ls (.int y :: .int x :: st) h := am_br (fun r hx hb w1 w2 => lv_icmp_gt hx hb hd ht w1 w2) k1 k2
theorem am_icmp_le {x y : Int32} {off : Int} (tgt : Nat) (hd : decode M.2.1 pc = .ok (.if_icmp .le off, 3)) (ht : (pc : Int) + off = (tgt : Int)) (k1 : x ≤ y → am_Ok M sc Z nc ns tgt ls st h) (k2 : ¬ x ≤ y → am_Ok M sc Z nc ns (pc + 3) ls st h) : am_Ok M sc Z nc ns pc ls (.int y :: .int x :: st) h := am_br (fun r hx hb w1 w2 => lv_icmp_le hx hb hd ht w1 w2) k1 k2
theorem am_if_eq {x : Int32} {off : Int} (tgt : Nat) (hd : decode M.2.1 pc = .ok (.ifCond .eq off, 3)) (ht : (pc : Int) + off = (tgt : Int)) (k1 : x = 0 → am_Ok M sc Z nc ns tgt ls st h) (k2 : ¬ x = 0 → am_Ok M sc Z nc ns (pc + 3) ls st h) : am_Ok M sc Z nc ns pc ls (.int x :: st) h := am_br (fun r hx hb w1 w2 => lv_if_eq hx hb hd ht w1 w2) k1 k2
theorem am_if_ne {x : Int32} {off : Int} (tgt : Nat) (hd : decode M.2.1 pc = .ok (.ifCond .ne off, 3)) (ht : (pc : Int) + off = (tgt : Int)) (k1 : x = 0 → am_Ok M sc Z nc ns (pc + 3) ls st h) (k2 : ¬ x = 0 → am_Ok M sc Z nc ns tgt ls st h) : am_Ok M sc Z nc ns pc ls (.int x :: st) h := am_br (fun r hx hb w1 w2 => lv_if_ne hx hb hd ht w2 w1) k1 k2
theorem am_if_lt {x : Int32} {off : Int} (tgt : Nat) (hd : decode M.2.1 pc = .ok (.ifCond .lt off, 3)) (ht : (pc : Int) + off = (tgt : Int)) (k1 : x < 0 → am_Ok M sc Z nc ns tgt ls st h) (k2 : ¬ x < 0 → am_Ok M sc Z nc ns (pc + 3) ls st h) : am_Ok M sc Z nc ns pc ls (.int x :: st) h := am_br (fun r hx hb w1 w2 => lv_if_lt hx hb hd ht w1 w2) k1 k2
theorem am_if_ge {x : Int32} {off : Int} (tgt : Nat) (hd : decode M.2.1 pc = .ok (.ifCond .ge off, 3)) (ht : (pc : Int) + off = (tgt : Int)) (k1 : 0 ≤ x → am_Ok M sc Z nc ns tgt ls st h) (k2 : ¬ 0 ≤ x → am_Ok M sc Z nc ns (pc + 3) ls st h) : am_Ok M sc Z nc ns pc ls (.int x :: st) h := am_br (fun r hx hb w1 w2 => lv_if_ge hx hb hd ht w1 w2) k1 k2
theorem am_if_gt {x : Int32} {off : Int} (tgt : Nat) (hd : decode M.2.1 pc = .ok (.ifCond .gt off, 3)) (ht : (pc : Int) + off = (tgt : Int)) (k1 : 0 < x → am_Ok M sc Z nc ns tgt ls st h) (k2 : ¬ 0 < x → am_Ok M sc Z nc ns (pc + 3) ls st h) : am_Ok M sc Z nc ns pc ls (.int x :: st) h := am_br (fun r hx hb w1 w2 => lv_if_gt hx hb hd ht w1 w2) k1 k2
theorem am_if_le {x : Int32} {off : Int} (tgt : Nat) (hd : decode M.2.1 pc = .ok (.ifCond .le off, 3)) (ht : (pc : Int) + off = (tgt : Int)) (k1 : x ≤ 0 → am_Ok M sc Z nc ns tgt ls st h) (k2 : ¬ x ≤ 0 → am_Ok M sc Z nc ns (pc + 3) ls st h) : am_Ok M sc Z nc ns pc ls (.int x :: st) h := am_br (fun r hx hb w1 w2 => lv_if_le hx hb hd ht w1 w2) k1 k2
/-- returns -/
theorem am_ret {v : Option Value} (hst : v.toList = st) (hi : am_ri M pc v) (hz : Z v h) : am_Ok M sc Z nc ns pc ls st h := by
  intro p l e R s m args below meth c Q D cy A r0 P0 N0 X hR r H locs cells slots lc hZ hS hL hE hN
  subst hst
  exact hR v h r H locs cells slots lc pc hz hZ hS hE (by omega) (by omega) hi
theorem am_ireturn {x : Int32} (hd : decode M.2.1 pc = .ok (.ireturn, 1)) (ht : M.2.2.2.1 = some .int) (hz : Z (some (.int x)) h) : am_Ok M sc Z nc ns pc ls [.int x] h := am_ret (v := some (.int x)) rfl ⟨hd, .int, ht, rfl⟩ hz
theorem am_zreturn {x : Int32} (hd : decode M.2.1 pc = .ok (.ireturn, 1)) (ht : M.2.2.2.1 = some .boolean) (hx : narrow .boolean (.int x) = .int x) (hz : Z (some (.int x)) h) : am_Ok M sc Z nc ns pc ls [.int x] h := am_ret (v := some (.int x)) rfl ⟨hd, .boolean, ht, hx⟩ hz
theorem am_vreturn (hd : decode M.2.1 pc = .ok (.return_, 1)) (ht : M.2.2.2.1 = none) (hz : Z none h) : am_Ok M sc Z nc ns pc ls [] h := am_ret (v := none) rfl ⟨hd, ht⟩ hz
theorem am_areturn {x : Nat} {C : String} (hd : decode M.2.1 pc = .ok (.areturn, 1)) (ht : M.2.2.2.1 = some (.object C)) (hz : Z (some (.ref x)) h) : am_Ok M sc Z nc ns pc ls [.ref x] h := am_ret (v := some (.ref x)) rfl ⟨hd, Or.inr ⟨x, rfl⟩, C, ht⟩ hz
/-- stores into a local -/
theorem am_store {pc' i : Nat} {v : Value} (hi : i < M.2.2.1) (hls : ls.length = M.2.2.1) (hv : v.category = 1)
    (w : ∀ {p : Program} {l : Launch} {e : Env} {R : Room} {s : State} {m : MethodId} {args : Array Value} {below : List Frame} {meth : Method} {c : Code} {Q : State → Prop} {H : Heap} {locs : List Loc} {cells slots : Nat} {lc : Array Slot} (r : Nat → Nat) (lv : List (Nat × Value)), p.tables.exec = Jvm.exec → c.code = M.2.1 → lv_has lc M.2.2.1 lv → (∀ (k : Nat) (v : Value), ls[k]? = some (some v) → (k, am_v r v) ∈ lv) →
      (∀ lc' : Array Slot, lv_has lc' M.2.2.1 ((i, am_v r v) :: lv.filter (fun q => !(q.1 == i) && !(q.1 + 1 == i && q.2.category == 2))) → W p l e R s m args below meth c H locs cells slots Q (F0 m pc' lc' (st'.map (am_v r)))) → W p l e R s m args below meth c H locs cells slots Q (F0 m pc lc (st.map (am_v r)))) (k : am_Ok M sc Z nc ns pc' (ls.set i (some v)) st' h) : am_Ok M sc Z nc ns pc ls st h := by
  intro p l e R s m args below meth c Q D cy A r0 P0 N0 X hR r H locs cells slots lc hZ hS hL hE hN
  obtain ⟨lv, hl, hlv⟩ := id hL
  refine w r lv X.1 X.2.1 hl (fun k v hk => (hlv k v hk).1) (fun lc' hl' => ?_)
  refine k p l e R s m args below meth c Q D cy A r0 P0 N0 X hR r H locs cells slots lc' hZ hS ⟨_, hl', fun j u hj => ?_⟩ hE hN
  by_cases e : j = i
  · subst e
    rw [List.getElem?_set_self (by omega)] at hj
    have e2 : v = u := Option.some.inj (Option.some.inj hj)
    subst e2
    exact ⟨List.mem_cons_self, hv⟩
  · rw [List.getElem?_set_ne (Ne.symm e)] at hj
    obtain ⟨h1, h2⟩ := hlv j u hj
    refine ⟨List.mem_cons_of_mem _ (List.mem_filter.mpr ⟨h1, ?_⟩), h2⟩
    have hc : (am_v r u).category = 1 := by rw [am_v_cat]; exact h2
    simp [e, hc]
theorem am_istore_n {i : Fin 4} {x : Int32} (hd : decode M.2.1 pc = .ok (.istore_n i, 1)) (hi : (i : Nat) < M.2.2.1) (hls : ls.length = M.2.2.1) (k : am_Ok M sc Z nc ns (pc + 1) (ls.set i (some (.int x))) st h) : am_Ok M sc Z nc ns pc ls (.int x :: st) h := am_store (i := (i : Nat)) (v := .int x) hi hls rfl (fun r lv hx hb hl hm w => lv_istore_n hx hb hd rfl hl hi rfl w) k
theorem am_istore {i : Nat} {x : Int32} (hd : decode M.2.1 pc = .ok (.istore i, 2)) (hi : i < M.2.2.1) (hls : ls.length = M.2.2.1) (k : am_Ok M sc Z nc ns (pc + 2) (ls.set i (some (.int x))) st h) : am_Ok M sc Z nc ns pc ls (.int x :: st) h := am_store (i := i) (v := .int x) hi hls rfl (fun r lv hx hb hl hm w => lv_istore hx hb hd hl hi rfl w) k
theorem am_astore_n {i : Fin 4} {x : Nat} (hd : decode M.2.1 pc = .ok (.astore_n i, 1)) (hi : (i : Nat) < M.2.2.1) (hls : ls.length = M.2.2.1) (k : am_Ok M sc Z nc ns (pc + 1) (ls.set i (some (.ref x))) st h) : am_Ok M sc Z nc ns pc ls (.ref x :: st) h := am_store (i := (i : Nat)) (v := .ref x) hi hls rfl (fun r lv hx hb hl hm w => lv_astore_n hx hb hd rfl hl hi rfl w) k
theorem am_astore {i : Nat} {x : Nat} (hd : decode M.2.1 pc = .ok (.astore i, 2)) (hi : i < M.2.2.1) (hls : ls.length = M.2.2.1) (k : am_Ok M sc Z nc ns (pc + 2) (ls.set i (some (.ref x))) st h) : am_Ok M sc Z nc ns pc ls (.ref x :: st) h := am_store (i := i) (v := .ref x) hi hls rfl (fun r lv hx hb hl hm w => lv_astore hx hb hd hl hi rfl w) k
theorem am_astore_nN {i : Fin 4} (hd : decode M.2.1 pc = .ok (.astore_n i, 1)) (hi : (i : Nat) < M.2.2.1) (hls : ls.length = M.2.2.1) (k : am_Ok M sc Z nc ns (pc + 1) (ls.set i (some .null)) st h) : am_Ok M sc Z nc ns pc ls (.null :: st) h := am_store (i := (i : Nat)) (v := .null) hi hls rfl (fun r lv hx hb hl hm w => lv_astore_nN hx hb hd rfl hl hi rfl w) k
theorem am_iinc {i : Nat} {n : Int} {x v : Int32} (hd : decode M.2.1 pc = .ok (.iinc i n, 3)) (hi : i < M.2.2.1) (hls : ls.length = M.2.2.1) (hl : ls[i]? = some (some (.int x))) (hv : x + Int32.ofInt n = v) (k : am_Ok M sc Z nc ns (pc + 3) (ls.set i (some (.int v))) st h) : am_Ok M sc Z nc ns pc ls st h := am_store (i := i) (v := .int v) hi hls rfl (fun r lv hx hb hl2 hm w => by
  obtain ⟨q, hq⟩ := List.getElem?_of_mem (hm i (.int x) hl)
  exact lv_iinc hx hb hd hl2 hq hv hi rfl w) k
end AMR
end
section
/-! rules that read and write cells, and make them -/
/-- a class of the tables -/
def am_cls (ci : Nat) (C : String) (T : u_T) (N : Nat) (ty : Nat → FieldType) : Prop := vwCl[ci]? = some (C, T, N) ∧ (∀ w ∈ u_ws C T N, w ∈ am_T) ∧ (∀ k, k < N → parseFieldDescriptor (T k).2.2.1 = some (ty k)) ∧ (∀ a, a < N → ∀ b, b < N → a ≠ b → (T a).2.1 ≠ (T b).2.1)
/-- a field's link: index in the class's pool, class number, slot -/
def am_fl (own : String) (idx ci k : Nat) : Prop := ∃ (C : String) (T : u_T) (N : Nat) (ty : Nat → FieldType), am_cls ci C T N ty ∧ k < N ∧ (T k).1 = C ∧ (Cond.fieldLink own idx C (T k).2.1 (T k).2.2.1 ∈ am_T ∨ ∃ host, Cond.fieldLinkNest own idx C (T k).2.1 (T k).2.2.1 host ∈ am_N)
/-- .. to be written: type, final -/
def am_fp (own : String) (idx ci k : Nat) (ft : FieldType) (fin : Bool) : Prop := ∃ (C : String) (T : u_T) (N : Nat) (ty : Nat → FieldType), am_cls ci C T N ty ∧ k < N ∧ (T k).1 = C ∧ ty k = ft ∧ (T k).2.2.2 = fin ∧ ((Cond.fieldLink own idx C (T k).2.1 (T k).2.2.1 ∈ am_T ∧ (fin = true → C = own)) ∨ (fin = false ∧ ∃ host, Cond.fieldLinkNest own idx C (T k).2.1 (T k).2.2.1 host ∈ am_N))
section AMH
variable {M : am_M} {sc : Option (Nat × (Nat → Int32))} {Z : Option Value → am_H → Prop} {nc ns pc : Nat} {ls : List (Option Value)} {st st' : List Value} {h : am_H}
/-- a step that reads the heap -/
theorem am_read {pc' : Nat} (w : ∀ {p : Program} {l : Launch} {e : Env} {R : Room} {s : State} {m : MethodId} {args : Array Value} {below : List Frame} {meth : Method} {c : Code} {Q : State → Prop} {H : Heap} {locs : List Loc} {cells slots : Nat} {lc : Array Slot} {D : va_G} {cy : Nat → ClassId} (r : Nat → Nat) (ws : va_W), p.tables.exec = Jvm.exec → c.code = M.2.1 → s.vm.findClass M.1.cls = some m.cls → (∀ w ∈ am_T, w.before args s = true) → am_K D cy s → va_P D vwCl ws H → (∀ (k : Nat) (c : am_C), h[k]? = some (some c) → ∃ q : Nat, ws[q]? = some (r k, am_e cy r c)) →
    W p l e R s m args below meth c H locs cells slots Q (F0 m pc' lc (st'.map (am_v r))) → W p l e R s m args below meth c H locs cells slots Q (F0 m pc lc (st.map (am_v r)))) (k : am_Ok M sc Z nc ns pc' ls st' h) : am_Ok M sc Z nc ns pc ls st h := by
  intro p l e R s m args below meth c Q D cy A r0 P0 N0 X hR r H locs cells slots lc hZ hS hL hE hN
  obtain ⟨ws, hP, hD, cov⟩ := hZ.toW
  exact w r ws X.1 X.2.1 X.2.2.2.1 X.2.2.2.2.1 X.2.2.2.2.2.1 hP cov (k p l e R s m args below meth c Q D cy A r0 P0 N0 X hR r H locs cells slots lc hZ hS hL hE hN)
theorem am_getf {idx q ci i : Nat} {fs : List Value} {v : Value} (hd : decode M.2.1 pc = .ok (.getfield idx, 3)) (hf : am_fl M.1.cls idx ci i) (hq : h[q]? = some (some (.inr (.inr (ci, fs))))) (hv : fs[i]? = some v) (k : am_Ok M sc Z nc ns (pc + 3) ls (v :: st) h) : am_Ok M sc Z nc ns pc ls (.ref q :: st) h := by
  obtain ⟨C, T, N, ty, ⟨h1, h2, h3, h4⟩, h5, h6, h7⟩ := hf
  refine am_read (fun {p l e R s m args below meth c Q H locs cells slots lc D cy} r ws hx hb ho ht hK hP cov w => ?_) k
  obtain ⟨q0, hq0⟩ := cov q _ hq
  have hv' : (fs.map (am_v r))[i]? = some (am_v r v) := by rw [List.getElem?_map, hv]; rfl
  rcases h7 with h7 | ⟨host, h7⟩
  · exact va_get hx hb ht h2 ho hK.1 hP q0 hq0 h1 i h5 (ht _ h7) (fun x hx => by rw [h6] at hx; exact hx) hv' hd w
  · exact va_getN hx hb ht h2 ho hK.1 hP q0 hq0 h1 i h5 (va_Nw.use rfl (hK.2.1 _ h7)) (fun x hx => by rw [h6] at hx; exact hx) hv' hd w
theorem am_iaload {q n : Nat} {f : Nat → Int32} {i : Int32} (hd : decode M.2.1 pc = .ok (.iaload, 1)) (hq : h[q]? = some (some (.inl (0, n, f)))) (hi : vp_in i n) (k : am_Ok M sc Z nc ns (pc + 1) ls (.int (f i.toNatClampNeg) :: st) h) : am_Ok M sc Z nc ns pc ls (.int i :: .ref q :: st) h := by
  refine am_read (fun {p l e R s m args below meth c Q H locs cells slots lc D cy} r ws hx hb ho ht hK hP cov w => ?_) k
  obtain ⟨q0, hq0⟩ := cov q _ hq
  exact va_iald hx hb hK.1 hP q0 0 hq0 rfl hi hd w
theorem am_baload {q n : Nat} {f : Nat → Int32} {i : Int32} (hd : decode M.2.1 pc = .ok (.baload, 1)) (hq : h[q]? = some (some (.inl (1, n, f)))) (hi : vp_in i n) (k : am_Ok M sc Z nc ns (pc + 1) ls (.int (f i.toNatClampNeg) :: st) h) : am_Ok M sc Z nc ns pc ls (.int i :: .ref q :: st) h := by
  refine am_read (fun {p l e R s m args below meth c Q H locs cells slots lc D cy} r ws hx hb ho ht hK hP cov w => ?_) k
  obtain ⟨q0, hq0⟩ := cov q _ hq
  exact va_zald hx hb hK.1 hP q0 1 hq0 rfl hi hd w
theorem am_alen {q n t : Nat} {f : Nat → Int32} {v : Int32} (hd : decode M.2.1 pc = .ok (.arraylength, 1)) (hq : h[q]? = some (some (.inl (0, n, f)))) (hv : Int32.ofNat n = v) (k : am_Ok M sc Z nc ns (pc + 1) ls (.int v :: st) h) : am_Ok M sc Z nc ns pc ls (.ref q :: st) h := by
  refine am_read (fun {p l e R s m args below meth c Q H locs cells slots lc D cy} r ws hx hb ho ht hK hP cov w => ?_) k
  obtain ⟨q0, hq0⟩ := cov q _ hq
  exact va_alen hx hb hK.1 hP q0 0 hq0 rfl hv hd w
def am_rf (o : Option Nat) : Value := match o with
  | none => .null
  | some i => .ref i
theorem am_aaload {q : Nat} {l : List (Option Nat)} {i : Int32} {o : Option Nat} (hd : decode M.2.1 pc = .ok (.aaload, 1)) (hq : h[q]? = some (some (.inr (.inl l)))) (hi : vp_in i l.length) (ho : l.getD i.toNatClampNeg none = o) (k : am_Ok M sc Z nc ns (pc + 1) ls (am_rf o :: st) h) : am_Ok M sc Z nc ns pc ls (.int i :: .ref q :: st) h := by
  refine am_read (fun {p l' e R s m args below meth c Q H locs cells slots lc D cy} r ws hx hb ho' ht hK hP cov w => ?_) k
  obtain ⟨q0, hq0⟩ := cov q _ hq
  refine va_aldq hx hb hK.1 hP q0 2 hq0 rfl hi hd ?_
  subst ho
  have e : va_rf ((l.getD i.toNatClampNeg none).map r) = am_v r (am_rf (l.getD i.toNatClampNeg none)) := by
    cases l.getD i.toNatClampNeg none <;> rfl
  exact W.eq (congrArg (fun z => F0 m (pc + 1) lc (z :: st.map (am_v r))) e) w
/-- the script -/
theorem am_sld {L : Nat} {xs : Nat → Int32} {i : Int32} (hs : sc = some (L, xs)) (hd : decode M.2.1 pc = .ok (.iaload, 1)) (hi : vp_in i L) (k : am_Ok M sc Z nc ns (pc + 1) ls (.int (xs i.toNatClampNeg) :: st) h) : am_Ok M sc Z nc ns pc ls (.int i :: .ref 1000 :: st) h := by
  subst hs
  intro p l e R s m args below meth c Q D cy A r0 P0 N0 X hR r H locs cells slots lc hZ hS hL hE hN
  obtain ⟨x1, x2, x3, x4⟩ := X.2.2.2.2.2.2.2.2.2.2
  have er : r 1000 = r0 1000 := hE.1 1000 x1
  have w := k p l e R s m args below meth c Q D cy A r0 P0 N0 X hR r H locs cells slots lc hZ hS hL hE hN
  show W p l e R s m args below meth c H locs cells slots Q (F0 m pc lc (.int i :: .ref (r 1000) :: st.map (am_v r)))
  rw [er]
  exact va_sld X.1 X.2.1 x2 x3 x4 hS hi hd w
theorem am_slen {L : Nat} {xs : Nat → Int32} (hs : sc = some (L, xs)) (hd : decode M.2.1 pc = .ok (.arraylength, 1)) (k : am_Ok M sc Z nc ns (pc + 1) ls (.int (Int32.ofNat L) :: st) h) : am_Ok M sc Z nc ns pc ls (.ref 1000 :: st) h := by
  subst hs
  intro p l e R s m args below meth c Q D cy A r0 P0 N0 X hR r H locs cells slots lc hZ hS hL hE hN
  obtain ⟨x1, x2, x3, x4⟩ := X.2.2.2.2.2.2.2.2.2.2
  have er : r 1000 = r0 1000 := hE.1 1000 x1
  have w := k p l e R s m args below meth c Q D cy A r0 P0 N0 X hR r H locs cells slots lc hZ hS hL hE hN
  show W p l e R s m args below meth c H locs cells slots Q (F0 m pc lc (.ref (r 1000) :: st.map (am_v r)))
  rw [er]
  exact va_slen X.1 X.2.1 x2 x3 x4 hS hd w
/-- a step that writes one cell -/
theorem am_write {pc' q : Nat} {c0 c1 : am_C} (hq : h[q]? = some (some c0)) (w : ∀ {p : Program} {l : Launch} {e : Env} {R : Room} {s : State} {m : MethodId} {args : Array Value} {below : List Frame} {meth : Method} {c : Code} {Q : State → Prop} {H : Heap} {locs : List Loc} {cells slots : Nat} {lc : Array Slot} {D : va_G} {cy : Nat → ClassId} {A : Nat → Prop} (r : Nat → Nat) (ws : va_W) (q0 : Nat), p.tables.exec = Jvm.exec → c.code = M.2.1 → c.maxLocals = M.2.2.1 → lc.size = M.2.2.1 → s.vm.findClass M.1.cls = some m.cls → (∀ w ∈ am_T, w.before args s = true) → am_K D cy s → (M.1.name = "<init>" → meth.name = "<init>") → R.frames = M.2.2.2.2.1 → R.locals = M.2.2.2.2.2 → va_P D vwCl ws H → va_D A ws → va_S A s.heap H locs → (∀ (k : Nat) (c : am_C), h[k]? = some (some c) → ∃ q : Nat, ws[q]? = some (r k, am_e cy r c)) → ws[q0]? = some (r q, am_e cy r c0) →
    (∀ (H1 : Heap) (locs1 : List Loc), va_P D vwCl (ws.set q0 (r q, am_e cy r c1)) H1 → va_D A (ws.set q0 (r q, am_e cy r c1)) → va_S A s.heap H1 locs1 → W p l e R s m args below meth c H1 locs1 cells slots Q (F0 m pc' lc (st'.map (am_v r)))) → W p l e R s m args below meth c H locs cells slots Q (F0 m pc lc (st.map (am_v r)))) (k : am_Ok M sc Z nc ns pc' ls st' (h.set q (some c1))) : am_Ok M sc Z nc ns pc ls st h := by
  intro p l e R s m args below meth c Q D cy A r0 P0 N0 X hR r H locs cells slots lc hZ hS hL hE hN
  obtain ⟨ws, hP, hD, cov⟩ := hZ.toW
  obtain ⟨q0, hq0⟩ := cov q _ hq
  obtain ⟨lv, hlv, -⟩ := id hL
  refine w r ws q0 X.1 X.2.1 X.2.2.1 hlv.1 X.2.2.2.1 X.2.2.2.2.1 X.2.2.2.2.2.1 X.2.2.2.2.2.2.2.2.2.1 X.2.2.2.2.2.2.2.1 X.2.2.2.2.2.2.2.2.1 hP hD hS cov hq0 (fun H1 locs1 hP1 hD1 hS1 => ?_)
  refine k p l e R s m args below meth c Q D cy A r0 P0 N0 X hR r H1 locs1 cells slots lc (hZ.set hq cov hq0 hP1) hS1 hL ⟨hE.1, fun i hi => ?_, by rw [List.length_set]; exact hE.2.2⟩ hN
  by_cases ei : i = q
  · subst ei; rw [am_set_eq hq]; exact fun z => by cases z
  · rw [am_set_ne ei]; exact hE.2.1 i hi
theorem am_putf {idx q ci i : Nat} {fs : List Value} {v : Value} {ft : FieldType} {fin : Bool} (hd : decode M.2.1 pc = .ok (.putfield idx, 3)) (hf : am_fp M.1.cls idx ci i ft fin) (hfin : fin = true → M.1.name = "<init>") (hv : ∀ r, narrow ft (am_v r v) = am_v r v ∧ fits ft (am_v r v) = true) (hq : h[q]? = some (some (.inr (.inr (ci, fs))))) (hi : i < fs.length) (k : am_Ok M sc Z nc ns (pc + 3) ls st (h.set q (some (.inr (.inr (ci, fs.set i v)))))) : am_Ok M sc Z nc ns pc ls (v :: .ref q :: st) h := by
  obtain ⟨C, T, N, ty, ⟨h1, h2, h3, h4⟩, h5, h6, h7, h8, h9⟩ := hf
  refine am_write hq (fun {p l e R s m args below meth c Q H locs cells slots lc D cy A} r ws q0 hx hb hml hlc ho ht hK hin hfr hlo hP hD hS cov hq0 w => ?_) k
  have hd3 : parseFieldDescriptor (T i).2.2.1 = some ft := by rw [h3 i h5, h7]
  have e : am_e cy r (.inr (.inr (ci, fs.set i v))) = .inr (ci, (fs.map (am_v r)).set i (am_v r v)) := by simp only [am_e]; rw [List.map_set]
  rw [e] at w
  have hl : i < (fs.map (am_v r)).length := by rw [List.length_map]; exact hi
  rcases h9 with ⟨h9, h10⟩ | ⟨h10, host, h9⟩
  · cases fin with
    | false => exact va_put hx hb ht h2 ty h3 h4 ho hK.1 hP hD hS q0 hq0 h1 i h5 (ht _ h9) (fun x hx => by rw [h6] at hx; exact hx) h8 hd3 (hv r).1 (hv r).2 hl hd w
    | true => exact va_putF hx hb ht h2 ty h3 h4 ho hK.1 hP hD hS q0 hq0 h1 i h5 (ht _ h9) (fun x hx => by rw [h6] at hx; exact hx) h8 (hin (hfin rfl)) (by rw [h6]; exact h10 rfl) hd3 (hv r).1 (hv r).2 hl hd w
  · subst h10
    exact va_putN hx hb ht h2 ty h3 h4 ho hK.1 hP hD hS q0 hq0 h1 i h5 (va_Nw.use rfl (hK.2.1 _ h9)) (fun x hx => by rw [h6] at hx; exact hx) h8 hd3 (hv r).1 (hv r).2 hl hd w
theorem am_iastore {q n : Nat} {f : Nat → Int32} {i x : Int32} (hd : decode M.2.1 pc = .ok (.iastore, 1)) (hq : h[q]? = some (some (.inl (0, n, f)))) (hi : vp_in i n) (k : am_Ok M sc Z nc ns (pc + 1) ls st (h.set q (some (.inl (0, n, upd f i.toNatClampNeg x))))) : am_Ok M sc Z nc ns pc ls (.int x :: .int i :: .ref q :: st) h := by
  refine am_write hq (fun {p l e R s m args below meth c Q H locs cells slots lc D cy A} r ws q0 hx hb hml hlc ho ht hK hin hfr hlo hP hD hS cov hq0 w => ?_) k
  exact va_iast hx hb hK.1 hP hD hS q0 0 hq0 rfl hi hd w
theorem am_bastore {q n : Nat} {f : Nat → Int32} {i x : Int32} (hd : decode M.2.1 pc = .ok (.bastore, 1)) (hq : h[q]? = some (some (.inl (1, n, f)))) (hi : vp_in i n) (k : am_Ok M sc Z nc ns (pc + 1) ls st (h.set q (some (.inl (1, n, upd f i.toNatClampNeg (vp_nar .boolean x)))))) : am_Ok M sc Z nc ns pc ls (.int x :: .int i :: .ref q :: st) h := by
  refine am_write hq (fun {p l e R s m args below meth c Q H locs cells slots lc D cy A} r ws q0 hx hb hml hlc ho ht hK hin hfr hlo hP hD hS cov hq0 w => ?_) k
  exact va_zast hx hb hK.1 hP hD hS q0 1 hq0 rfl hi hd w
theorem am_aastore {q y : Nat} {l : List (Option Nat)} {fs : List Value} {i : Int32} (hd : decode M.2.1 pc = .ok (.aastore, 1)) (hq : h[q]? = some (some (.inr (.inl l)))) (hy : h[y]? = some (some (.inr (.inr (3, fs))))) (hi : vp_in i l.length) (k : am_Ok M sc Z nc ns (pc + 1) ls st (h.set q (some (.inr (.inl (l.set i.toNatClampNeg (some y))))))) : am_Ok M sc Z nc ns pc ls (.ref y :: .int i :: .ref q :: st) h := by
  refine am_write hq (fun {p l' e R s m args below meth c Q H locs cells slots lc D cy A} r ws q0 hx hb hml hlc ho ht hK hin hfr hlo hP hD hS cov hq0 w => ?_) k
  obtain ⟨qk, hqk⟩ := cov y _ hy
  have hlt : i.toNatClampNeg < l.length := Nat.not_le.mp fun z => hi (Or.inr z)
  have e : am_e cy r (.inr (.inl (l.set i.toNatClampNeg (some y)))) = .inl (cy 2, l.length, .inr (.inr (.inr (.inr (va_up (fun j => (l.getD j none).map r) i.toNatClampNeg (some (r y))))))) := by
    simp only [am_e, List.length_set]
    refine congrArg (fun z : Nat → Option Nat => (Sum.inl (cy 2, l.length, .inr (.inr (.inr (.inr z)))) : va_E)) (funext fun j => ?_)
    simp only [va_up, List.getD_eq_getElem?_getD]
    by_cases ej : j = i.toNatClampNeg
    · subst ej
      rw [if_pos rfl, List.getElem?_set_self hlt]
      rfl
    · rw [if_neg ej, List.getElem?_set_ne (Ne.symm ej)]
  rw [e] at w
  exact va_astq hx hb hK.1 hP hD hS q0 2 qk 3 hq0 rfl hqk rfl hi hd w
theorem am_copy {idx q0 q1 n0 n1 : Nat} {f g : Nat → Int32} {sp dp n : Int32} (hd : decode M.2.1 pc = .ok (.invokestatic idx, 3)) (hl : Cond.methodLink M.1.cls idx arraycopyName ∈ am_T) (hn : Cond.native arraycopyName ∈ am_T) (hs : Cond.static arraycopyName ∈ am_T) (hini : Cond.initialized "java/lang/System" ∈ am_T)
    (ha : h[q0]? = some (some (.inl (0, n0, f)))) (hb1 : h[q1]? = some (some (.inl (0, n1, g)))) (h1 : ¬ sp < 0) (h2 : ¬ dp < 0) (h3 : ¬ n < 0) (h4 : sp.toNatClampNeg + n.toNatClampNeg ≤ n0) (h5 : dp.toNatClampNeg + n.toNatClampNeg ≤ n1) (hfr0 : 1 ≤ M.2.2.2.2.1) (hlo0 : (st.map fun v => v.category).sum + (nativeFrameWords "java/lang/System" "arraycopy" 5 + 11) ≤ M.2.2.2.2.2)
    (k : am_Ok M sc Z nc ns (pc + 3) ls st (h.set q1 (some (.inl (0, n1, va_cpy f g sp.toNatClampNeg dp.toNatClampNeg n.toNatClampNeg))))) : am_Ok M sc Z nc ns pc ls (.int n :: .int dp :: .ref q1 :: .int sp :: .ref q0 :: st) h := by
  refine am_write hb1 (fun {p l' e R s m args below meth c Q H locs cells slots lc D cy A} r ws w0 hx hb hml hlc ho ht hK hin hfr hlo hP hD hS cov hq0 w => ?_) k
  obtain ⟨qk, hqk⟩ := cov q0 _ ha
  have hst : ((st.map (am_v r)).map fun v => v.category).sum = (st.map fun v => v.category).sum := by
    rw [List.map_map]
    congr 1
    exact List.map_congr_left (fun v _ => am_v_cat r v)
  exact va_copyi hx hb (by rw [hml, hlc]) ho (ht _ hl) (ht _ hn) (ht _ hs) (ht _ hini) hK.1 hP hD hS qk w0 0 0 hqk hq0 rfl rfl rfl h1 h2 h3 h4 h5 (fun i _ => rfl) (by rw [hfr]; exact hfr0) (by rw [hlo, hst]; exact hlo0) hd w
/-- a step that makes a cell at an empty place -/
theorem am_make {pc' q n : Nat} {c1 : am_C} (hq : h[q]? = some none) (hnh : am_nh q h = true) (hnl : am_nl q ls = true) (hns : am_ns q st' = true) (hc1 : ∀ (cy : Nat → ClassId) (r r' : Nat → Nat), am_e cy r c1 = am_e cy r' c1) (hn : 1 ≤ nc ∧ n ≤ ns)
    (w : ∀ {p : Program} {l : Launch} {e : Env} {R : Room} {s : State} {m : MethodId} {args : Array Value} {below : List Frame} {meth : Method} {c : Code} {Q : State → Prop} {H : Heap} {locs : List Loc} {cells slots : Nat} {lc : Array Slot} {D : va_G} {cy : Nat → ClassId} {A : Nat → Prop} (r : Nat → Nat) (ws : va_W), p.tables.exec = Jvm.exec → c.code = M.2.1 → s.vm.findClass M.1.cls = some m.cls → (∀ w ∈ am_T, w.before args s = true) → am_K D cy s → va_P D vwCl ws H → va_D A ws → va_S A s.heap H locs → (∀ q, s.heap.size ≤ q → A q) → cells + 1 ≤ R.cells → slots + n ≤ R.slots →
    (∀ (a : Nat) (H1 : Heap), va_P D vwCl (ws ++ [(a, am_e cy r c1)]) H1 → va_D A (ws ++ [(a, am_e cy r c1)]) → va_S A s.heap H1 locs → W p l e R s m args below meth c H1 locs (cells + 1) (slots + n) Q (F0 m pc' lc (.ref a :: st'.map (am_v r)))) → W p l e R s m args below meth c H locs cells slots Q (F0 m pc lc (st.map (am_v r)))) (k : am_Ok M sc Z (nc - 1) (ns - n) pc' ls (.ref q :: st') (h.set q (some c1))) : am_Ok M sc Z nc ns pc ls st h := by
  intro p l e R s m args below meth c Q D cy A r0 P0 N0 X hR r H locs cells slots lc hZ hS hL hE hN
  obtain ⟨ws, hP, hD, cov⟩ := hZ.toW
  obtain ⟨hn1, hn2⟩ := hn
  obtain ⟨hN1, hN2⟩ := hN
  refine w r ws X.1 X.2.1 X.2.2.2.1 X.2.2.2.2.1 X.2.2.2.2.2.1 hP hD hS X.2.2.2.2.2.2.1 (by omega) (by omega) (fun a H1 hP1 hD1 hS1 => ?_)
  have hr : ∀ i, i ≠ q → (fun i => if i = q then a else r i) i = r i := fun i hi => if_neg hi
  have hst : st'.map (am_v (fun i => if i = q then a else r i)) = st'.map (am_v r) := List.map_congr_left (fun v hv => am_v_eq (fun i e => hr i (am_nv_ne (List.all_eq_true.mp hns v hv) i e)))
  have k1 := k p l e R s m args below meth c Q D cy A r0 P0 N0 X hR (fun i => if i = q then a else r i) H1 locs (cells + 1) (slots + n) lc (hZ.push hq hnh cov (hc1 cy) hP1 hD1) hS1 ?_ ⟨fun i hi => ?_, fun i hi => ?_, by rw [List.length_set]; exact hE.2.2⟩ ⟨by omega, by omega⟩
  · rw [List.map_cons, hst] at k1
    have e1 : am_v (fun i => if i = q then a else r i) (.ref q) = .ref a := by simp [am_v]
    rw [e1] at k1
    exact k1
  · obtain ⟨lv, hlv, hm⟩ := hL
    refine ⟨lv, hlv, fun j v hj => ?_⟩
    rw [am_v_eq (r := r) (fun i e => hr i (am_nv_ne (List.all_eq_true.mp hnl _ (List.mem_of_getElem? hj)) i e))]
    exact hm j v hj
  · have hne : i ≠ q := fun e => hE.2.1 i hi (by rw [e]; exact hq)
    rw [hr i hne]
    exact hE.1 i hi
  · by_cases ei : i = q
    · subst ei; rw [am_set_eq hq]; exact fun z => by cases z
    · rw [am_set_ne ei]; exact hE.2.1 i hi
theorem am_new {idx q ci N : Nat} {C : String} {T : u_T} {ty : Nat → FieldType} {fs : List Value} (hd : decode M.2.1 pc = .ok (.new idx, 3)) (hc : am_cls ci C T N ty) (hcl : Cond.classLink M.1.cls idx C ∈ am_T) (hins : Cond.instantiable C N ∈ am_T) (hini : Cond.initialized C ∈ am_T) (hfs : ∀ j, j < N → defaultValue (ty j) = vp_V fs j) (hfr : ∀ r : Nat → Nat, fs.map (am_v r) = fs)
    (hq : h[q]? = some none) (hnh : am_nh q h = true) (hnl : am_nl q ls = true) (hns : am_ns q st = true) (hn : 1 ≤ nc ∧ N ≤ ns) (k : am_Ok M sc Z (nc - 1) (ns - N) (pc + 3) ls (.ref q :: st) (h.set q (some (.inr (.inr (ci, fs)))))) : am_Ok M sc Z nc ns pc ls st h := by
  obtain ⟨h1, h2, h3, h4⟩ := hc
  refine am_make hq hnh hnl hns (fun cy r r' => by simp only [am_e, hfr]) hn (fun {p l e R s m args below meth c Q H locs cells slots lc D cy A} r ws hx hb ho ht hK hP hD hS hA hcl1 hsl1 w => ?_) k
  refine va_new hx hb ht h2 ty h3 ho (ht _ hcl) (ht _ hins) (ht _ hini) hK.1 hP hD hS hA h1 (fs := fs) hfs hcl1 hsl1 hd (fun a H1 g1 g2 g3 => ?_)
  have e1 : am_e cy r (.inr (.inr (ci, fs))) = .inr (ci, fs) := by simp only [am_e, hfr]
  exact w a H1 (by rw [e1]; exact g1) (by rw [e1]; exact g2) g3
theorem am_newarray {q N t : Nat} {at_ : ArrayType} {n : Int32} {ty : FieldType} (hd : decode M.2.1 pc = .ok (.newarray at_, 2)) (hty : newarray.typeOf at_ = ty) (ht2 : (t = 0 ∧ ty = .int) ∨ (t = 1 ∧ ty = .boolean)) (harr : Cond.arrayClass ty ∈ am_T) (hn0 : ¬ n < 0) (hN : n.toNatClampNeg = N) (hby : N * componentBytes ty ≤ 536870912)
    (hq : h[q]? = some none) (hnh : am_nh q h = true) (hnl : am_nl q ls = true) (hns : am_ns q st = true) (hn : 1 ≤ nc ∧ N ≤ ns) (k : am_Ok M sc Z (nc - 1) (ns - N) (pc + 2) ls (.ref q :: st) (h.set q (some (.inl (t, N, fun _ => 0))))) : am_Ok M sc Z nc ns pc ls (.int n :: st) h := by
  subst hty
  refine am_make hq hnh hnl hns (fun cy r r' => rfl) hn (fun {p l e R s m args below meth c Q H locs cells slots lc D cy A} r ws hx hb ho ht hK hP hD hS hA hcl1 hsl1 w => ?_) k
  refine va_newa hx hb (ht _ harr) rfl hK.1 hP hD hS hA (a0 := (N, .inl (fun _ => 0))) (fun cA => ?_) hn0 hN hby hcl1 hsl1 hd (fun a cA H1 g0 g1 g2 g3 => ?_)
  · rcases ht2 with ⟨-, e⟩ | ⟨-, e⟩ <;> rw [e] <;> rfl
  · have e1 : cA = cy t := by
      have g4 := (g0.2 3 _ rfl).2
      rcases ht2 with ⟨et, e⟩ | ⟨et, e⟩
      · have g5 := (hK.1.2 0 _ rfl).2
        rw [e] at g4
        subst et
        exact Option.some.inj (g4.symm.trans g5)
      · have g5 := (hK.1.2 1 _ rfl).2
        rw [e] at g4
        subst et
        exact Option.some.inj (g4.symm.trans g5)
    rw [e1] at g1 g2
    exact w a H1 g1 g2 g3
theorem am_anewarray {idx q : Nat} {n : Int32} {N : Nat} (hd : decode M.2.1 pc = .ok (.anewarray idx, 3)) (hcl : Cond.classLink M.1.cls idx RX3 ∈ am_T) (hn0 : ¬ n < 0) (hN : n.toNatClampNeg = N) (hby : N * 4 ≤ 536870912)
    (hq : h[q]? = some none) (hnh : am_nh q h = true) (hnl : am_nl q ls = true) (hns : am_ns q st = true) (hn : 1 ≤ nc ∧ N ≤ ns) (k : am_Ok M sc Z (nc - 1) (ns - N) (pc + 3) ls (.ref q :: st) (h.set q (some (.inr (.inl (List.replicate N none)))))) : am_Ok M sc Z nc ns pc ls (.int n :: st) h := by
  have en : ∀ r : Nat → Nat, (fun j => ((List.replicate N (none : Option Nat)).getD j none).map r) = fun _ => none := by
    intro r
    funext j
    have : (List.replicate N (none : Option Nat)).getD j none = none := by
      rw [List.getD_eq_getElem?_getD, List.getElem?_replicate]
      split <;> rfl
    rw [this]
    rfl
  have e1 : ∀ (cy : Nat → ClassId) (r : Nat → Nat), am_e cy r (.inr (.inl (List.replicate N none))) = .inl (cy 2, N, .inr (.inr (.inr (.inr (fun _ => none))))) := by
    intro cy r
    simp only [am_e, en r, List.length_replicate]
  refine am_make hq hnh hnl hns (fun cy r r' => by rw [e1, e1]) hn (fun {p l e R s m args below meth c Q H locs cells slots lc D cy A} r ws hx hb ho ht hK hP hD hS hA hcl1 hsl1 w => ?_) k
  refine va_newq hx hb ho (ht _ hcl) hK.2.2 hK.1 hP hD hS hA hn0 hN hby hcl1 hsl1 hd (fun a cA H1 g0 g1 g2 g3 => ?_)
  have e2 : cA = cy 2 := by
    obtain ⟨_, _, _, _, _, g4⟩ := (g0.2 3 _ rfl).2
    obtain ⟨_, _, _, _, _, g5⟩ := (hK.1.2 2 _ rfl).2
    exact Option.some.inj (g4.symm.trans g5)
  rw [e2] at g1 g2
  exact w a H1 (by rw [e1]; exact g1) (by rw [e1]; exact g2) g3
end AMH
end
section
/-! contracts and calls of the abstract machine -/
def am_A (r : Nat → Nat) (h : am_H) (sz : Nat) : Nat → Prop := fun q => (∃ (k : Nat) (c : am_C), h[k]? = some (some c) ∧ r k = q) ∨ sz ≤ q
def am_P0 (h : am_H) : Nat → Prop := fun i => (∃ c, h[i]? = some (some c)) ∨ i = 1000
def am_Qc (D : va_G) (cy : Nat → ClassId) (r : Nat → Nat) (h : am_H) (sz : Nat) (Z : Option Value → am_H → Prop) : Array Value → State → Outcome → State → Prop := fun _ st oc t =>
  (∃ (v : Option Value) (h' : am_H) (r' : Nat → Nat), Z v h' ∧ oc = .returned (v.map (am_v r')) ∧ am_E (am_P0 h) r h.length r' h' ∧ am_Z D cy r' h' (am_A r h sz) t.heap) ∧ va_F (am_A r h sz) st t
def am_ws (M : am_M) : List Cond := .code M.1 M.2.1 M.2.2.1 M.2.2.2.1 :: am_T
def am_Pc (D : va_G) (cy : Nat → ClassId) (r : Nat → Nat) (args : List Value) (h : am_H) (sz : Nat) : Array Value → State → Prop := va_Pc (args.map (am_v r)) (fun U => U.heap.size = sz ∧ am_Z D cy r h (am_A r h sz) U.heap ∧ am_K D cy U)
/-- a method's contract at these arguments and this world -/
def am_Met (M : am_M) (args : List Value) (h : am_H) (nc ns : Nat) (Z : Option Value → am_H → Prop) : Prop :=
  ∀ (l : Launch) (D : va_G) (cy : Nat → ClassId) (r : Nat → Nat) (sz : Nat), Met l M.1 (am_ws M) { frames := M.2.2.2.2.1, cells := nc, slots := ns, locals := M.2.2.2.2.2 } (am_Pc D cy r args h sz) (am_Qc D cy r h sz Z) nc ns (am_A r h sz)
theorem am_lvargs : ∀ (vs : List Value) (i : Nat), (∀ v ∈ vs, v.category = 1) → ∀ (k : Nat) (v : Value), vs[k]? = some v → (i + k, v) ∈ lv_args i vs
  | [], _, _, k, v, h => by simp at h
  | x :: xs, i, hc, 0, v, h => by
    have : x = v := Option.some.inj h
    subst this
    exact List.mem_cons_self
  | x :: xs, i, hc, k + 1, v, h => by
    have h1 : xs[k]? = some v := h
    have h2 := am_lvargs xs (i + 1) (fun v hv => hc v (List.mem_cons_of_mem _ hv)) k v h1
    have h3 : lv_args i (x :: xs) = (i, x) :: lv_args (i + 1) xs := by
      show (i, x) :: lv_args (if x.category = 2 then i + 2 else i + 1) xs = _
      rw [if_neg (by rw [hc x List.mem_cons_self]; decide)]
    rw [h3]
    refine List.mem_cons_of_mem _ ?_
    rw [show i + (k + 1) = i + 1 + k by omega]
    exact h2
theorem am_sl_len : ∀ (vs : List Value), (∀ v ∈ vs, v.category = 1) → (lg_sl vs).length = vs.length
  | [], _ => rfl
  | x :: xs, hc => by
    have h1 := am_sl_len xs (fun v hv => hc v (List.mem_cons_of_mem _ hv))
    have h2 : lg_sl (x :: xs) = .val x :: lg_sl xs := by
      simp only [lg_sl, List.flatMap_cons]
      rw [if_neg (by rw [hc x List.mem_cons_self]; decide)]
      rfl
    rw [h2, List.length_cons, h1, List.length_cons]
/-- the locals at a method's entry -/
def am_l0 (n : Nat) (args : List Value) : List (Option Value) := args.map some ++ List.replicate (n - args.length) none
theorem am_entry {n : Nat} {args : List Value} {r : Nat → Nat} (hc : ∀ v ∈ args, v.category = 1) (hn : args.length ≤ n) : am_L ((lg_sl (args.map (am_v r)) ++ List.replicate (n - (lg_sl (args.map (am_v r))).length) Slot.unset).toArray) n (am_l0 n args) r := by
  have hc' : ∀ v ∈ args.map (am_v r), v.category = 1 := by
    intro v hv
    obtain ⟨u, hu, rfl⟩ := List.mem_map.mp hv
    rw [am_v_cat]
    exact hc u hu
  refine ⟨_, lv_entry (args.map (am_v r)) (by rw [am_sl_len _ hc', List.length_map]; exact hn), fun k v hk => ?_⟩
  have hk2 : args[k]? = some v := by
    unfold am_l0 at hk
    by_cases hl : k < (args.map some).length
    · rw [List.getElem?_append_left hl, List.getElem?_map] at hk
      cases ha : args[k]? with
      | none => rw [ha] at hk; cases hk
      | some x => rw [ha] at hk; exact congrArg some (Option.some.inj (Option.some.inj hk))
    · rw [List.getElem?_append_right (by omega), List.getElem?_replicate] at hk
      split at hk <;> cases hk
  refine ⟨?_, hc v (List.mem_of_getElem? hk2)⟩
  have h1 := am_lvargs (args.map (am_v r)) 0 hc' k (am_v r v) (by rw [List.getElem?_map, hk2]; rfl)
  rwa [Nat.zero_add] at h1
/-- a contract out of a walk from the entry -/
theorem am_Met.of {M : am_M} {args : List Value} {h : am_H} {nc ns : Nat} {Z : Option Value → am_H → Prop} (hy : plainName M.1.cls = true) (hh : h.length ≤ 1000) (hc : ∀ v ∈ args, v.category = 1) (hn : args.length ≤ M.2.2.1) (k : am_Ok M none Z nc ns 0 (am_l0 M.2.2.1 args) [] h) : am_Met M args h nc ns Z := by
  intro l D cy r sz
  refine Met.ofW (cc := M.2.1) (maxL := M.2.2.1) (ret := M.2.2.2.1) hy rfl ?_
  intro p e s m as below meth c s₁ B hml hv
  obtain ⟨rfl, hsz, hZ, hK⟩ := hv
  have hts := atoms_spec (ws := am_ws M) B.pre
  have hlocks := B.notSynchronized
  rw [lg_entry_eq]
  subst hsz
  have X : am_X M none p { frames := M.2.2.2.2.1, cells := nc, slots := ns, locals := M.2.2.2.2.2 } s m (args.map (am_v r)).toArray meth c D cy (am_A r h s.heap.size) r (am_P0 h) :=
    ⟨B.exec, B.bytes, hml, findClass_of_methodNamed B.named, fun w hw => hts w (List.mem_cons_of_mem _ hw), hK, fun q hq => Or.inr hq, rfl, rfl, fun hi => by rw [(name_of_methodNamed B.named B.method).1]; exact hi, trivial⟩
  refine k p l e _ s m _ below meth c _ D cy (am_A r h s.heap.size) r (am_P0 h) h.length X ?_ r s.heap [] 0 0 _ hZ va_S.rf (am_entry hc hn) ⟨fun _ _ => rfl, fun i hi => ?_, rfl⟩ ⟨by show 0 + nc ≤ nc; omega, by show 0 + ns ≤ ns; omega⟩
  · intro v h' r' H locs cells slots lc pc hz hZ' hS hE hcl hsl hri
    refine W.widen hcl hsl ?_
    have hq : ∀ (t : State), t.heap = H → am_Qc D cy r h s.heap.size Z (args.map (am_v r)).toArray s (.returned (v.map (am_v r'))) t := fun t ht => ⟨⟨v, h', r', hz, rfl, hE, by rw [ht]; exact hZ'⟩, hS.F ht⟩
    cases v with
    | none =>
      obtain ⟨g1, g2⟩ := hri
      exact W.vret B.exec B.bytes (by rw [B.returns]; exact g2) (fun t ht hW => hq t ht) hS.2.2 g1
    | some w =>
      cases w with
      | int x =>
        obtain ⟨g1, ty, g2, g3⟩ := hri
        exact W.zret B.exec B.bytes (by rw [B.returns]; exact g2) g3 (fun t ht hW => hq t ht) hS.2.2 g1
      | ref a =>
        obtain ⟨g1, g2, C, g3⟩ := hri
        exact W.aret B.exec B.bytes (by rw [B.returns]; exact g3) (Or.inl ⟨C, rfl⟩) (Or.inr ⟨_, rfl⟩) (fun t ht hW => hq t ht) hS.2.2 g1
      | null =>
        obtain ⟨g1, g2, C, g3⟩ := hri
        exact W.aret B.exec B.bytes (by rw [B.returns]; exact g3) (Or.inl ⟨C, rfl⟩) (Or.inl rfl) (fun t ht hW => hq t ht) hS.2.2 g1
      | _ => obtain ⟨-, g2 | ⟨_, g2⟩, -⟩ := hri <;> cases g2
  · rcases hi with ⟨c, hi⟩ | hi
    · rw [hi]; exact fun z => by cases z
    · subst hi
      have : h[1000]? = none := List.getElem?_eq_none hh
      rw [this]
      exact fun z => by cases z
theorem am_Met.mono {M : am_M} {args : List Value} {h : am_H} {nc ns : Nat} {Z Z' : Option Value → am_H → Prop} (k : am_Met M args h nc ns Z) (hz : ∀ v h', Z v h' → Z' v h') : am_Met M args h nc ns Z' := by
  intro l D cy r sz p e ha hc hk s m as below hf happ hP hT
  obtain ⟨kk, o, h1, h2, h3, ⟨⟨⟨v, h', r', z1, z2⟩, hF⟩, hL⟩⟩ := k l D cy r sz p e ha hc hk s m as below hf happ hP hT
  exact ⟨kk, o, h1, h2, h3, ⟨⟨⟨v, h', r', hz v h' z1, z2⟩, hF⟩, hL⟩⟩
end
section
/-! the rule of a call: the callee's world is a part of the caller's, by its places -/
def am_ix (is : List Nat) (j : Nat) : Nat := is.getD j j
def am_rn (is : List Nat) : am_C → am_C := fun c => match c with
  | .inl a => .inl a
  | .inr (.inl l) => .inr (.inl (l.map (Option.map (am_ix is))))
  | .inr (.inr o) => .inr (.inr (o.1, o.2.map (am_v (am_ix is))))
def am_put : List Nat → am_H → am_H → am_H
  | i :: is, o :: os, h => am_put is os (h.set i o)
  | _, _, h => h
def am_okv (n : Nat) : Value → Bool := fun v => match v with
  | .ref j => Nat.blt j n || Nat.beq j 1000
  | _ => true
def am_okc (n : Nat) : am_C → Bool := fun c => match c with
  | .inl _ => true
  | .inr (.inl l) => l.all (fun o => match o with | none => true | some j => Nat.blt j n || Nat.beq j 1000)
  | .inr (.inr o) => o.2.all (am_okv n)
def am_okh (n : Nat) (h : am_H) : Bool := h.all (fun o => match o with | none => true | some c => am_okc n c)
def am_fr : List Nat → am_H → am_H → List (Option Value) → List Value → Bool
  | i :: is, none :: os, h, ls, st => am_nh i h && (am_nl i ls && (am_ns i st && am_fr is os h ls st))
  | _ :: is, some _ :: os, h, ls, st => am_fr is os h ls st
  | _, _, _, _, _ => true
theorem am_fr_at : ∀ (is : List Nat) (hc h : am_H) (ls : List (Option Value)) (st : List Value), am_fr is hc h ls st = true → ∀ (k i : Nat), is[k]? = some i → hc[k]? = some none → am_nh i h = true ∧ am_nl i ls = true ∧ am_ns i st = true
  | [], _, _, _, _, _, k, i, h, _ => by simp at h
  | _ :: _, [], _, _, _, _, k, i, _, h => by simp at h
  | i0 :: is, none :: os, h, ls, st, hf, k, i, hi, hk => by
    simp only [am_fr, Bool.and_eq_true] at hf
    cases k with
    | zero =>
      have : i0 = i := Option.some.inj hi
      subst this
      exact ⟨hf.1, hf.2.1, hf.2.2.1⟩
    | succ k => exact am_fr_at is os h ls st hf.2.2.2 k i hi hk
  | i0 :: is, some c :: os, h, ls, st, hf, k, i, hi, hk => by
    cases k with
    | zero => simp at hk
    | succ k => exact am_fr_at is os h ls st hf k i hi hk
theorem am_put_len : ∀ (is : List Nat) (os h : am_H), (am_put is os h).length = h.length
  | [], _, _ => rfl
  | _ :: _, [], _ => rfl
  | i :: is, o :: os, h => by
    show (am_put is os (h.set i o)).length = _
    rw [am_put_len is os, List.length_set]
theorem am_put_out : ∀ (is : List Nat) (os h : am_H) (i : Nat), i ∉ is → (am_put is os h)[i]? = h[i]?
  | [], _, _, _, _ => rfl
  | _ :: _, [], _, _, _ => rfl
  | j :: is, o :: os, h, i, hi => by
    show (am_put is os (h.set j o))[i]? = _
    rw [am_put_out is os _ i (fun z => hi (List.mem_cons_of_mem _ z)), List.getElem?_set_ne (fun z => hi (by rw [z]; exact List.mem_cons_self))]
theorem am_put_in : ∀ (is : List Nat) (os h : am_H), (∀ (a b x : Nat), is[a]? = some x → is[b]? = some x → a = b) → ∀ (k i : Nat) (o : Option am_C), is[k]? = some i → os[k]? = some o → i < h.length → (am_put is os h)[i]? = some o
  | [], _, _, _, k, i, o, hi, _, _ => by simp at hi
  | _ :: _, [], _, _, k, i, o, _, ho, _ => by simp at ho
  | j :: is, o0 :: os, h, hnd, k, i, o, hi, ho, hl => by
    show (am_put is os (h.set j o0))[i]? = _
    cases k with
    | zero =>
      have e1 : j = i := Option.some.inj hi
      have e2 : o0 = o := Option.some.inj ho
      subst e1; subst e2
      have hni : j ∉ is := fun z => by
        obtain ⟨q, hq⟩ := List.getElem?_of_mem z
        have := hnd 0 (q + 1) j rfl hq
        omega
      rw [am_put_out is os _ j hni, List.getElem?_set_self hl]
    | succ k =>
      exact am_put_in is os _ (fun a b x ha hb => by have := hnd (a + 1) (b + 1) x ha hb; omega) k i o hi ho (by rw [List.length_set]; exact hl)
theorem am_v_v (r f : Nat → Nat) (v : Value) : am_v r (am_v f v) = am_v (fun j => r (f j)) v := by cases v <;> rfl
theorem am_e_rn (cy : Nat → ClassId) (r : Nat → Nat) (is : List Nat) (c : am_C) : am_e cy r (am_rn is c) = am_e cy (fun j => r (am_ix is j)) c := by
  rcases c with a | l | o
  · rfl
  · simp only [am_e, am_rn, List.length_map]
    refine congrArg (fun z : Nat → Option Nat => (Sum.inl (cy 2, l.length, .inr (.inr (.inr (.inr z)))) : va_E)) (funext fun j => ?_)
    simp only [List.getD_eq_getElem?_getD, List.getElem?_map]
    cases l[j]? with
    | none => rfl
    | some x => cases x <;> rfl
  · simp only [am_e, am_rn, List.map_map]
    congr 2
    exact List.map_congr_left (fun v _ => am_v_v r (am_ix is) v)
theorem am_okc_eq {cy : Nat → ClassId} {n : Nat} {r r' : Nat → Nat} {c : am_C} (h : am_okc n c = true) (hr : ∀ i, i < n ∨ i = 1000 → r' i = r i) : am_e cy r' c = am_e cy r c := by
  refine am_e_eq (fun i => ⟨fun o e hm => hr i ?_, fun l e hm => hr i ?_⟩)
  · subst e
    have h1 := List.all_eq_true.mp (show o.2.all (am_okv n) = true from h) _ hm
    simp only [am_okv, Bool.or_eq_true] at h1
    rcases h1 with h1 | h1
    · exact Or.inl (by simpa [Nat.blt_eq] using h1)
    · exact Or.inr (by simpa using h1)
  · subst e
    have h1 := List.all_eq_true.mp (show l.all _ = true from h) _ hm
    simp only [Bool.or_eq_true] at h1
    rcases h1 with h1 | h1
    · exact Or.inl (by simpa [Nat.blt_eq] using h1)
    · exact Or.inr (by simpa using h1)
theorem am_okv_eq {n : Nat} {r r' : Nat → Nat} {v : Value} (h : am_okv n v = true) (hr : ∀ i, i < n ∨ i = 1000 → r' i = r i) : am_v r' v = am_v r v := by
  refine am_v_eq (fun i e => hr i ?_)
  subst e
  simp only [am_okv, Bool.or_eq_true] at h
  rcases h with h1 | h1
  · exact Or.inl (by simpa [Nat.blt_eq] using h1)
  · exact Or.inr (by simpa using h1)
/-- what the caller's world gives the callee -/
theorem am_sub_get {is : List Nat} {hc h : am_H} (hsub : is.map (fun i => h[i]?) = hc.map (fun o => some (o.map (am_rn is)))) : is.length = hc.length ∧ ∀ (k : Nat) (o : Option am_C), hc[k]? = some o → ∃ i, is[k]? = some i ∧ h[i]? = some (o.map (am_rn is)) := by
  have hl : is.length = hc.length := by
    have := congrArg List.length hsub
    simpa using this
  refine ⟨hl, fun k o hk => ?_⟩
  have h1 : (is.map (fun i => h[i]?))[k]? = some (some (o.map (am_rn is))) := by rw [hsub, List.getElem?_map, hk]; rfl
  rw [List.getElem?_map] at h1
  cases hi : is[k]? with
  | none => rw [hi] at h1; cases h1
  | some i => rw [hi] at h1; exact ⟨i, rfl, Option.some.inj h1⟩
theorem am_ix_at {is : List Nat} {k i : Nat} (h : is[k]? = some i) : am_ix is k = i := by
  unfold am_ix
  rw [List.getD_eq_getElem?_getD, h]
  rfl
theorem am_Z.sub {D : va_G} {cy : Nat → ClassId} {r : Nat → Nat} {h hc : am_H} {A : Nat → Prop} {H : Heap} {is : List Nat} (z : am_Z D cy r h A H) (hsub : is.map (fun i => h[i]?) = hc.map (fun o => some (o.map (am_rn is)))) (hnd : va_nd is = true) (sz : Nat) : am_Z D cy (fun j => r (am_ix is j)) hc (am_A (fun j => r (am_ix is j)) hc sz) H := by
  obtain ⟨hl, hget⟩ := am_sub_get hsub
  refine ⟨fun k c hk => ?_, fun i j c d hi hj e => ?_, fun k c hk => Or.inl ⟨k, c, hk, rfl⟩⟩
  · obtain ⟨i, h1, h2⟩ := hget k _ hk
    have := z.1 i _ h2
    rw [am_e_rn] at this
    simp only [am_ix_at h1]
    exact this
  · obtain ⟨a, h1, h2⟩ := hget i _ hi
    obtain ⟨b, h3, h4⟩ := hget j _ hj
    simp only [am_ix_at h1, am_ix_at h3] at e
    have := z.2.1 a b _ _ h2 h4 e
    subst this
    exact va_nd_inj is hnd i j a h1 h3
end
section
section AMC
variable {M M' : am_M} {sc : Option (Nat × (Nat → Int32))} {Z Zc : Option Value → am_H → Prop} {nc ns n1 s1 pc : Nat} {ls : List (Option Value)} {st st0 : List Value} {h hc : am_H} {is : List Nat}
theorem am_callcore (hsub : is.map (fun i => h[i]?) = hc.map (fun o => some (o.map (am_rn is)))) (hnd : va_nd is = true) (hlen : h.length ≤ 1000) (hil : is.length ≤ 1000) (hfr : am_fr is hc h ls st = true) (hn : n1 ≤ nc ∧ s1 ≤ ns)
    (hok : ∀ v h1, Zc v h1 → am_okh hc.length h1 = true ∧ ∀ w, v = some w → am_okv hc.length w = true)
    (run : ∀ {p : Program} {l : Launch} {e : Env} {R : Room} {s : State} {m : MethodId} {args : Array Value} {below : List Frame} {meth : Method} {c : Code} {H : Heap} {locs : List Loc} {cells slots : Nat} {lc : Array Slot} {D : va_G} {cy : Nat → ClassId} {A : Nat → Prop} {r0 : Nat → Nat} {P0 : Nat → Prop} (r : Nat → Nat), am_X M sc p R s m args meth c D cy A r0 P0 → am_Z D cy r h A H → lc.size = M.2.2.1 → cells + n1 ≤ R.cells ∧ slots + s1 ≤ R.slots →
      ∃ a0, va_Run p l e R s m args below meth c H locs cells slots n1 s1 (F0 m pc lc (st0.map (am_v r))) (st.map (am_v r)) (am_Qc D cy (fun j => r (am_ix is j)) hc H.size Zc a0) (am_A (fun j => r (am_ix is j)) hc H.size))
    (k : ∀ v h1, Zc v h1 → h1.length = hc.length → am_Ok M sc Z (nc - n1) (ns - s1) (pc + 3) ls ((v.map (am_v (am_ix is))).toList ++ st) (am_put is (h1.map (Option.map (am_rn is))) h)) : am_Ok M sc Z nc ns pc ls st0 h := by
  intro p l e R s m args below meth c Q D cy A r0 P0 N0 X hR r H locs cells slots lc hZ hS hL hE hN
  obtain ⟨hN1, hN2⟩ := hN
  obtain ⟨hn1, hn2⟩ := hn
  obtain ⟨hl, hget⟩ := am_sub_get hsub
  have hinj := va_nd_inj is hnd
  obtain ⟨lv, hlv, hlm⟩ := id hL
  obtain ⟨a0, hrun⟩ := run (l := l) (e := e) (below := below) (locs := locs) (cells := cells) (slots := slots) r X hZ hlv.1 ⟨by omega, by omega⟩
  intro T hT XS
  obtain ⟨v0, st₀, t, T', L, h0, X2, hLf, e1, e2, ⟨⟨v, h1, r1c, hz, hv, hE1, hZ1⟩, hF⟩, go⟩ := hrun T hT XS
  have hv0 : v0 = v.map (am_v r1c) := by cases hv; rfl
  subst hv0
  obtain ⟨hok1, hok2⟩ := hok v h1 hz
  have hl1 : h1.length = hc.length := hE1.2.2
  rw [← e1] at hZ1
  have hF2 : H.size ≤ T'.heap.size ∧ ∀ q : Nat, q < H.size → ¬ am_A (fun j => r (am_ix is j)) hc H.size q → T'.heap[q]? = H[q]? := by
    obtain ⟨f1, f2⟩ := hF
    rw [h0] at f1 f2
    exact ⟨by rw [e1]; exact f1, fun q g1 g2 => by rw [e1]; exact f2 q g1 g2⟩
  -- the new addresses
  obtain ⟨r1, hr1, hr2⟩ : ∃ r1 : Nat → Nat, (∀ k i, is[k]? = some i → r1 i = r1c k) ∧ ∀ i, i ∉ is → r1 i = r i := by
    classical
    refine ⟨fun i => if hx : ∃ k, is[k]? = some i then r1c hx.choose else r i, fun k i hk => ?_, fun i hi => ?_⟩
    · have hx : ∃ k, is[k]? = some i := ⟨k, hk⟩
      simp only [dif_pos hx]
      rw [hinj _ k i hx.choose_spec hk]
    · have hx : ¬ ∃ k, is[k]? = some i := fun ⟨k, hk⟩ => hi (List.mem_of_getElem? hk)
      simp only [dif_neg hx]
  have hisb : ∀ (k i : Nat), is[k]? = some i → ∃ o, hc[k]? = some o ∧ h[i]? = some (o.map (am_rn is)) := by
    intro k i hk
    have hk2 : k < hc.length := by rw [← hl]; exact (List.getElem?_eq_some_iff.mp hk).1
    obtain ⟨o, ho⟩ : ∃ o, hc[k]? = some o := ⟨_, List.getElem?_eq_getElem hk2⟩
    obtain ⟨i', h3, h4⟩ := hget k o ho
    have : i' = i := Option.some.inj (h3.symm.trans hk)
    subst this
    exact ⟨o, ho, h4⟩
  have h1000 : 1000 ∉ is := fun z => by
    obtain ⟨k, hk⟩ := List.getElem?_of_mem z
    obtain ⟨o, -, h4⟩ := hisb k 1000 hk
    have := (List.getElem?_eq_some_iff.mp h4).1
    omega
  -- where nothing is new, the addresses stay
  have hstay : ∀ (k i : Nat), is[k]? = some i → hc[k]? ≠ some none → r1 i = r i := by
    intro k i hk hne
    obtain ⟨o, ho, -⟩ := hisb k i hk
    cases o with
    | none => exact absurd ho hne
    | some c0 =>
      rw [hr1 k i hk, hE1.1 k (Or.inl ⟨c0, ho⟩)]
      simp only [am_ix_at hk]
  have hkeep : ∀ i : Nat, (am_nh i h = true ∧ am_nl i ls = true ∧ am_ns i st = true → False) → r1 i = r i := by
    intro i hi
    by_cases hm : i ∈ is
    · obtain ⟨k, hk⟩ := List.getElem?_of_mem hm
      exact hstay k i hk (fun z => hi (am_fr_at is hc h ls st hfr k i hk z))
    · exact hr2 i hm
  have hix : ∀ j, j < hc.length ∨ j = 1000 → r1 (am_ix is j) = r1c j := by
    intro j hj
    rcases hj with hj | hj
    · have hj2 : j < is.length := by rw [hl]; exact hj
      have hk : is[j]? = some is[j] := List.getElem?_eq_getElem hj2
      rw [am_ix_at hk, hr1 j _ hk]
    · subst hj
      have hix0 : am_ix is 1000 = 1000 := by
        unfold am_ix
        rw [List.getD_eq_getElem?_getD]
        rw [List.getElem?_eq_none hil]
        rfl
      rw [hix0, hr2 1000 h1000, hE1.1 1000 (Or.inr rfl)]
      simp only [hix0]
  have hlenp := am_put_len is (h1.map (Option.map (am_rn is))) h
  have hin : ∀ (k i : Nat), is[k]? = some i → ∃ o, h1[k]? = some o ∧ (am_put is (h1.map (Option.map (am_rn is))) h)[i]? = some (o.map (am_rn is)) := by
    intro k i hk
    have hk2 : k < h1.length := by rw [hl1, ← hl]; exact (List.getElem?_eq_some_iff.mp hk).1
    obtain ⟨o, ho⟩ : ∃ o, h1[k]? = some o := ⟨_, List.getElem?_eq_getElem hk2⟩
    obtain ⟨o2, -, h4⟩ := hisb k i hk
    exact ⟨o, ho, am_put_in is _ h hinj k i _ hk (by rw [List.getElem?_map, ho]; rfl) (List.getElem?_eq_some_iff.mp h4).1⟩
  have hAin : ∀ q, am_A (fun j => r (am_ix is j)) hc H.size q → A q := by
    intro q hq
    rcases hq with ⟨k, c0, hk, rfl⟩ | hq
    · obtain ⟨i, h3, h4⟩ := hget k _ hk
      simp only [am_ix_at h3]
      exact hZ.2.2 i _ h4
    · exact X.2.2.2.2.2.2.1 q (Nat.le_trans hS.1 hq)
  have hold : ∀ (i : Nat) (c0 : am_C), i ∉ is → h[i]? = some (some c0) → r i < H.size ∧ ¬ am_A (fun j => r (am_ix is j)) hc H.size (r i) := by
    intro i c0 hi hc0
    have hlt := (hZ.1 i c0 hc0).lt
    refine ⟨hlt, fun hq => ?_⟩
    rcases hq with ⟨k, c1, hk, he⟩ | hq
    · obtain ⟨i', h3, h4⟩ := hget k _ hk
      simp only [am_ix_at h3] at he
      have := hZ.2.1 i' i _ _ h4 hc0 he
      subst this
      exact hi (List.mem_of_getElem? h3)
    · have hlt2 : r i < H.size := hlt
      omega
  -- the world behind the call
  have hZ2 : am_Z D cy r1 (am_put is (h1.map (Option.map (am_rn is))) h) A T'.heap := by
    refine ⟨fun i c0 hi => ?_, fun i j c0 d0 hi hj he => ?_, fun i c0 hi => ?_⟩
    · by_cases hm : i ∈ is
      · obtain ⟨k, hk⟩ := List.getElem?_of_mem hm
        obtain ⟨o, ho, hp⟩ := hin k i hk
        rw [hi] at hp
        cases o with
        | none => cases hp
        | some c1 =>
          have ec : c0 = am_rn is c1 := Option.some.inj (Option.some.inj hp)
          rw [ec, am_e_rn, hr1 k i hk, am_okc_eq (r := r1c) (List.all_eq_true.mp hok1 _ (List.mem_of_getElem? ho)) hix]
          exact hZ1.1 k c1 ho
      · rw [am_put_out is _ h i hm] at hi
        obtain ⟨g1, g2⟩ := hold i c0 hm hi
        have ec : am_e cy r1 c0 = am_e cy r c0 := by
          refine am_e_eq (fun j => ⟨fun o eo hmem => hkeep j ?_, fun l0 el hmem => hkeep j ?_⟩)
          · rintro ⟨b1, -, -⟩
            have b2 := List.all_eq_true.mp b1 _ (List.mem_of_getElem? hi)
            subst eo
            have b3 := List.all_eq_true.mp (show o.2.all (am_nv j) = true from b2) _ hmem
            exact am_nv_ne b3 j rfl rfl
          · rintro ⟨b1, -, -⟩
            have b2 := List.all_eq_true.mp b1 _ (List.mem_of_getElem? hi)
            subst el
            have b3 := List.all_eq_true.mp (show l0.all _ = true from b2) _ hmem
            simp at b3
        rw [ec, hr2 i hm]
        exact (hZ.1 i c0 hi).kept (hF2.2 (r i) g1 g2)
    · by_cases hm : i ∈ is <;> by_cases hm2 : j ∈ is
      · obtain ⟨k, hk⟩ := List.getElem?_of_mem hm
        obtain ⟨k2, hk2⟩ := List.getElem?_of_mem hm2
        obtain ⟨o, ho, hp⟩ := hin k i hk
        obtain ⟨o2, ho2, hp2⟩ := hin k2 j hk2
        rw [hi] at hp
        rw [hj] at hp2
        cases o with
        | none => cases hp
        | some c1 =>
          cases o2 with
          | none => cases hp2
          | some c2 =>
            rw [hr1 k i hk, hr1 k2 j hk2] at he
            have := hZ1.2.1 k k2 c1 c2 ho ho2 he
            subst this
            exact Option.some.inj (hk.symm.trans hk2)
      · exfalso
        obtain ⟨k, hk⟩ := List.getElem?_of_mem hm
        obtain ⟨o, ho, hp⟩ := hin k i hk
        rw [hi] at hp
        rw [am_put_out is _ h j hm2] at hj
        cases o with
        | none => cases hp
        | some c1 =>
          rw [hr1 k i hk, hr2 j hm2] at he
          have := hZ1.2.2 k c1 ho
          rw [he] at this
          exact (hold j d0 hm2 hj).2 this
      · exfalso
        obtain ⟨k, hk⟩ := List.getElem?_of_mem hm2
        obtain ⟨o, ho, hp⟩ := hin k j hk
        rw [hj] at hp
        rw [am_put_out is _ h i hm] at hi
        cases o with
        | none => cases hp
        | some c1 =>
          rw [hr1 k j hk, hr2 i hm] at he
          have := hZ1.2.2 k c1 ho
          rw [← he] at this
          exact (hold i c0 hm hi).2 this
      · rw [am_put_out is _ h i hm] at hi
        rw [am_put_out is _ h j hm2] at hj
        rw [hr2 i hm, hr2 j hm2] at he
        exact hZ.2.1 i j _ _ hi hj he
    · by_cases hm : i ∈ is
      · obtain ⟨k, hk⟩ := List.getElem?_of_mem hm
        obtain ⟨o, ho, hp⟩ := hin k i hk
        rw [hi] at hp
        cases o with
        | none => cases hp
        | some c1 =>
          rw [hr1 k i hk]
          exact hAin _ (hZ1.2.2 k c1 ho)
      · rw [am_put_out is _ h i hm] at hi
        rw [hr2 i hm]
        exact hZ.2.2 i c0 hi
  have hE2 : am_E P0 r0 N0 r1 (am_put is (h1.map (Option.map (am_rn is))) h) := by
    refine ⟨fun i hi => ?_, fun i hi => ?_, by rw [hlenp]; exact hE.2.2⟩
    · rw [← hE.1 i hi]
      by_cases hm : i ∈ is
      · obtain ⟨k, hk⟩ := List.getElem?_of_mem hm
        refine hstay k i hk (fun z => ?_)
        obtain ⟨o, ho, h4⟩ := hisb k i hk
        have : o = none := Option.some.inj (ho.symm.trans z)
        subst this
        exact hE.2.1 i hi h4
      · exact hr2 i hm
    · by_cases hm : i ∈ is
      · obtain ⟨k, hk⟩ := List.getElem?_of_mem hm
        obtain ⟨o, ho, hp⟩ := hin k i hk
        obtain ⟨o2, ho2, h4⟩ := hisb k i hk
        rw [hp]
        intro z
        cases o with
        | some c1 => cases z
        | none =>
          cases o2 with
          | none => exact hE.2.1 i hi h4
          | some c2 => exact hE1.2.1 k (Or.inl ⟨c2, ho2⟩) ho
      · rw [am_put_out is _ h i hm]
        exact hE.2.1 i hi
  have hS2 : va_S A s.heap T'.heap (locs ++ L) := by
    refine ⟨Nat.le_trans hS.1 hF2.1, fun q g1 g2 => ?_, fun q hq => ?_⟩
    · rw [hF2.2 q (Nat.lt_of_lt_of_le g1 hS.1) (fun z => g2 (hAin q z))]
      exact hS.2.1 q g1 g2
    · rcases List.mem_append.mp hq with hq | hq
      · exact hS.2.2 q hq
      · exact hAin _ (hLf q hq)
  have hst : st.map (am_v r1) = st.map (am_v r) := List.map_congr_left (fun v hv => am_v_eq (fun i ei => hkeep i (by
    rintro ⟨-, -, b⟩
    exact am_nv_ne (List.all_eq_true.mp b v hv) i ei rfl)))
  have hL2 : am_L lc M.2.2.1 ls r1 := ⟨lv, hlv, fun j v hj => by
    rw [am_v_eq (r := r) (fun i ei => hkeep i (by
      rintro ⟨-, b, -⟩
      exact am_nv_ne (List.all_eq_true.mp b _ (List.mem_of_getElem? hj)) i ei rfl))]
    exact hlm j v hj⟩
  have w := k v h1 hz hl1 p l e R s m args below meth c Q D cy A r0 P0 N0 X hR r1 T'.heap (locs ++ L) (cells + n1) (slots + s1) lc hZ2 hS2 hL2 hE2 ⟨by omega, by omega⟩
  have hret : ((v.map (am_v (am_ix is))).toList ++ st).map (am_v r1) = (v.map (am_v r1c)).toList ++ st.map (am_v r) := by
    rw [List.map_append, hst]
    congr 1
    cases v with
    | none => rfl
    | some u =>
      show [am_v r1 (am_v (am_ix is) u)] = [am_v r1c u]
      rw [am_v_v, am_okv_eq (r := r1c) (hok2 u rfl) hix]
  rw [hret] at w
  obtain ⟨t2, a1, b1⟩ := w T' rfl X2
  exact ⟨t2, go t2 a1, b1⟩
/-- a call's static facts: index, callee, number of arguments -/
def am_cb (M : am_M) (idx : Nat) (M' : am_M) (n : Nat) : Prop := Cond.code M'.1 M'.2.1 M'.2.2.1 M'.2.2.2.1 ∈ am_T ∧ Cond.initialized M'.1.cls ∈ am_T ∧ (M'.1.cls ≠ "java/lang/invoke/MethodHandle" ∧ M'.1.cls ≠ "java/lang/invoke/VarHandle" ∧ (parseMethodDescriptor M'.1.desc).map (fun d => d.parameters.length) = some n) ∧ M'.2.2.2.2.1 + 1 ≤ M.2.2.2.2.1 ∧ 8 + (M'.2.2.1 + 11) + M'.2.2.2.2.2 ≤ M.2.2.2.2.2
theorem am_good_T : ∀ w ∈ am_T, goodWord w = true := fun w hw => (List.mem_filter.mp hw).2
theorem am_goodIn (hc : Cond.code M'.1 M'.2.1 M'.2.2.1 M'.2.2.2.1 ∈ am_T) : GoodIn am_T (am_ws M') := by
  intro w hw
  rcases List.mem_cons.mp hw with rfl | hw
  · exact ⟨hc, good_of_word (am_good_T _ hc)⟩
  · exact ⟨hw, good_of_word (am_good_T _ hw)⟩
theorem am_blind {D : va_G} {cy : Nat → ClassId} {r : Nat → Nat} {args : List Value} {h : am_H} {sz : Nat} : FrameBlind (am_Pc D cy r args h sz) := fun a U g mk q => by
  obtain ⟨q0, q1, q2, q3⟩ := q
  exact ⟨q0, q1, q2, am_K.same (s := U) (U := U.calling g mk a) rfl q3⟩
theorem am_cat_map (r : Nat → Nat) (st : List Value) : ((st.map (am_v r)).map fun v => v.category).sum = (st.map fun v => v.category).sum := by
  rw [List.map_map]
  congr 1
  exact List.map_congr_left (fun v _ => am_v_cat r v)
theorem am_pre {D : va_G} {cy : Nat → ClassId} {r : Nat → Nat} {A : Nat → Prop} {H : Heap} {s : State} {args' as : List Value} (hsub : is.map (fun i => h[i]?) = hc.map (fun o => some (o.map (am_rn is)))) (hnd : va_nd is = true) (z : am_Z D cy r h A H) (hK : am_K D cy s) (ha : args'.map (am_v (am_ix is)) = as) : ∀ U : State, U.heap = H → s.WarmedH U.vm → am_Pc D cy (fun j => r (am_ix is j)) args' hc H.size (as.map (am_v r)).toArray U := by
  intro U hU hW
  refine ⟨?_, by rw [hU], by rw [hU]; exact z.sub hsub hnd _, hK.warm hW⟩
  rw [← ha, List.map_map]
  congr 1
  exact List.map_congr_left (fun v _ => am_v_v r (am_ix is) v)
/-- invokevirtual -/
theorem am_callV {idx n b ci : Nat} {fs args' As : List Value} {T : u_T} {N : Nat} (hd : decode M.2.1 pc = .ok (.invokevirtual idx, 3)) (cb : am_cb M idx M' n) (hl : Cond.methodLink M.1.cls idx M'.1 ∈ am_T) (hi : Cond.instanceMethod M'.1 ∈ am_T) (hsel : Cond.selects M'.1.cls M'.1 M'.1 ∈ am_T) (hcl : vwCl[ci]? = some (M'.1.cls, T, N))
    (hM : am_Met M' args' hc n1 s1 Zc) (hb : h[b]? = some (some (.inr (.inr (ci, fs))))) (ha : args'.map (am_v (am_ix is)) = .ref b :: As) (hAs : As.length = n) (hst0 : As.reverse ++ .ref b :: st = st0) (hcat : (st.map fun v => v.category).sum ≤ 8)
    (hsub : is.map (fun i => h[i]?) = hc.map (fun o => some (o.map (am_rn is)))) (hnd : va_nd is = true) (hlen : h.length ≤ 1000) (hil : is.length ≤ 1000) (hfr : am_fr is hc h ls st = true) (hn : n1 ≤ nc ∧ s1 ≤ ns)
    (hok : ∀ v h1, Zc v h1 → am_okh hc.length h1 = true ∧ ∀ w, v = some w → am_okv hc.length w = true)
    (k : ∀ v h1, Zc v h1 → h1.length = hc.length → am_Ok M sc Z (nc - n1) (ns - s1) (pc + 3) ls ((v.map (am_v (am_ix is))).toList ++ st) (am_put is (h1.map (Option.map (am_rn is))) h)) : am_Ok M sc Z nc ns pc ls st0 h := by
  obtain ⟨c1, c2, c3, c4, c5⟩ := cb
  subst hst0
  refine am_callcore hsub hnd hlen hil hfr hn hok (fun {p l e R s m args below meth c H locs cells slots lc D cy A r0 P0} r X hZ hlc hf => ?_) k
  obtain ⟨ws, hP, hD, cov⟩ := hZ.toW
  obtain ⟨q0, hq0⟩ := cov b _ hb
  refine ⟨_, va_runV (own := M.1.cls) (C := M'.1.cls) (nL := M.2.2.1) (As := As.map (am_v r)) (b := r b) (bytes := M'.2.1) (maxL := M'.2.2.1) (ret := M'.2.2.2.1) (n := n) ⟨X.1, X.2.1, X.2.2.1, X.2.2.2.1, X.2.2.2.2.1⟩ (hM l D cy (fun j => r (am_ix is j)) H.size)
    ⟨callB_of n X.2.2.2.2.1 (am_goodIn c1) rfl rfl rfl (X.2.2.2.2.1 _ c2) (X.2.2.2.2.1 _ hl) c3 ⟨by rw [X.2.2.2.2.2.2.2.1]; exact c4, by rw [X.2.2.2.2.2.2.2.2.1]; exact c5⟩, X.2.2.2.2.1 _ hi, X.2.2.2.2.1 _ hsel⟩
    ⟨am_blind, va_recv X.2.2.2.2.2.1.1 hP hcl hq0, am_pre (as := .ref b :: As) hsub hnd hZ X.2.2.2.2.2.1 ha⟩ rfl (by rw [List.length_map]; exact hAs) hlc (by simp [am_v]) ?_ hd hf⟩
  rw [am_cat_map]
  show 2 * 0 + _ ≤ 8
  omega
/-- invokestatic -/
theorem am_callS {idx n : Nat} {args' As : List Value} (hd : decode M.2.1 pc = .ok (.invokestatic idx, 3)) (cb : am_cb M idx M' n) (hl : Cond.methodLink M.1.cls idx M'.1 ∈ am_T) (hs : Cond.static M'.1 ∈ am_T)
    (hM : am_Met M' args' hc n1 s1 Zc) (ha : args'.map (am_v (am_ix is)) = As) (hAs : As.length = n) (hst0 : As.reverse ++ st = st0) (hcat : (st.map fun v => v.category).sum ≤ 8)
    (hsub : is.map (fun i => h[i]?) = hc.map (fun o => some (o.map (am_rn is)))) (hnd : va_nd is = true) (hlen : h.length ≤ 1000) (hil : is.length ≤ 1000) (hfr : am_fr is hc h ls st = true) (hn : n1 ≤ nc ∧ s1 ≤ ns)
    (hok : ∀ v h1, Zc v h1 → am_okh hc.length h1 = true ∧ ∀ w, v = some w → am_okv hc.length w = true)
    (k : ∀ v h1, Zc v h1 → h1.length = hc.length → am_Ok M sc Z (nc - n1) (ns - s1) (pc + 3) ls ((v.map (am_v (am_ix is))).toList ++ st) (am_put is (h1.map (Option.map (am_rn is))) h)) : am_Ok M sc Z nc ns pc ls st0 h := by
  obtain ⟨c1, c2, c3, c4, c5⟩ := cb
  subst hst0
  refine am_callcore hsub hnd hlen hil hfr hn hok (fun {p l e R s m args below meth c H locs cells slots lc D cy A r0 P0} r X hZ hlc hf => ?_) k
  refine ⟨_, va_runS (own := M.1.cls) (nL := M.2.2.1) (As := As.map (am_v r)) (bytes := M'.2.1) (maxL := M'.2.2.1) (ret := M'.2.2.2.1) (n := n) ⟨X.1, X.2.1, X.2.2.1, X.2.2.2.1, X.2.2.2.2.1⟩ (hM l D cy (fun j => r (am_ix is j)) H.size)
    ⟨callB_of n X.2.2.2.2.1 (am_goodIn c1) rfl rfl rfl (X.2.2.2.2.1 _ c2) (X.2.2.2.2.1 _ hl) c3 ⟨by rw [X.2.2.2.2.2.2.2.1]; exact c4, by rw [X.2.2.2.2.2.2.2.2.1]; exact c5⟩, X.2.2.2.2.1 _ hs⟩
    ⟨am_blind, am_pre (as := As) hsub hnd hZ X.2.2.2.2.2.1 ha⟩ rfl (by rw [List.length_map]; exact hAs) hlc (by simp) ?_ hd hf⟩
  rw [am_cat_map]
  show 2 * 0 + _ ≤ 8
  omega
/-- invokestatic of a nest mate's private method -/
theorem am_callSN {idx n : Nat} {host : String} {args' As : List Value} (hd : decode M.2.1 pc = .ok (.invokestatic idx, 3)) (cb : am_cb M idx M' n) (hl : Cond.methodLinkNest M.1.cls idx M'.1 host ∈ am_N) (hs : Cond.static M'.1 ∈ am_T)
    (hM : am_Met M' args' hc n1 s1 Zc) (ha : args'.map (am_v (am_ix is)) = As) (hAs : As.length = n) (hst0 : As.reverse ++ st = st0) (hcat : (st.map fun v => v.category).sum ≤ 8)
    (hsub : is.map (fun i => h[i]?) = hc.map (fun o => some (o.map (am_rn is)))) (hnd : va_nd is = true) (hlen : h.length ≤ 1000) (hil : is.length ≤ 1000) (hfr : am_fr is hc h ls st = true) (hn : n1 ≤ nc ∧ s1 ≤ ns)
    (hok : ∀ v h1, Zc v h1 → am_okh hc.length h1 = true ∧ ∀ w, v = some w → am_okv hc.length w = true)
    (k : ∀ v h1, Zc v h1 → h1.length = hc.length → am_Ok M sc Z (nc - n1) (ns - s1) (pc + 3) ls ((v.map (am_v (am_ix is))).toList ++ st) (am_put is (h1.map (Option.map (am_rn is))) h)) : am_Ok M sc Z nc ns pc ls st0 h := by
  obtain ⟨c1, c2, c3, c4, c5⟩ := cb
  subst hst0
  refine am_callcore hsub hnd hlen hil hfr hn hok (fun {p l e R s m args below meth c H locs cells slots lc D cy A r0 P0} r X hZ hlc hf => ?_) k
  refine ⟨_, va_runSN (own := M.1.cls) (host := host) (nL := M.2.2.1) (As := As.map (am_v r)) (bytes := M'.2.1) (maxL := M'.2.2.1) (ret := M'.2.2.2.1) (n := n) ⟨X.1, X.2.1, X.2.2.1, X.2.2.2.1, X.2.2.2.2.1⟩ (hM l D cy (fun j => r (am_ix is j)) H.size)
    ⟨va_cnB n X.2.2.2.2.1 (am_goodIn c1) rfl rfl rfl (X.2.2.2.2.2.1.2.1 _ hl) (X.2.2.2.2.1 _ c2) c3 ⟨by rw [X.2.2.2.2.2.2.2.1]; exact c4, by rw [X.2.2.2.2.2.2.2.2.1]; exact c5⟩, X.2.2.2.2.1 _ hs, trivial⟩
    ⟨am_blind, am_pre (as := As) hsub hnd hZ X.2.2.2.2.2.1 ha⟩ rfl (by rw [List.length_map]; exact hAs) hlc (by simp) ?_ hd hf⟩
  rw [am_cat_map]
  show 2 * 0 + _ ≤ 8
  omega
/-- invokespecial of a constructor -/
theorem am_callI {idx n b : Nat} {args' As : List Value} (hd : decode M.2.1 pc = .ok (.invokespecial idx, 3)) (cb : am_cb M idx M' n) (hret : M'.2.2.2.1 = none) (hy1 : M'.1.name = "<init>") (hl : Cond.methodLink M.1.cls idx M'.1 ∈ am_T) (hi : Cond.instanceMethod M'.1 ∈ am_T)
    (hM : am_Met M' args' hc n1 s1 Zc) (ha : args'.map (am_v (am_ix is)) = .ref b :: As) (hAs : As.length = n) (hst0 : As.reverse ++ .ref b :: st = st0) (hcat : (st.map fun v => v.category).sum ≤ 8)
    (hsub : is.map (fun i => h[i]?) = hc.map (fun o => some (o.map (am_rn is)))) (hnd : va_nd is = true) (hlen : h.length ≤ 1000) (hil : is.length ≤ 1000) (hfr : am_fr is hc h ls st = true) (hn : n1 ≤ nc ∧ s1 ≤ ns)
    (hok : ∀ v h1, Zc v h1 → am_okh hc.length h1 = true ∧ ∀ w, v = some w → am_okv hc.length w = true)
    (k : ∀ v h1, Zc v h1 → h1.length = hc.length → am_Ok M sc Z (nc - n1) (ns - s1) (pc + 3) ls ((v.map (am_v (am_ix is))).toList ++ st) (am_put is (h1.map (Option.map (am_rn is))) h)) : am_Ok M sc Z nc ns pc ls st0 h := by
  obtain ⟨c1, c2, c3, c4, c5⟩ := cb
  subst hst0
  refine am_callcore hsub hnd hlen hil hfr hn hok (fun {p l e R s m args below meth c H locs cells slots lc D cy A r0 P0} r X hZ hlc hf => ?_) k
  refine ⟨_, va_runI (own := M.1.cls) (nL := M.2.2.1) (As := As.map (am_v r)) (b := r b) (bytes := M'.2.1) (maxL := M'.2.2.1) (n := n) ⟨X.1, X.2.1, X.2.2.1, X.2.2.2.1, X.2.2.2.2.1⟩ (hM l D cy (fun j => r (am_ix is j)) H.size)
    ⟨callB_of n X.2.2.2.2.1 (am_goodIn c1) (by rw [am_ws, hret]) rfl rfl (X.2.2.2.2.1 _ c2) (X.2.2.2.2.1 _ hl) c3 ⟨by rw [X.2.2.2.2.2.2.2.1]; exact c4, by rw [X.2.2.2.2.2.2.2.2.1]; exact c5⟩, hy1, X.2.2.2.2.1 _ hi⟩
    ⟨am_blind, am_pre (as := .ref b :: As) hsub hnd hZ X.2.2.2.2.2.1 ha⟩ rfl (by rw [List.length_map]; exact hAs) hlc (by simp [am_v]) ?_ hd hf⟩
  rw [am_cat_map]
  show 2 * 0 + _ ≤ 8
  omega
/-- Object.<init> -/
theorem am_objInit {idx a : Nat} (hd : decode M.2.1 pc = .ok (.invokespecial idx, 3)) (hl : Cond.methodLink M.1.cls idx objectInit ∈ am_T) (hi : Cond.instanceMethod objectInit ∈ am_T) (hc1 : Cond.code objectInit ⟨#[0xb1]⟩ 1 none ∈ am_T) (hcat : (st.map fun v => v.category).sum ≤ 8) (hfr : 1 ≤ M.2.2.2.2.1) (hlo : 20 ≤ M.2.2.2.2.2) (k : am_Ok M sc Z nc ns (pc + 3) ls st h) : am_Ok M sc Z nc ns pc ls (.ref a :: st) h := by
  intro p l e R s m args below meth c Q D cy A r0 P0 N0 X hR r H locs cells slots lc hZ hS hL hE hN
  obtain ⟨lv, hlv, -⟩ := id hL
  refine W.objInit (g := F0 m pc lc (.ref (r a) :: st.map (am_v r))) X.1 X.2.1 X.2.2.2.1 (X.2.2.2.2.1 _ hl) (X.2.2.2.2.1 _ hi) (X.2.2.2.2.1 _ hc1) rfl (by rw [X.2.2.1]; exact hlv.1) rfl hd (by rw [X.2.2.2.2.2.2.2.1]; exact hfr) ?_ (k p l e R s m args below meth c Q D cy A r0 P0 N0 X hR r H locs cells slots lc hZ hS hL hE hN)
  rw [am_cat_map, X.2.2.2.2.2.2.2.2.1]
  show 2 * 0 + _ + 12 ≤ _
  omega
end AMC
end
section
/-! the rules as the printed walks use them -/
abbrev Mu : Type := Nat → Nat → Int32
def mu_set (m : Mu) (a : Nat) (f : Nat → Int32) : Mu := fun b => cond (Nat.beq b a) f (m b)
def mu_up (m : Mu) (a i : Nat) (x : Int32) : Mu := mu_set m a (upd (m a) i x)
def mu_sub (m : Mu) (o : Nat) : Mu := fun a => m (o + a)
def mu_put (m : Mu) (o n : Nat) (k : Mu) : Mu := fun a => cond (Nat.ble o a && Nat.blt a (o + n)) (k (a - o)) (m a)
def am_rem (x y : Int32) : Int32 := x - x / y * y
def am_ush (x y : Int32) : Int32 := (x.toUInt32 >>> (y.toUInt32 &&& Int32.toUInt32 31)).toInt32
def zI (F : Mu → am_H) (K : Int32 → Mu → Prop) : Option Value → am_H → Prop := fun v h => ∃ (x : Int32) (m : Mu), v = some (.int x) ∧ h = F m ∧ K x m
def zV (F : Mu → am_H) (K : Mu → Prop) : Option Value → am_H → Prop := fun v h => ∃ m : Mu, v = none ∧ h = F m ∧ K m
def zP (h0 : am_H) (K : Int32 → Prop) : Option Value → am_H → Prop := fun v h => ∃ x : Int32, v = some (.int x) ∧ h = h0 ∧ K x
/-- a reference of its own world comes back -/
def zQ (h0 : am_H) (K : Nat → Prop) : Option Value → am_H → Prop := fun v h => ∃ j : Nat, v = some (.ref j) ∧ h = h0 ∧ j < h0.length ∧ K j
theorem am_Met.of2 {M : am_M} {args : List Value} {h : am_H} {nc ns : Nat} {Z : Option Value → am_H → Prop} {ls : List (Option Value)} (hy : plainName M.1.cls = true) (hh : Nat.ble h.length 1000 = true) (hc : (args.all fun v => Nat.beq v.category 1) = true) (hn : Nat.ble args.length M.2.2.1 = true) (hl : am_l0 M.2.2.1 args = ls) (k : am_Ok M none Z nc ns 0 ls [] h) : am_Met M args h nc ns Z :=
  am_Met.of hy (Nat.le_of_ble_eq_true hh) (fun v hv => Nat.eq_of_beq_eq_true (List.all_eq_true.mp hc v hv)) (Nat.le_of_ble_eq_true hn) (by rw [hl]; exact k)
section AMI
variable {M M' : am_M} {sc : Option (Nat × (Nat → Int32))} {Z Zc : Option Value → am_H → Prop} {nc ns n1 s1 pc : Nat} {ls ls' : List (Option Value)} {st st0 : List Value} {h hc : am_H} {is : List Nat}
theorem am_top {x : Int32} (k : ∀ y : Int32, y = x → am_Ok M sc Z nc ns pc ls (.int y :: st) h) : am_Ok M sc Z nc ns pc ls (.int x :: st) h := k x rfl
theorem am_hm {F : Mu → am_H} {m : Mu} (e : h = F m) (k : ∀ m' : Mu, m' = m → am_Ok M sc Z nc ns pc ls st (F m')) : am_Ok M sc Z nc ns pc ls st h := by rw [e]; exact k m rfl
theorem am_hp {h2 : am_H} (e : h = h2) (k : am_Ok M sc Z nc ns pc ls st h2) : am_Ok M sc Z nc ns pc ls st h := by rw [e]; exact k
theorem am_lp (e : ls = ls') (k : am_Ok M sc Z nc ns pc ls' st h) : am_Ok M sc Z nc ns pc ls st h := by rw [e]; exact k
/-- locals that are forgotten -/
def am_mk : List Bool → List (Option Value) → List (Option Value)
  | b :: bs, o :: os => cond b o none :: am_mk bs os
  | _, os => os
theorem am_mk_at : ∀ (bs : List Bool) (os : List (Option Value)) (k : Nat) (v : Value), (am_mk bs os)[k]? = some (some v) → os[k]? = some (some v)
  | [], _, _, _, h => h
  | _ :: _, [], _, _, h => h
  | b :: bs, o :: os, 0, v, h => by
    cases b with
    | true => exact h
    | false => cases h
  | b :: bs, o :: os, k + 1, v, h => am_mk_at bs os k v h
theorem am_forget (bs : List Bool) (e : am_mk bs ls = ls') (k : am_Ok M sc Z nc ns pc ls' st h) : am_Ok M sc Z nc ns pc ls st h := by
  intro p l e' R s m args below meth c Q D cy A r0 P0 N0 X hR r H locs cells slots lc hZ hS hL hE hN
  refine k p l e' R s m args below meth c Q D cy A r0 P0 N0 X hR r H locs cells slots lc hZ hS ?_ hE hN
  obtain ⟨lv, h1, h2⟩ := hL
  exact ⟨lv, h1, fun j v hj => h2 j v (am_mk_at bs ls j v (by rw [e]; exact hj))⟩
theorem am_irem' {x y : Int32} (hd : decode M.2.1 pc = .ok (.irem, 1)) (hy : ¬ y = 0) (k : am_Ok M sc Z nc ns (pc + 1) ls (.int (am_rem x y) :: st) h) : am_Ok M sc Z nc ns pc ls (.int y :: .int x :: st) h := am_irem hd hy k
theorem am_iushr' {x y : Int32} (hd : decode M.2.1 pc = .ok (.iushr, 1)) (k : am_Ok M sc Z nc ns (pc + 1) ls (.int (am_ush x y) :: st) h) : am_Ok M sc Z nc ns pc ls (.int y :: .int x :: st) h := am_iushr hd k
theorem am_istore_n' {i : Fin 4} {x : Int32} (hd : decode M.2.1 pc = .ok (.istore_n i, 1)) (hi : Nat.blt i M.2.2.1 = true) (hls : ls.length = M.2.2.1) (hs : ls.set i (some (.int x)) = ls') (k : am_Ok M sc Z nc ns (pc + 1) ls' st h) : am_Ok M sc Z nc ns pc ls (.int x :: st) h := am_istore_n hd (Nat.le_of_ble_eq_true hi) hls (by rw [hs]; exact k)
theorem am_istore' {i : Nat} {x : Int32} (hd : decode M.2.1 pc = .ok (.istore i, 2)) (hi : Nat.blt i M.2.2.1 = true) (hls : ls.length = M.2.2.1) (hs : ls.set i (some (.int x)) = ls') (k : am_Ok M sc Z nc ns (pc + 2) ls' st h) : am_Ok M sc Z nc ns pc ls (.int x :: st) h := am_istore hd (Nat.le_of_ble_eq_true hi) hls (by rw [hs]; exact k)
theorem am_astore_n' {i : Fin 4} {x : Nat} (hd : decode M.2.1 pc = .ok (.astore_n i, 1)) (hi : Nat.blt i M.2.2.1 = true) (hls : ls.length = M.2.2.1) (hs : ls.set i (some (.ref x)) = ls') (k : am_Ok M sc Z nc ns (pc + 1) ls' st h) : am_Ok M sc Z nc ns pc ls (.ref x :: st) h := am_astore_n hd (Nat.le_of_ble_eq_true hi) hls (by rw [hs]; exact k)
theorem am_astore' {i : Nat} {x : Nat} (hd : decode M.2.1 pc = .ok (.astore i, 2)) (hi : Nat.blt i M.2.2.1 = true) (hls : ls.length = M.2.2.1) (hs : ls.set i (some (.ref x)) = ls') (k : am_Ok M sc Z nc ns (pc + 2) ls' st h) : am_Ok M sc Z nc ns pc ls (.ref x :: st) h := am_astore hd (Nat.le_of_ble_eq_true hi) hls (by rw [hs]; exact k)
/-- iinc, the new number named -/
theorem am_iinc' {i : Nat} {n : Int} {x d : Int32} {lf : Int32 → List (Option Value)} (hd : decode M.2.1 pc = .ok (.iinc i n, 3)) (hi : Nat.blt i M.2.2.1 = true) (hls : ls.length = M.2.2.1) (hl : ls[i]? = some (some (.int x))) (hv : Int32.ofInt n = d) (hs : ∀ y, ls.set i (some (.int y)) = lf y) (k : ∀ y : Int32, y = x + d → am_Ok M sc Z nc ns (pc + 3) (lf y) st h) : am_Ok M sc Z nc ns pc ls st h :=
  am_iinc (v := x + d) hd (Nat.le_of_ble_eq_true hi) hls hl (by rw [hv]) (by rw [hs]; exact k _ rfl)
theorem am_putf' {F : Mu → am_H} {m : Mu} {idx q ci i : Nat} {fs : List Value} {x : Int32} (hd : decode M.2.1 pc = .ok (.putfield idx, 3)) (hf : am_fp M.1.cls idx ci i .int false) (hq : h[q]? = some (some (.inr (.inr (ci, fs))))) (hi : Nat.blt i fs.length = true) (e : h.set q (some (.inr (.inr (ci, fs.set i (.int x))))) = F m) (k : ∀ m' : Mu, m' = m → am_Ok M sc Z nc ns (pc + 3) ls st (F m')) : am_Ok M sc Z nc ns pc ls (.int x :: .ref q :: st) h :=
  am_putf hd hf (fun z => by cases z) (fun _ => ⟨rfl, rfl⟩) hq (Nat.le_of_ble_eq_true hi) (am_hm e k)
theorem am_iastore' {F : Mu → am_H} {m : Mu} {q n : Nat} {f : Nat → Int32} {i x : Int32} (hd : decode M.2.1 pc = .ok (.iastore, 1)) (hq : h[q]? = some (some (.inl (0, n, f)))) (hi : vp_in i n) (e : h.set q (some (.inl (0, n, upd f i.toNatClampNeg x))) = F m) (k : ∀ m' : Mu, m' = m → am_Ok M sc Z nc ns (pc + 1) ls st (F m')) : am_Ok M sc Z nc ns pc ls (.int x :: .int i :: .ref q :: st) h := am_iastore hd hq hi (am_hm e k)
theorem am_bastore' {F : Mu → am_H} {m : Mu} {q n : Nat} {f : Nat → Int32} {i x : Int32} (hd : decode M.2.1 pc = .ok (.bastore, 1)) (hq : h[q]? = some (some (.inl (1, n, f)))) (hi : vp_in i n) (e : h.set q (some (.inl (1, n, upd f i.toNatClampNeg (vp_nar .boolean x)))) = F m) (k : ∀ m' : Mu, m' = m → am_Ok M sc Z nc ns (pc + 1) ls st (F m')) : am_Ok M sc Z nc ns pc ls (.int x :: .int i :: .ref q :: st) h := am_bastore hd hq hi (am_hm e k)
-- the static facts of a call
def am_qV (M : am_M) (idx : Nat) (M' : am_M) (n : Nat) : Prop := am_cb M idx M' n ∧ Cond.methodLink M.1.cls idx M'.1 ∈ am_T ∧ Cond.instanceMethod M'.1 ∈ am_T ∧ Cond.selects M'.1.cls M'.1 M'.1 ∈ am_T
def am_qS (M : am_M) (idx : Nat) (M' : am_M) (n : Nat) : Prop := am_cb M idx M' n ∧ Cond.methodLink M.1.cls idx M'.1 ∈ am_T ∧ Cond.static M'.1 ∈ am_T
def am_qN (M : am_M) (idx : Nat) (M' : am_M) (n : Nat) : Prop := am_cb M idx M' n ∧ (∃ host, Cond.methodLinkNest M.1.cls idx M'.1 host ∈ am_N) ∧ Cond.static M'.1 ∈ am_T
def am_qI (M : am_M) (idx : Nat) (M' : am_M) (n : Nat) : Prop := am_cb M idx M' n ∧ Cond.methodLink M.1.cls idx M'.1 ∈ am_T ∧ Cond.instanceMethod M'.1 ∈ am_T
-- the same world
theorem am_ix_range (n : Nat) : am_ix (List.range n) = fun j => j := by
  funext j
  unfold am_ix
  rw [List.getD_eq_getElem?_getD]
  by_cases hj : j < n
  · rw [List.getElem?_range hj]; rfl
  · rw [List.getElem?_eq_none (by simpa using Nat.not_lt.mp hj)]; rfl
theorem am_v_id (v : Value) : am_v (fun j => j) v = v := by cases v <;> rfl
theorem am_rn_range (n : Nat) (c : am_C) : am_rn (List.range n) c = c := by
  rcases c with a | l | o
  · rfl
  · simp only [am_rn, am_ix_range]
    congr 2
    conv => rhs; rw [← List.map_id l]
    exact List.map_congr_left (fun o _ => by cases o <;> rfl)
  · simp only [am_rn, am_ix_range]
    congr 2
    conv => rhs; rw [← Prod.eta o, ← List.map_id o.2]
    congr 1
    exact List.map_congr_left (fun v _ => am_v_id v)
theorem am_map_rn_range (n : Nat) (os : am_H) : os.map (Option.map (am_rn (List.range n))) = os := by
  conv => rhs; rw [← List.map_id os]
  exact List.map_congr_left (fun o _ => by
    cases o with
    | none => rfl
    | some c => show some (am_rn (List.range n) c) = some c; rw [am_rn_range])
theorem am_sub_range (h : am_H) : (List.range h.length).map (fun i => h[i]?) = h.map (fun o => some (o.map (am_rn (List.range h.length)))) := by
  apply List.ext_getElem?
  intro i
  rw [List.getElem?_map, List.getElem?_map]
  by_cases hi : i < h.length
  · rw [List.getElem?_range hi, List.getElem?_eq_getElem hi]
    simp only [Option.map_some, List.getElem?_eq_getElem hi]
    congr 2
    cases h[i] with
    | none => rfl
    | some c => show some c = some (am_rn _ c); rw [am_rn_range]
  · rw [List.getElem?_eq_none (by simpa using Nat.not_lt.mp hi), List.getElem?_eq_none (Nat.not_lt.mp hi)]
    rfl
theorem am_nd_range : ∀ n, va_nd (List.range n) = true := by
  have key : ∀ (l : List Nat), l.Nodup → va_nd l = true := by
    intro l
    induction l with
    | nil => intro _; rfl
    | cons a l ih =>
      intro h
      have h1 := List.nodup_cons.mp h
      have h2 := ih h1.2
      simp [va_nd, h2, h1.1]
  exact fun n => key _ List.nodup_range
theorem am_put_range {n : Nat} {os h : am_H} (h1 : os.length = n) (h2 : h.length = n) : am_put (List.range n) os h = os := by
  apply List.ext_getElem?
  intro i
  by_cases hi : i < n
  · have ho : os[i]? = some os[i] := List.getElem?_eq_getElem (by omega)
    rw [ho]
    exact am_put_in (List.range n) os h (va_nd_inj _ (am_nd_range n)) i i _ (List.getElem?_range hi) ho (by omega)
  · rw [List.getElem?_eq_none (by rw [am_put_len]; omega), List.getElem?_eq_none (by omega)]
theorem am_fr_some : ∀ (is : List Nat) (hc h : am_H) (ls : List (Option Value)) (st : List Value), (hc.all fun o => o.isSome) = true → am_fr is hc h ls st = true
  | [], _, _, _, _, _ => by unfold am_fr; rfl
  | _ :: _, [], _, _, _, _ => by unfold am_fr; rfl
  | i :: is, none :: os, h, ls, st, hh => by simp at hh
  | i :: is, some c :: os, h, ls, st, hh => by
    have h2 : (os.all fun o => o.isSome) = true := by simpa using hh
    exact am_fr_some is os h ls st h2
/-- a family of worlds: full places, as many, references within -/
def am_fam (F : Mu → am_H) (n : Nat) : Prop := ∀ m, (F m).length = n ∧ am_okh n (F m) = true ∧ ((F m).all fun o => o.isSome) = true
theorem am_tail (v : Option Value) (st : List Value) (n : Nat) : (v.map (am_v (am_ix (List.range n)))).toList ++ st = v.toList ++ st := by
  rw [am_ix_range]
  cases v with
  | none => rfl
  | some w => show [am_v (fun j => j) w] ++ st = _; rw [am_v_id]; rfl
/-- a call on the same world (virtual) -/
theorem am_selfV {F : Mu → am_H} {n0 idx n ci : Nat} {fs args As : List Value} {T : u_T} {N : Nat} {m : Mu} {b : Nat} (hF : am_fam F n0) (hn0 : Nat.ble n0 1000 = true) (hd : decode M.2.1 pc = .ok (.invokevirtual idx, 3)) (q : am_qV M idx M' n) (hcl : vwCl[ci]? = some (M'.1.cls, T, N)) (hM : am_Met M' args (F m) 0 0 Zc) (hb : (F m)[b]? = some (some (.inr (.inr (ci, fs))))) (ha : args = .ref b :: As) (hAs : As.length = n) (hst0 : As.reverse ++ .ref b :: st = st0) (hcat : Nat.ble (st.map fun v => v.category).sum 8 = true)
    (hok : ∀ v h1, Zc v h1 → am_okh n0 h1 = true ∧ ∀ w, v = some w → am_okv n0 w = true)
    (k : ∀ v h1, Zc v h1 → am_Ok M sc Z nc ns (pc + 3) ls (v.toList ++ st) h1) : am_Ok M sc Z nc ns pc ls st0 (F m) := by
  obtain ⟨q1, q2, q3, q4⟩ := q
  have hl := (hF m).1
  have hb0 := Nat.le_of_ble_eq_true hn0
  have hmap : args.map (am_v (am_ix (List.range n0))) = args := by
    rw [am_ix_range]
    conv => rhs; rw [← List.map_id args]
    exact List.map_congr_left (fun v _ => am_v_id v)
  refine am_callV (is := List.range n0) (n1 := 0) (s1 := 0) hd q1 q2 q3 q4 hcl hM hb (by rw [hmap]; exact ha) hAs hst0 (Nat.le_of_ble_eq_true hcat) (by have := am_sub_range (F m); rw [hl] at this; exact this) (am_nd_range n0) (by rw [hl]; exact hb0) (by rw [List.length_range]; exact hb0) (am_fr_some _ _ _ _ _ (hF m).2.2) ⟨Nat.zero_le _, Nat.zero_le _⟩ (by rw [hl]; exact hok) (fun v h1 hz hl1 => ?_)
  rw [am_tail, am_map_rn_range, am_put_range (by rw [hl1, hl]) hl]
  exact k v h1 hz
/-- a call on a part of the world (virtual) -/
theorem am_partV {F : Mu → am_H} {n0 idx n ci b : Nat} {fs args' As : List Value} {T : u_T} {N : Nat} {m : Mu} (is : List Nat) (hF : am_fam F n0) (hd : decode M.2.1 pc = .ok (.invokevirtual idx, 3)) (q : am_qV M idx M' n) (hcl : vwCl[ci]? = some (M'.1.cls, T, N)) (hM : am_Met M' args' (F m) 0 0 Zc) (hb : h[b]? = some (some (.inr (.inr (ci, fs))))) (ha : args'.map (am_v (am_ix is)) = .ref b :: As) (hAs : As.length = n) (hst0 : As.reverse ++ .ref b :: st = st0) (hcat : Nat.ble (st.map fun v => v.category).sum 8 = true)
    (hsub : is.map (fun i => h[i]?) = (F m).map (fun o => some (o.map (am_rn is)))) (hnd : va_nd is = true) (hlen : Nat.ble h.length 1000 = true) (hil : Nat.ble is.length 1000 = true)
    (hok : ∀ v h1, Zc v h1 → am_okh n0 h1 = true ∧ ∀ w, v = some w → am_okv n0 w = true)
    (k : ∀ v h1, Zc v h1 → am_Ok M sc Z nc ns (pc + 3) ls ((v.map (am_v (am_ix is))).toList ++ st) (am_put is (h1.map (Option.map (am_rn is))) h)) : am_Ok M sc Z nc ns pc ls st0 h := by
  obtain ⟨q1, q2, q3, q4⟩ := q
  exact am_callV (is := is) (n1 := 0) (s1 := 0) hd q1 q2 q3 q4 hcl hM hb ha hAs hst0 (Nat.le_of_ble_eq_true hcat) hsub hnd (Nat.le_of_ble_eq_true hlen) (Nat.le_of_ble_eq_true hil) (am_fr_some _ _ _ _ _ (hF m).2.2) ⟨Nat.zero_le _, Nat.zero_le _⟩ (by rw [(hF m).1]; exact hok) (fun v h1 hz hl1 => k v h1 hz)
/-- a static call without a world -/
theorem am_stS {idx n : Nat} {As : List Value} {K : Int32 → Prop} (hd : decode M.2.1 pc = .ok (.invokestatic idx, 3)) (q : am_qS M idx M' n ∨ am_qN M idx M' n) (hM : am_Met M' As [] 0 0 (zP [] K)) (hAs : As.length = n) (hst0 : As.reverse ++ st = st0) (hcat : Nat.ble (st.map fun v => v.category).sum 8 = true) (hlen : Nat.ble h.length 1000 = true)
    (k : ∀ x : Int32, K x → am_Ok M sc Z nc ns (pc + 3) ls (.int x :: st) h) : am_Ok M sc Z nc ns pc ls st0 h := by
  have hmap : As.map (am_v (am_ix [])) = As := by
    conv => rhs; rw [← List.map_id As]
    exact List.map_congr_left (fun v _ => by
      show am_v (am_ix []) v = v
      rw [show am_ix [] = fun j => j from funext fun j => rfl, am_v_id])
  have hok : ∀ v h1, zP [] K v h1 → am_okh ([] : am_H).length h1 = true ∧ ∀ w, v = some w → am_okv ([] : am_H).length w = true := by
    rintro v h1 ⟨x, rfl, rfl, -⟩
    exact ⟨rfl, fun w hw => by cases hw; rfl⟩
  have k2 : ∀ v h1, zP [] K v h1 → h1.length = ([] : am_H).length → am_Ok M sc Z (nc - 0) (ns - 0) (pc + 3) ls ((v.map (am_v (am_ix []))).toList ++ st) (am_put [] (h1.map (Option.map (am_rn []))) h) := by
    rintro v h1 ⟨x, rfl, rfl, hK⟩ -
    exact k x hK
  rcases q with ⟨q1, q2, q3⟩ | ⟨q1, ⟨host, q2⟩, q3⟩
  · exact am_callS (is := []) (hc := []) (n1 := 0) (s1 := 0) hd q1 q2 q3 hM hmap hAs hst0 (Nat.le_of_ble_eq_true hcat) rfl rfl (Nat.le_of_ble_eq_true hlen) (Nat.zero_le _) (by unfold am_fr; rfl) ⟨Nat.zero_le _, Nat.zero_le _⟩ hok k2
  · exact am_callSN (is := []) (hc := []) (n1 := 0) (s1 := 0) hd q1 q2 q3 hM hmap hAs hst0 (Nat.le_of_ble_eq_true hcat) rfl rfl (Nat.le_of_ble_eq_true hlen) (Nat.zero_le _) (by unfold am_fr; rfl) ⟨Nat.zero_le _, Nat.zero_le _⟩ hok k2
-- what the answers' forms give
theorem zI_ok {F : Mu → am_H} {n0 : Nat} {K : Int32 → Mu → Prop} (hF : am_fam F n0) : ∀ v h1, zI F K v h1 → am_okh n0 h1 = true ∧ ∀ w, v = some w → am_okv n0 w = true := by
  rintro v h1 ⟨x, m, rfl, rfl, -⟩
  exact ⟨(hF m).2.1, fun w hw => by cases hw; rfl⟩
theorem zV_ok {F : Mu → am_H} {n0 : Nat} {K : Mu → Prop} (hF : am_fam F n0) : ∀ v h1, zV F K v h1 → am_okh n0 h1 = true ∧ ∀ w, v = some w → am_okv n0 w = true := by
  rintro v h1 ⟨m, rfl, rfl, -⟩
  exact ⟨(hF m).2.1, fun w hw => by cases hw⟩
theorem zP_ok {F : Mu → am_H} {n0 : Nat} {m : Mu} {K : Int32 → Prop} (hF : am_fam F n0) : ∀ v h1, zP (F m) K v h1 → am_okh n0 h1 = true ∧ ∀ w, v = some w → am_okv n0 w = true := by
  rintro v h1 ⟨x, rfl, rfl, -⟩
  exact ⟨(hF m).2.1, fun w hw => by cases hw; rfl⟩
theorem zQ_ok {F : Mu → am_H} {n0 : Nat} {m : Mu} {K : Nat → Prop} (hF : am_fam F n0) : ∀ v h1, zQ (F m) K v h1 → am_okh n0 h1 = true ∧ ∀ w, v = some w → am_okv n0 w = true := by
  rintro v h1 ⟨j, rfl, rfl, hj, -⟩
  refine ⟨(hF m).2.1, fun w hw => ?_⟩
  cases hw
  rw [(hF m).1] at hj
  simp [am_okv, Nat.blt_eq, hj]
end AMI
end
