section
-- ===== PART A: goes FIRST, ahead of the names: the tables' words, and 'selects' of the private methods out of them =====
/-- a private method of a class that the tables say can be made, by its rows of tables_1 -/
def lw_okq (q : MethodName × Nat) : Prop := (q.1.cls ≠ "java/lang/invoke/MethodHandle" ∧ q.1.cls ≠ "java/lang/invoke/VarHandle") ∧ Cond.instantiable q.1.cls q.2 ∈ tables_1 ∧ Cond.privateMethod q.1 ∈ tables_1 ∧ Cond.instanceMethod q.1 ∈ tables_1
theorem lw_p0 : lw_okq (⟨"GearRoad", "found", "(I)I"⟩, 10) := ⟨⟨by decide +kernel, by decide +kernel⟩, List.mem_of_getElem? (i := 13) (by decide +kernel), List.mem_of_getElem? (i := 237) (by decide +kernel), List.mem_of_getElem? (i := 238) (by decide +kernel)⟩
theorem lw_p1 : lw_okq (⟨"GearRoad", "unfound", "(I)I"⟩, 10) := ⟨⟨by decide +kernel, by decide +kernel⟩, List.mem_of_getElem? (i := 13) (by decide +kernel), List.mem_of_getElem? (i := 249) (by decide +kernel), List.mem_of_getElem? (i := 250) (by decide +kernel)⟩
theorem lw_p2 : lw_okq (⟨"GearRoad$Tape", "readLaw", "(LGearRoad$Bike;)V"⟩, 5) := ⟨⟨by decide +kernel, by decide +kernel⟩, List.mem_of_getElem? (i := 40) (by decide +kernel), List.mem_of_getElem? (i := 309) (by decide +kernel), List.mem_of_getElem? (i := 310) (by decide +kernel)⟩
theorem lw_p3 : lw_okq (⟨"GearRoad$Tape", "next", "()I"⟩, 5) := ⟨⟨by decide +kernel, by decide +kernel⟩, List.mem_of_getElem? (i := 40) (by decide +kernel), List.mem_of_getElem? (i := 313) (by decide +kernel), List.mem_of_getElem? (i := 314) (by decide +kernel)⟩
theorem lw_p4 : lw_okq (⟨"GearRoad$Tape", "letterAt", "(I)I"⟩, 5) := ⟨⟨by decide +kernel, by decide +kernel⟩, List.mem_of_getElem? (i := 40) (by decide +kernel), List.mem_of_getElem? (i := 317) (by decide +kernel), List.mem_of_getElem? (i := 318) (by decide +kernel)⟩
theorem lw_p5 : lw_okq (⟨"GearRoad$Tape", "fail", "(I)V"⟩, 5) := ⟨⟨by decide +kernel, by decide +kernel⟩, List.mem_of_getElem? (i := 40) (by decide +kernel), List.mem_of_getElem? (i := 322) (by decide +kernel), List.mem_of_getElem? (i := 323) (by decide +kernel)⟩
theorem lw_p6 : lw_okq (⟨"GearRoad$Tape", "numberBehind", "(II)I"⟩, 5) := ⟨⟨by decide +kernel, by decide +kernel⟩, List.mem_of_getElem? (i := 40) (by decide +kernel), List.mem_of_getElem? (i := 326) (by decide +kernel), List.mem_of_getElem? (i := 327) (by decide +kernel)⟩
theorem lw_p7 : lw_okq (⟨"GearRoad$Tape", "takeNumber", "(II)I"⟩, 5) := ⟨⟨by decide +kernel, by decide +kernel⟩, List.mem_of_getElem? (i := 40) (by decide +kernel), List.mem_of_getElem? (i := 330) (by decide +kernel), List.mem_of_getElem? (i := 331) (by decide +kernel)⟩
theorem lw_p8 : lw_okq (⟨"GearRoad$Tape", "figuresHere", "()I"⟩, 5) := ⟨⟨by decide +kernel, by decide +kernel⟩, List.mem_of_getElem? (i := 40) (by decide +kernel), List.mem_of_getElem? (i := 334) (by decide +kernel), List.mem_of_getElem? (i := 335) (by decide +kernel)⟩
theorem lw_p9 : lw_okq (⟨"GearRoad$Tape", "figureAt", "(I)I"⟩, 5) := ⟨⟨by decide +kernel, by decide +kernel⟩, List.mem_of_getElem? (i := 40) (by decide +kernel), List.mem_of_getElem? (i := 338) (by decide +kernel), List.mem_of_getElem? (i := 339) (by decide +kernel)⟩
theorem lw_p10 : lw_okq (⟨"GearRoad$Tape", "readRings", "(LGearRoad$Bike;)V"⟩, 5) := ⟨⟨by decide +kernel, by decide +kernel⟩, List.mem_of_getElem? (i := 40) (by decide +kernel), List.mem_of_getElem? (i := 343) (by decide +kernel), List.mem_of_getElem? (i := 344) (by decide +kernel)⟩
theorem lw_p11 : lw_okq (⟨"GearRoad$Tape", "readCogs", "(LGearRoad$Bike;)V"⟩, 5) := ⟨⟨by decide +kernel, by decide +kernel⟩, List.mem_of_getElem? (i := 40) (by decide +kernel), List.mem_of_getElem? (i := 347) (by decide +kernel), List.mem_of_getElem? (i := 348) (by decide +kernel)⟩
theorem lw_p12 : lw_okq (⟨"GearRoad$Tape", "readPieces", "(LGearRoad$Bike;)V"⟩, 5) := ⟨⟨by decide +kernel, by decide +kernel⟩, List.mem_of_getElem? (i := 40) (by decide +kernel), List.mem_of_getElem? (i := 354) (by decide +kernel), List.mem_of_getElem? (i := 355) (by decide +kernel)⟩
theorem lw_p13 : lw_okq (⟨"GearRoad$Bike", "turn", "(I)V"⟩, 14) := ⟨⟨by decide +kernel, by decide +kernel⟩, List.mem_of_getElem? (i := 65) (by decide +kernel), List.mem_of_getElem? (i := 432) (by decide +kernel), List.mem_of_getElem? (i := 433) (by decide +kernel)⟩
theorem lw_p14 : lw_okq (⟨"GearRoad$Bike", "turnOnCog", "(I)V"⟩, 14) := ⟨⟨by decide +kernel, by decide +kernel⟩, List.mem_of_getElem? (i := 65) (by decide +kernel), List.mem_of_getElem? (i := 438) (by decide +kernel), List.mem_of_getElem? (i := 439) (by decide +kernel)⟩
theorem lw_p15 : lw_okq (⟨"GearRoad$Planner", "learnCosts", "(LGearRoad$Bike;)V"⟩, 2) := ⟨⟨by decide +kernel, by decide +kernel⟩, List.mem_of_getElem? (i := 166) (by decide +kernel), List.mem_of_getElem? (i := 557) (by decide +kernel), List.mem_of_getElem? (i := 558) (by decide +kernel)⟩
def lw_privs_1 : List (MethodName × Nat) := [(⟨"GearRoad", "found", "(I)I"⟩, 10), (⟨"GearRoad", "unfound", "(I)I"⟩, 10), (⟨"GearRoad$Tape", "readLaw", "(LGearRoad$Bike;)V"⟩, 5), (⟨"GearRoad$Tape", "next", "()I"⟩, 5), (⟨"GearRoad$Tape", "letterAt", "(I)I"⟩, 5), (⟨"GearRoad$Tape", "fail", "(I)V"⟩, 5), (⟨"GearRoad$Tape", "numberBehind", "(II)I"⟩, 5), (⟨"GearRoad$Tape", "takeNumber", "(II)I"⟩, 5), (⟨"GearRoad$Tape", "figuresHere", "()I"⟩, 5), (⟨"GearRoad$Tape", "figureAt", "(I)I"⟩, 5), (⟨"GearRoad$Tape", "readRings", "(LGearRoad$Bike;)V"⟩, 5), (⟨"GearRoad$Tape", "readCogs", "(LGearRoad$Bike;)V"⟩, 5), (⟨"GearRoad$Tape", "readPieces", "(LGearRoad$Bike;)V"⟩, 5), (⟨"GearRoad$Bike", "turn", "(I)V"⟩, 14), (⟨"GearRoad$Bike", "turnOnCog", "(I)V"⟩, 14), (⟨"GearRoad$Planner", "learnCosts", "(LGearRoad$Bike;)V"⟩, 2)]
theorem lw_r1 : ∀ q ∈ lw_privs_1, lw_okq q := List.forall_mem_cons.mpr ⟨lw_p0, List.forall_mem_cons.mpr ⟨lw_p1, List.forall_mem_cons.mpr ⟨lw_p2, List.forall_mem_cons.mpr ⟨lw_p3, List.forall_mem_cons.mpr ⟨lw_p4, List.forall_mem_cons.mpr ⟨lw_p5, List.forall_mem_cons.mpr ⟨lw_p6, List.forall_mem_cons.mpr ⟨lw_p7, List.forall_mem_cons.mpr ⟨lw_p8, List.forall_mem_cons.mpr ⟨lw_p9, List.forall_mem_cons.mpr ⟨lw_p10, List.forall_mem_cons.mpr ⟨lw_p11, List.forall_mem_cons.mpr ⟨lw_p12, List.forall_mem_cons.mpr ⟨lw_p13, List.forall_mem_cons.mpr ⟨lw_p14, List.forall_mem_cons.mpr ⟨lw_p15, fun _ h => absurd h List.not_mem_nil⟩⟩⟩⟩⟩⟩⟩⟩⟩⟩⟩⟩⟩⟩⟩⟩
theorem lw_p16 : lw_okq (⟨"GearRoad$Planner", "turnsFromRide", "(LGearRoad$Bike;II)I"⟩, 2) := ⟨⟨by decide +kernel, by decide +kernel⟩, List.mem_of_getElem? (i := 166) (by decide +kernel), List.mem_of_getElem? (i := 565) (by decide +kernel), List.mem_of_getElem? (i := 566) (by decide +kernel)⟩
theorem lw_p17 : lw_okq (⟨"GearRoad$Planner", "turnsOnward", "(LGearRoad$Bike;II)I"⟩, 2) := ⟨⟨by decide +kernel, by decide +kernel⟩, List.mem_of_getElem? (i := 166) (by decide +kernel), List.mem_of_getElem? (i := 571) (by decide +kernel), List.mem_of_getElem? (i := 572) (by decide +kernel)⟩
theorem lw_p18 : lw_okq (⟨"GearRoad$Planner", "bestGear", "(II)I"⟩, 2) := ⟨⟨by decide +kernel, by decide +kernel⟩, List.mem_of_getElem? (i := 166) (by decide +kernel), List.mem_of_getElem? (i := 575) (by decide +kernel), List.mem_of_getElem? (i := 576) (by decide +kernel)⟩
theorem lw_p19 : lw_okq (⟨"GearRoad$Planner", "turnsBy", "(III)I"⟩, 2) := ⟨⟨by decide +kernel, by decide +kernel⟩, List.mem_of_getElem? (i := 166) (by decide +kernel), List.mem_of_getElem? (i := 580) (by decide +kernel), List.mem_of_getElem? (i := 581) (by decide +kernel)⟩
theorem lw_p20 : lw_okq (⟨"GearRoad$Planner", "strainFromRide", "(LGearRoad$Bike;II)I"⟩, 2) := ⟨⟨by decide +kernel, by decide +kernel⟩, List.mem_of_getElem? (i := 166) (by decide +kernel), List.mem_of_getElem? (i := 603) (by decide +kernel), List.mem_of_getElem? (i := 604) (by decide +kernel)⟩
theorem lw_p21 : lw_okq (⟨"GearRoad$Planner", "strainOnward", "(LGearRoad$Bike;II)I"⟩, 2) := ⟨⟨by decide +kernel, by decide +kernel⟩, List.mem_of_getElem? (i := 166) (by decide +kernel), List.mem_of_getElem? (i := 609) (by decide +kernel), List.mem_of_getElem? (i := 610) (by decide +kernel)⟩
theorem lw_p22 : lw_okq (⟨"GearRoad$Bike", "compareGears", "(II)I"⟩, 14) := ⟨⟨by decide +kernel, by decide +kernel⟩, List.mem_of_getElem? (i := 65) (by decide +kernel), List.mem_of_getElem? (i := 626) (by decide +kernel), List.mem_of_getElem? (i := 627) (by decide +kernel)⟩
theorem lw_p23 : lw_okq (⟨"GearRoad", "sortsThatFit", "(II)I"⟩, 10) := ⟨⟨by decide +kernel, by decide +kernel⟩, List.mem_of_getElem? (i := 13) (by decide +kernel), List.mem_of_getElem? (i := 647) (by decide +kernel), List.mem_of_getElem? (i := 648) (by decide +kernel)⟩
theorem lw_p24 : lw_okq (⟨"GearRoad", "tells", "(IIIII)Z"⟩, 10) := ⟨⟨by decide +kernel, by decide +kernel⟩, List.mem_of_getElem? (i := 13) (by decide +kernel), List.mem_of_getElem? (i := 651) (by decide +kernel), List.mem_of_getElem? (i := 652) (by decide +kernel)⟩
theorem lw_p25 : lw_okq (⟨"GearRoad", "teethThatFit", "(IIZ)I"⟩, 10) := ⟨⟨by decide +kernel, by decide +kernel⟩, List.mem_of_getElem? (i := 13) (by decide +kernel), List.mem_of_getElem? (i := 659) (by decide +kernel), List.mem_of_getElem? (i := 660) (by decide +kernel)⟩
theorem lw_p26 : lw_okq (⟨"GearRoad", "strengthsThatFit", "(IIZ)I"⟩, 10) := ⟨⟨by decide +kernel, by decide +kernel⟩, List.mem_of_getElem? (i := 13) (by decide +kernel), List.mem_of_getElem? (i := 663) (by decide +kernel), List.mem_of_getElem? (i := 664) (by decide +kernel)⟩
theorem lw_p27 : lw_okq (⟨"GearRoad", "asked", "(III)I"⟩, 10) := ⟨⟨by decide +kernel, by decide +kernel⟩, List.mem_of_getElem? (i := 13) (by decide +kernel), List.mem_of_getElem? (i := 722) (by decide +kernel), List.mem_of_getElem? (i := 723) (by decide +kernel)⟩
theorem lw_p28 : lw_okq (⟨"GearRoad", "body", "(III)I"⟩, 10) := ⟨⟨by decide +kernel, by decide +kernel⟩, List.mem_of_getElem? (i := 13) (by decide +kernel), List.mem_of_getElem? (i := 730) (by decide +kernel), List.mem_of_getElem? (i := 731) (by decide +kernel)⟩
theorem lw_p29 : lw_okq (⟨"GearRoadModel", "found", "(I)I"⟩, 23) := ⟨⟨by decide +kernel, by decide +kernel⟩, List.mem_of_getElem? (i := 755) (by decide +kernel), List.mem_of_getElem? (i := 844) (by decide +kernel), List.mem_of_getElem? (i := 845) (by decide +kernel)⟩
theorem lw_p30 : lw_okq (⟨"GearRoadModel", "well", "(I)I"⟩, 23) := ⟨⟨by decide +kernel, by decide +kernel⟩, List.mem_of_getElem? (i := 755) (by decide +kernel), List.mem_of_getElem? (i := 849) (by decide +kernel), List.mem_of_getElem? (i := 850) (by decide +kernel)⟩
theorem lw_p31 : lw_okq (⟨"GearRoadModel", "areIn", "(III)Z"⟩, 23) := ⟨⟨by decide +kernel, by decide +kernel⟩, List.mem_of_getElem? (i := 755) (by decide +kernel), List.mem_of_getElem? (i := 864) (by decide +kernel), List.mem_of_getElem? (i := 865) (by decide +kernel)⟩
def lw_privs_2 : List (MethodName × Nat) := [(⟨"GearRoad$Planner", "turnsFromRide", "(LGearRoad$Bike;II)I"⟩, 2), (⟨"GearRoad$Planner", "turnsOnward", "(LGearRoad$Bike;II)I"⟩, 2), (⟨"GearRoad$Planner", "bestGear", "(II)I"⟩, 2), (⟨"GearRoad$Planner", "turnsBy", "(III)I"⟩, 2), (⟨"GearRoad$Planner", "strainFromRide", "(LGearRoad$Bike;II)I"⟩, 2), (⟨"GearRoad$Planner", "strainOnward", "(LGearRoad$Bike;II)I"⟩, 2), (⟨"GearRoad$Bike", "compareGears", "(II)I"⟩, 14), (⟨"GearRoad", "sortsThatFit", "(II)I"⟩, 10), (⟨"GearRoad", "tells", "(IIIII)Z"⟩, 10), (⟨"GearRoad", "teethThatFit", "(IIZ)I"⟩, 10), (⟨"GearRoad", "strengthsThatFit", "(IIZ)I"⟩, 10), (⟨"GearRoad", "asked", "(III)I"⟩, 10), (⟨"GearRoad", "body", "(III)I"⟩, 10), (⟨"GearRoadModel", "found", "(I)I"⟩, 23), (⟨"GearRoadModel", "well", "(I)I"⟩, 23), (⟨"GearRoadModel", "areIn", "(III)Z"⟩, 23)]
theorem lw_r2 : ∀ q ∈ lw_privs_2, lw_okq q := List.forall_mem_cons.mpr ⟨lw_p16, List.forall_mem_cons.mpr ⟨lw_p17, List.forall_mem_cons.mpr ⟨lw_p18, List.forall_mem_cons.mpr ⟨lw_p19, List.forall_mem_cons.mpr ⟨lw_p20, List.forall_mem_cons.mpr ⟨lw_p21, List.forall_mem_cons.mpr ⟨lw_p22, List.forall_mem_cons.mpr ⟨lw_p23, List.forall_mem_cons.mpr ⟨lw_p24, List.forall_mem_cons.mpr ⟨lw_p25, List.forall_mem_cons.mpr ⟨lw_p26, List.forall_mem_cons.mpr ⟨lw_p27, List.forall_mem_cons.mpr ⟨lw_p28, List.forall_mem_cons.mpr ⟨lw_p29, List.forall_mem_cons.mpr ⟨lw_p30, List.forall_mem_cons.mpr ⟨lw_p31, fun _ h => absurd h List.not_mem_nil⟩⟩⟩⟩⟩⟩⟩⟩⟩⟩⟩⟩⟩⟩⟩⟩
theorem lw_p32 : lw_okq (⟨"GearRoadModel", "step", "()V"⟩, 23) := ⟨⟨by decide +kernel, by decide +kernel⟩, List.mem_of_getElem? (i := 755) (by decide +kernel), List.mem_of_getElem? (i := 881) (by decide +kernel), List.mem_of_getElem? (i := 882) (by decide +kernel)⟩
theorem lw_p33 : lw_okq (⟨"GearRoadModel", "here", "()I"⟩, 23) := ⟨⟨by decide +kernel, by decide +kernel⟩, List.mem_of_getElem? (i := 755) (by decide +kernel), List.mem_of_getElem? (i := 885) (by decide +kernel), List.mem_of_getElem? (i := 886) (by decide +kernel)⟩
theorem lw_p34 : lw_okq (⟨"GearRoadModel", "readLaw", "()V"⟩, 23) := ⟨⟨by decide +kernel, by decide +kernel⟩, List.mem_of_getElem? (i := 755) (by decide +kernel), List.mem_of_getElem? (i := 889) (by decide +kernel), List.mem_of_getElem? (i := 890) (by decide +kernel)⟩
theorem lw_p35 : lw_okq (⟨"GearRoadModel", "isLetter", "(I)Z"⟩, 23) := ⟨⟨by decide +kernel, by decide +kernel⟩, List.mem_of_getElem? (i := 755) (by decide +kernel), List.mem_of_getElem? (i := 893) (by decide +kernel), List.mem_of_getElem? (i := 894) (by decide +kernel)⟩
theorem lw_p36 : lw_okq (⟨"GearRoadModel", "due", "(ZI)V"⟩, 23) := ⟨⟨by decide +kernel, by decide +kernel⟩, List.mem_of_getElem? (i := 755) (by decide +kernel), List.mem_of_getElem? (i := 897) (by decide +kernel), List.mem_of_getElem? (i := 898) (by decide +kernel)⟩
theorem lw_p37 : lw_okq (⟨"GearRoadModel", "told", "(II)I"⟩, 23) := ⟨⟨by decide +kernel, by decide +kernel⟩, List.mem_of_getElem? (i := 755) (by decide +kernel), List.mem_of_getElem? (i := 901) (by decide +kernel), List.mem_of_getElem? (i := 902) (by decide +kernel)⟩
theorem lw_p38 : lw_okq (⟨"GearRoadModel", "readRings", "()V"⟩, 23) := ⟨⟨by decide +kernel, by decide +kernel⟩, List.mem_of_getElem? (i := 755) (by decide +kernel), List.mem_of_getElem? (i := 905) (by decide +kernel), List.mem_of_getElem? (i := 906) (by decide +kernel)⟩
theorem lw_p39 : lw_okq (⟨"GearRoadModel", "readCogs", "()V"⟩, 23) := ⟨⟨by decide +kernel, by decide +kernel⟩, List.mem_of_getElem? (i := 755) (by decide +kernel), List.mem_of_getElem? (i := 909) (by decide +kernel), List.mem_of_getElem? (i := 910) (by decide +kernel)⟩
theorem lw_p40 : lw_okq (⟨"GearRoadModel", "cogSort", "()I"⟩, 23) := ⟨⟨by decide +kernel, by decide +kernel⟩, List.mem_of_getElem? (i := 755) (by decide +kernel), List.mem_of_getElem? (i := 913) (by decide +kernel), List.mem_of_getElem? (i := 914) (by decide +kernel)⟩
theorem lw_p41 : lw_okq (⟨"GearRoadModel", "readPieces", "()V"⟩, 23) := ⟨⟨by decide +kernel, by decide +kernel⟩, List.mem_of_getElem? (i := 755) (by decide +kernel), List.mem_of_getElem? (i := 917) (by decide +kernel), List.mem_of_getElem? (i := 918) (by decide +kernel)⟩
theorem lw_p42 : lw_okq (⟨"GearRoadModel", "know", "()V"⟩, 23) := ⟨⟨by decide +kernel, by decide +kernel⟩, List.mem_of_getElem? (i := 755) (by decide +kernel), List.mem_of_getElem? (i := 940) (by decide +kernel), List.mem_of_getElem? (i := 941) (by decide +kernel)⟩
theorem lw_p43 : lw_okq (⟨"GearRoadModel", "isCog", "(I)Z"⟩, 23) := ⟨⟨by decide +kernel, by decide +kernel⟩, List.mem_of_getElem? (i := 755) (by decide +kernel), List.mem_of_getElem? (i := 958) (by decide +kernel), List.mem_of_getElem? (i := 959) (by decide +kernel)⟩
theorem lw_p44 : lw_okq (⟨"GearRoadModel", "isPiece", "(I)Z"⟩, 23) := ⟨⟨by decide +kernel, by decide +kernel⟩, List.mem_of_getElem? (i := 755) (by decide +kernel), List.mem_of_getElem? (i := 987) (by decide +kernel), List.mem_of_getElem? (i := 988) (by decide +kernel)⟩
theorem lw_p45 : lw_okq (⟨"GearRoadModel", "isGear", "(I)Z"⟩, 23) := ⟨⟨by decide +kernel, by decide +kernel⟩, List.mem_of_getElem? (i := 755) (by decide +kernel), List.mem_of_getElem? (i := 1007) (by decide +kernel), List.mem_of_getElem? (i := 1008) (by decide +kernel)⟩
theorem lw_p46 : lw_okq (⟨"GearRoadModel", "costOf", "(III)I"⟩, 23) := ⟨⟨by decide +kernel, by decide +kernel⟩, List.mem_of_getElem? (i := 755) (by decide +kernel), List.mem_of_getElem? (i := 1023) (by decide +kernel), List.mem_of_getElem? (i := 1024) (by decide +kernel)⟩
theorem lw_p47 : lw_okq (⟨"GearRoadModel", "tellRest", "(I)V"⟩, 23) := ⟨⟨by decide +kernel, by decide +kernel⟩, List.mem_of_getElem? (i := 755) (by decide +kernel), List.mem_of_getElem? (i := 1032) (by decide +kernel), List.mem_of_getElem? (i := 1033) (by decide +kernel)⟩
def lw_privs_3 : List (MethodName × Nat) := [(⟨"GearRoadModel", "step", "()V"⟩, 23), (⟨"GearRoadModel", "here", "()I"⟩, 23), (⟨"GearRoadModel", "readLaw", "()V"⟩, 23), (⟨"GearRoadModel", "isLetter", "(I)Z"⟩, 23), (⟨"GearRoadModel", "due", "(ZI)V"⟩, 23), (⟨"GearRoadModel", "told", "(II)I"⟩, 23), (⟨"GearRoadModel", "readRings", "()V"⟩, 23), (⟨"GearRoadModel", "readCogs", "()V"⟩, 23), (⟨"GearRoadModel", "cogSort", "()I"⟩, 23), (⟨"GearRoadModel", "readPieces", "()V"⟩, 23), (⟨"GearRoadModel", "know", "()V"⟩, 23), (⟨"GearRoadModel", "isCog", "(I)Z"⟩, 23), (⟨"GearRoadModel", "isPiece", "(I)Z"⟩, 23), (⟨"GearRoadModel", "isGear", "(I)Z"⟩, 23), (⟨"GearRoadModel", "costOf", "(III)I"⟩, 23), (⟨"GearRoadModel", "tellRest", "(I)V"⟩, 23)]
theorem lw_r3 : ∀ q ∈ lw_privs_3, lw_okq q := List.forall_mem_cons.mpr ⟨lw_p32, List.forall_mem_cons.mpr ⟨lw_p33, List.forall_mem_cons.mpr ⟨lw_p34, List.forall_mem_cons.mpr ⟨lw_p35, List.forall_mem_cons.mpr ⟨lw_p36, List.forall_mem_cons.mpr ⟨lw_p37, List.forall_mem_cons.mpr ⟨lw_p38, List.forall_mem_cons.mpr ⟨lw_p39, List.forall_mem_cons.mpr ⟨lw_p40, List.forall_mem_cons.mpr ⟨lw_p41, List.forall_mem_cons.mpr ⟨lw_p42, List.forall_mem_cons.mpr ⟨lw_p43, List.forall_mem_cons.mpr ⟨lw_p44, List.forall_mem_cons.mpr ⟨lw_p45, List.forall_mem_cons.mpr ⟨lw_p46, List.forall_mem_cons.mpr ⟨lw_p47, fun _ h => absurd h List.not_mem_nil⟩⟩⟩⟩⟩⟩⟩⟩⟩⟩⟩⟩⟩⟩⟩⟩
theorem lw_p48 : lw_okq (⟨"GearRoadModel", "costBy", "(IIII)I"⟩, 23) := ⟨⟨by decide +kernel, by decide +kernel⟩, List.mem_of_getElem? (i := 755) (by decide +kernel), List.mem_of_getElem? (i := 1037) (by decide +kernel), List.mem_of_getElem? (i := 1038) (by decide +kernel)⟩
theorem lw_p49 : lw_okq (⟨"GearRoadModel", "take", "()V"⟩, 23) := ⟨⟨by decide +kernel, by decide +kernel⟩, List.mem_of_getElem? (i := 755) (by decide +kernel), List.mem_of_getElem? (i := 1057) (by decide +kernel), List.mem_of_getElem? (i := 1058) (by decide +kernel)⟩
theorem lw_p50 : lw_okq (⟨"GearRoadModel", "isSo", "(III)Z"⟩, 23) := ⟨⟨by decide +kernel, by decide +kernel⟩, List.mem_of_getElem? (i := 755) (by decide +kernel), List.mem_of_getElem? (i := 1061) (by decide +kernel), List.mem_of_getElem? (i := 1062) (by decide +kernel)⟩
theorem lw_p51 : lw_okq (⟨"GearRoadModel", "sizeOf", "(I)I"⟩, 23) := ⟨⟨by decide +kernel, by decide +kernel⟩, List.mem_of_getElem? (i := 755) (by decide +kernel), List.mem_of_getElem? (i := 1098) (by decide +kernel), List.mem_of_getElem? (i := 1099) (by decide +kernel)⟩
theorem lw_p52 : lw_okq (⟨"GearRoadModel", "leave", "(I)V"⟩, 23) := ⟨⟨by decide +kernel, by decide +kernel⟩, List.mem_of_getElem? (i := 755) (by decide +kernel), List.mem_of_getElem? (i := 1102) (by decide +kernel), List.mem_of_getElem? (i := 1103) (by decide +kernel)⟩
theorem lw_p53 : lw_okq (⟨"GearRoadModel", "body11", "(I)I"⟩, 23) := ⟨⟨by decide +kernel, by decide +kernel⟩, List.mem_of_getElem? (i := 755) (by decide +kernel), List.mem_of_getElem? (i := 1106) (by decide +kernel), List.mem_of_getElem? (i := 1107) (by decide +kernel)⟩
theorem lw_p54 : lw_okq (⟨"GearRoadModel", "body10", "(I)I"⟩, 23) := ⟨⟨by decide +kernel, by decide +kernel⟩, List.mem_of_getElem? (i := 755) (by decide +kernel), List.mem_of_getElem? (i := 1110) (by decide +kernel), List.mem_of_getElem? (i := 1111) (by decide +kernel)⟩
theorem lw_p55 : lw_okq (⟨"GearRoadModel", "markOfPlain", "(I)I"⟩, 23) := ⟨⟨by decide +kernel, by decide +kernel⟩, List.mem_of_getElem? (i := 755) (by decide +kernel), List.mem_of_getElem? (i := 1114) (by decide +kernel), List.mem_of_getElem? (i := 1115) (by decide +kernel)⟩
theorem lw_p56 : lw_okq (⟨"GearRoadModel", "body21", "(I)I"⟩, 23) := ⟨⟨by decide +kernel, by decide +kernel⟩, List.mem_of_getElem? (i := 755) (by decide +kernel), List.mem_of_getElem? (i := 1118) (by decide +kernel), List.mem_of_getElem? (i := 1119) (by decide +kernel)⟩
theorem lw_p57 : lw_okq (⟨"GearRoadModel", "body20", "(I)I"⟩, 23) := ⟨⟨by decide +kernel, by decide +kernel⟩, List.mem_of_getElem? (i := 755) (by decide +kernel), List.mem_of_getElem? (i := 1122) (by decide +kernel), List.mem_of_getElem? (i := 1123) (by decide +kernel)⟩
theorem lw_p58 : lw_okq (⟨"GearRoadModel", "body13", "(I)I"⟩, 23) := ⟨⟨by decide +kernel, by decide +kernel⟩, List.mem_of_getElem? (i := 755) (by decide +kernel), List.mem_of_getElem? (i := 1126) (by decide +kernel), List.mem_of_getElem? (i := 1127) (by decide +kernel)⟩
theorem lw_p59 : lw_okq (⟨"GearRoadModel", "markOf", "(I)I"⟩, 23) := ⟨⟨by decide +kernel, by decide +kernel⟩, List.mem_of_getElem? (i := 755) (by decide +kernel), List.mem_of_getElem? (i := 1130) (by decide +kernel), List.mem_of_getElem? (i := 1131) (by decide +kernel)⟩
def lw_privs_4 : List (MethodName × Nat) := [(⟨"GearRoadModel", "costBy", "(IIII)I"⟩, 23), (⟨"GearRoadModel", "take", "()V"⟩, 23), (⟨"GearRoadModel", "isSo", "(III)Z"⟩, 23), (⟨"GearRoadModel", "sizeOf", "(I)I"⟩, 23), (⟨"GearRoadModel", "leave", "(I)V"⟩, 23), (⟨"GearRoadModel", "body11", "(I)I"⟩, 23), (⟨"GearRoadModel", "body10", "(I)I"⟩, 23), (⟨"GearRoadModel", "markOfPlain", "(I)I"⟩, 23), (⟨"GearRoadModel", "body21", "(I)I"⟩, 23), (⟨"GearRoadModel", "body20", "(I)I"⟩, 23), (⟨"GearRoadModel", "body13", "(I)I"⟩, 23), (⟨"GearRoadModel", "markOf", "(I)I"⟩, 23)]
theorem lw_r4 : ∀ q ∈ lw_privs_4, lw_okq q := List.forall_mem_cons.mpr ⟨lw_p48, List.forall_mem_cons.mpr ⟨lw_p49, List.forall_mem_cons.mpr ⟨lw_p50, List.forall_mem_cons.mpr ⟨lw_p51, List.forall_mem_cons.mpr ⟨lw_p52, List.forall_mem_cons.mpr ⟨lw_p53, List.forall_mem_cons.mpr ⟨lw_p54, List.forall_mem_cons.mpr ⟨lw_p55, List.forall_mem_cons.mpr ⟨lw_p56, List.forall_mem_cons.mpr ⟨lw_p57, List.forall_mem_cons.mpr ⟨lw_p58, List.forall_mem_cons.mpr ⟨lw_p59, fun _ h => absurd h List.not_mem_nil⟩⟩⟩⟩⟩⟩⟩⟩⟩⟩⟩⟩
def lw_privs : List (MethodName × Nat) := lw_privs_1 ++ (lw_privs_2 ++ (lw_privs_3 ++ (lw_privs_4)))
def lw_tbl : List Cond := k2_sels lw_privs ++ tables_1
theorem lw_privs_ok : ∀ q ∈ lw_privs, lw_okq q := by
  show ∀ q ∈ lw_privs_1 ++ (lw_privs_2 ++ (lw_privs_3 ++ (lw_privs_4))), lw_okq q
  exact List.forall_mem_append.mpr ⟨lw_r1, List.forall_mem_append.mpr ⟨lw_r2, List.forall_mem_append.mpr ⟨lw_r3, lw_r4⟩⟩⟩
end
section
/-! ===== BEGIN words of one list among another's, by their places ===== -/
theorem goodIn_r {big : List Cond} (ws : List Cond) (ps : List Nat) (hp : ws = ps.filterMap (fun i => big[i]?)) (h : ws.all goodWord = true) : GoodIn big ws := by
  intro w hw
  have h1 := List.all_eq_true.mp h w hw
  rw [hp] at hw
  obtain ⟨i, -, hi⟩ := List.mem_filterMap.mp hw
  have hm : w ∈ big := by first | exact List.mem_of_getElem? hi | exact List.getElem?_mem hi
  exact ⟨hm, good_of_word h1⟩
theorem goodIn_app {big a b : List Cond} (ha : GoodIn big a) (hb : GoodIn big b) : GoodIn big (a ++ b) := fun w h => (List.mem_append.mp h).elim (ha w) (hb w)
theorem goodIn_ca {big a b : List Cond} {c : Cond} (ha : GoodIn big (c :: a)) (hb : GoodIn big b) : GoodIn big (c :: (a ++ b)) := fun w h => (List.mem_cons.mp h).elim (fun e => ha w (List.mem_cons.mpr (Or.inl e))) (fun h => (List.mem_append.mp h).elim (fun h => ha w (List.mem_cons.mpr (Or.inr h))) (hb w))
theorem goodIn_sub {big ws : List Cond} (hm : ∀ w ∈ ws, w ∈ big) (h : ws.all goodWord = true) : GoodIn big ws := fun w hw => ⟨hm w hw, good_of_word (List.all_eq_true.mp h w hw)⟩
/-! ===== END ===== -/

/-! ===== BEGIN printed: names, fields, word lists, decode rows ===== -/
def RX0 : String := "GearRoad$Acts"
def TX0 : u_T := fun k => match k with
  | 0 => ("GearRoad$Acts", "kept", "[I", true)
  | 1 => ("GearRoad$Acts", "size", "I", false)
  | _ => ("GearRoad$Acts", "nextPlace", "I", false)
def tyX0 : Nat → FieldType := fun k => match k with
  | 0 => .array .int
  | 1 => .int
  | _ => .int
abbrev wsX00 : List Cond := u_ws RX0 TX0 3
theorem nmX0 : ∀ a, a < 3 → ∀ b, b < 3 → a ≠ b → (TX0 a).2.1 ≠ (TX0 b).2.1 := by decide +kernel
theorem tyX0_ok : ∀ k, k < 3 → parseFieldDescriptor (TX0 k).2.2.1 = some (tyX0 k) := by decide +kernel
abbrev cX0_init : ByteArray := prog_2_method_1_code
def yX0_init : MethodName := ⟨RX0, "<init>", "()V"⟩
abbrev cX0_keep : ByteArray := prog_2_method_2_code
def yX0_keep : MethodName := ⟨RX0, "keep", "(LGearRoad$Bike;)V"⟩
abbrev cX0_takeBack : ByteArray := prog_2_method_3_code
def yX0_takeBack : MethodName := ⟨RX0, "takeBack", "(LGearRoad$Bike;)V"⟩
abbrev cX0_forget : ByteArray := prog_2_method_4_code
def yX0_forget : MethodName := ⟨RX0, "forget", "()V"⟩
def RX1 : String := "GearRoad$Bike"
def TX1 : u_T := fun k => match k with
  | 0 => ("GearRoad$Bike", "there", "Z", false)
  | 1 => ("GearRoad$Bike", "ringCount", "I", false)
  | 2 => ("GearRoad$Bike", "cogCount", "I", false)
  | 3 => ("GearRoad$Bike", "pieceCount", "I", false)
  | 4 => ("GearRoad$Bike", "strength", "I", false)
  | 5 => ("GearRoad$Bike", "ring", "I", false)
  | 6 => ("GearRoad$Bike", "cog", "I", false)
  | 7 => ("GearRoad$Bike", "piece", "I", false)
  | 8 => ("GearRoad$Bike", "turned", "I", false)
  | 9 => ("GearRoad$Bike", "rings", "[I", true)
  | 10 => ("GearRoad$Bike", "kinds", "[I", true)
  | 11 => ("GearRoad$Bike", "teeth", "[I", true)
  | 12 => ("GearRoad$Bike", "turnedOn", "[I", true)
  | _ => ("GearRoad$Bike", "slopes", "[I", true)
def tyX1 : Nat → FieldType := fun k => match k with
  | 0 => .boolean
  | 1 => .int
  | 2 => .int
  | 3 => .int
  | 4 => .int
  | 5 => .int
  | 6 => .int
  | 7 => .int
  | 8 => .int
  | 9 => .array .int
  | 10 => .array .int
  | 11 => .array .int
  | 12 => .array .int
  | _ => .array .int
abbrev wsX10 : List Cond := u_ws RX1 TX1 14
theorem nmX1 : ∀ a, a < 14 → ∀ b, b < 14 → a ≠ b → (TX1 a).2.1 ≠ (TX1 b).2.1 := by decide +kernel
theorem tyX1_ok : ∀ k, k < 14 → parseFieldDescriptor (TX1 k).2.2.1 = some (tyX1 k) := by decide +kernel
abbrev cX1_init : ByteArray := prog_3_method_1_code
def yX1_init : MethodName := ⟨RX1, "<init>", "()V"⟩
abbrev cX1_clear : ByteArray := prog_3_method_2_code
def yX1_clear : MethodName := ⟨RX1, "clear", "()V"⟩
abbrev cX1_takeFrom : ByteArray := prog_3_method_3_code
def yX1_takeFrom : MethodName := ⟨RX1, "takeFrom", "(LGearRoad$Bike;)V"⟩
abbrev cX1_hasRing : ByteArray := prog_3_method_4_code
def yX1_hasRing : MethodName := ⟨RX1, "hasRing", "(I)Z"⟩
abbrev cX1_hasCog : ByteArray := prog_3_method_5_code
def yX1_hasCog : MethodName := ⟨RX1, "hasCog", "(I)Z"⟩
abbrev cX1_hasPiece : ByteArray := prog_3_method_6_code
def yX1_hasPiece : MethodName := ⟨RX1, "hasPiece", "(I)Z"⟩
abbrev cX1_hasGear : ByteArray := prog_3_method_7_code
def yX1_hasGear : MethodName := ⟨RX1, "hasGear", "(I)Z"⟩
abbrev cX1_gear : ByteArray := prog_3_method_8_code
def yX1_gear : MethodName := ⟨RX1, "gear", "()I"⟩
abbrev cX1_loadBy : ByteArray := prog_3_method_9_code
def yX1_loadBy : MethodName := ⟨RX1, "loadBy", "(IIII)I"⟩
abbrev cX1_turnsBy : ByteArray := prog_3_method_10_code
def yX1_turnsBy : MethodName := ⟨RX1, "turnsBy", "(III)I"⟩
abbrev cX1_loadOf : ByteArray := prog_3_method_11_code
def yX1_loadOf : MethodName := ⟨RX1, "loadOf", "(II)I"⟩
abbrev cX1_turnsOf : ByteArray := prog_3_method_12_code
def yX1_turnsOf : MethodName := ⟨RX1, "turnsOf", "(I)I"⟩
abbrev cX1_bears : ByteArray := prog_3_method_13_code
def yX1_bears : MethodName := ⟨RX1, "bears", "(II)Z"⟩
abbrev cX1_gearsBorne : ByteArray := prog_3_method_14_code
def yX1_gearsBorne : MethodName := ⟨RX1, "gearsBorne", "(I)I"⟩
abbrev cX1_turnsAhead : ByteArray := prog_3_method_15_code
def yX1_turnsAhead : MethodName := ⟨RX1, "turnsAhead", "(IIII)I"⟩
abbrev cX1_tenthsBorne : ByteArray := prog_3_method_16_code
def yX1_tenthsBorne : MethodName := ⟨RX1, "tenthsBorne", "(II)I"⟩
abbrev cX1_canRide : ByteArray := prog_3_method_17_code
def yX1_canRide : MethodName := ⟨RX1, "canRide", "()Z"⟩
abbrev cX1_rideOn : ByteArray := prog_3_method_18_code
def yX1_rideOn : MethodName := ⟨RX1, "rideOn", "()I"⟩
abbrev cX1_canShift : ByteArray := prog_3_method_19_code
def yX1_canShift : MethodName := ⟨RX1, "canShift", "(I)Z"⟩
abbrev cX1_shiftCog : ByteArray := prog_3_method_20_code
def yX1_shiftCog : MethodName := ⟨RX1, "shiftCog", "(I)V"⟩
abbrev cX1_shiftRing : ByteArray := prog_3_method_21_code
def yX1_shiftRing : MethodName := ⟨RX1, "shiftRing", "(I)V"⟩
abbrev cX1_mayLeave : ByteArray := prog_3_method_22_code
def yX1_mayLeave : MethodName := ⟨RX1, "mayLeave", "(II)Z"⟩
abbrev cX1_turnsOnto : ByteArray := prog_3_method_23_code
def yX1_turnsOnto : MethodName := ⟨RX1, "turnsOnto", "(I)I"⟩
abbrev cX1_turn : ByteArray := prog_3_method_24_code
def yX1_turn : MethodName := ⟨RX1, "turn", "(I)V"⟩
abbrev cX1_turnOnCog : ByteArray := prog_3_method_25_code
def yX1_turnOnCog : MethodName := ⟨RX1, "turnOnCog", "(I)V"⟩
abbrev cX1_turnAbout : ByteArray := prog_3_method_26_code
def yX1_turnAbout : MethodName := ⟨RX1, "turnAbout", "()V"⟩
abbrev cX1_shiftCost : ByteArray := prog_3_method_27_code
def yX1_shiftCost : MethodName := ⟨RX1, "shiftCost", "(III)I"⟩
abbrev cX1_ringCost : ByteArray := prog_3_method_28_code
def yX1_ringCost : MethodName := ⟨RX1, "ringCost", "(II)I"⟩
abbrev cX1_cogCost : ByteArray := prog_3_method_29_code
def yX1_cogCost : MethodName := ⟨RX1, "cogCost", "(III)I"⟩
abbrev cX1_lighterThan : ByteArray := prog_3_method_30_code
def yX1_lighterThan : MethodName := ⟨RX1, "lighterThan", "(I)I"⟩
abbrev cX1_alike : ByteArray := prog_3_method_31_code
def yX1_alike : MethodName := ⟨RX1, "alike", "(I)I"⟩
abbrev cX1_compareGears : ByteArray := prog_3_method_32_code
def yX1_compareGears : MethodName := ⟨RX1, "compareGears", "(II)I"⟩
abbrev cX1_shareOf : ByteArray := prog_3_method_33_code
def yX1_shareOf : MethodName := ⟨RX1, "shareOf", "(II)I"⟩
def RX2 : String := "GearRoad$Planner"
def TX2 : u_T := fun k => match k with
  | 0 => ("GearRoad$Planner", "costs", "[I", true)
  | _ => ("GearRoad$Planner", "needs", "[I", true)
def tyX2 : Nat → FieldType := fun k => match k with
  | 0 => .array .int
  | _ => .array .int
abbrev wsX20 : List Cond := u_ws RX2 TX2 2
theorem nmX2 : ∀ a, a < 2 → ∀ b, b < 2 → a ≠ b → (TX2 a).2.1 ≠ (TX2 b).2.1 := by decide +kernel
theorem tyX2_ok : ∀ k, k < 2 → parseFieldDescriptor (TX2 k).2.2.1 = some (tyX2 k) := by decide +kernel
abbrev cX2_init : ByteArray := prog_4_method_1_code
def yX2_init : MethodName := ⟨RX2, "<init>", "()V"⟩
abbrev cX2_foreseeTurns : ByteArray := prog_4_method_2_code
def yX2_foreseeTurns : MethodName := ⟨RX2, "foreseeTurns", "(LGearRoad$Bike;)V"⟩
abbrev cX2_fewestTurns : ByteArray := prog_4_method_3_code
def yX2_fewestTurns : MethodName := ⟨RX2, "fewestTurns", "(LGearRoad$Bike;)I"⟩
abbrev cX2_gearAhead : ByteArray := prog_4_method_4_code
def yX2_gearAhead : MethodName := ⟨RX2, "gearAhead", "(LGearRoad$Bike;I)I"⟩
abbrev cX2_turnsFromRide : ByteArray := prog_4_method_5_code
def yX2_turnsFromRide : MethodName := ⟨RX2, "turnsFromRide", "(LGearRoad$Bike;II)I"⟩
abbrev cX2_turnsOnward : ByteArray := prog_4_method_6_code
def yX2_turnsOnward : MethodName := ⟨RX2, "turnsOnward", "(LGearRoad$Bike;II)I"⟩
abbrev cX2_bestGear : ByteArray := prog_4_method_7_code
def yX2_bestGear : MethodName := ⟨RX2, "bestGear", "(II)I"⟩
abbrev cX2_turnsBy : ByteArray := prog_4_method_8_code
def yX2_turnsBy : MethodName := ⟨RX2, "turnsBy", "(III)I"⟩
abbrev cX2_leastStrain : ByteArray := prog_4_method_9_code
def yX2_leastStrain : MethodName := ⟨RX2, "leastStrain", "(LGearRoad$Bike;)I"⟩
abbrev cX2_strainFromRide : ByteArray := prog_4_method_10_code
def yX2_strainFromRide : MethodName := ⟨RX2, "strainFromRide", "(LGearRoad$Bike;II)I"⟩
abbrev cX2_strainOnward : ByteArray := prog_4_method_11_code
def yX2_strainOnward : MethodName := ⟨RX2, "strainOnward", "(LGearRoad$Bike;II)I"⟩
abbrev cX2_learnCosts : ByteArray := prog_4_method_12_code
def yX2_learnCosts : MethodName := ⟨RX2, "learnCosts", "(LGearRoad$Bike;)V"⟩
abbrev cX2_costPlace : ByteArray := prog_4_method_13_code
def yX2_costPlace : MethodName := ⟨RX2, "costPlace", "(III)I"⟩
def RX3 : String := "GearRoad$Rows"
def TX3 : u_T := fun k => match k with
  | 0 => ("GearRoad$Rows", "lanes", "[I", true)
  | 1 => ("GearRoad$Rows", "sizes", "[I", true)
  | _ => ("GearRoad$Rows", "items", "[I", true)
def tyX3 : Nat → FieldType := fun k => match k with
  | 0 => .array .int
  | 1 => .array .int
  | _ => .array .int
abbrev wsX30 : List Cond := u_ws RX3 TX3 3
theorem nmX3 : ∀ a, a < 3 → ∀ b, b < 3 → a ≠ b → (TX3 a).2.1 ≠ (TX3 b).2.1 := by decide +kernel
theorem tyX3_ok : ∀ k, k < 3 → parseFieldDescriptor (TX3 k).2.2.1 = some (tyX3 k) := by decide +kernel
abbrev cX3_init : ByteArray := prog_5_method_1_code
def yX3_init : MethodName := ⟨RX3, "<init>", "()V"⟩
abbrev cX3_isRow : ByteArray := prog_5_method_2_code
def yX3_isRow : MethodName := ⟨RX3, "isRow", "(I)Z"⟩
abbrev cX3_placeOf : ByteArray := prog_5_method_3_code
def yX3_placeOf : MethodName := ⟨RX3, "placeOf", "(II)I"⟩
abbrev cX3_isMissing : ByteArray := prog_5_method_4_code
def yX3_isMissing : MethodName := ⟨RX3, "isMissing", "(I)Z"⟩
abbrev cX3_reaches : ByteArray := prog_5_method_5_code
def yX3_reaches : MethodName := ⟨RX3, "reaches", "(III)Z"⟩
abbrev cX3_make : ByteArray := prog_5_method_6_code
def yX3_make : MethodName := ⟨RX3, "make", "(III)V"⟩
abbrev cX3_put : ByteArray := prog_5_method_7_code
def yX3_put : MethodName := ⟨RX3, "put", "(III)I"⟩
abbrev cX3_move : ByteArray := prog_5_method_8_code
def yX3_move : MethodName := ⟨RX3, "move", "(IIIII)V"⟩
abbrev cX3_remove : ByteArray := prog_5_method_9_code
def yX3_remove : MethodName := ⟨RX3, "remove", "(I)I"⟩
abbrev cX3_howMany : ByteArray := prog_5_method_10_code
def yX3_howMany : MethodName := ⟨RX3, "howMany", "()I"⟩
def RX4 : String := "GearRoad$Tape"
def TX4 : u_T := fun k => match k with
  | 0 => ("GearRoad$Tape", "bytes", "[I", true)
  | 1 => ("GearRoad$Tape", "size", "I", false)
  | 2 => ("GearRoad$Tape", "at", "I", false)
  | 3 => ("GearRoad$Tape", "fault", "I", false)
  | _ => ("GearRoad$Tape", "place", "I", false)
def tyX4 : Nat → FieldType := fun k => match k with
  | 0 => .array .int
  | 1 => .int
  | 2 => .int
  | 3 => .int
  | _ => .int
abbrev wsX40 : List Cond := u_ws RX4 TX4 5
theorem nmX4 : ∀ a, a < 5 → ∀ b, b < 5 → a ≠ b → (TX4 a).2.1 ≠ (TX4 b).2.1 := by decide +kernel
theorem tyX4_ok : ∀ k, k < 5 → parseFieldDescriptor (TX4 k).2.2.1 = some (tyX4 k) := by decide +kernel
abbrev cX4_init : ByteArray := prog_6_method_1_code
def yX4_init : MethodName := ⟨RX4, "<init>", "()V"⟩
abbrev cX4_add : ByteArray := prog_6_method_2_code
def yX4_add : MethodName := ⟨RX4, "add", "(I)V"⟩
abbrev cX4_read : ByteArray := prog_6_method_3_code
def yX4_read : MethodName := ⟨RX4, "read", "(LGearRoad$Bike;)V"⟩
abbrev cX4_readLaw : ByteArray := prog_6_method_4_code
def yX4_readLaw : MethodName := ⟨RX4, "readLaw", "(LGearRoad$Bike;)V"⟩
abbrev cX4_readRings : ByteArray := prog_6_method_5_code
def yX4_readRings : MethodName := ⟨RX4, "readRings", "(LGearRoad$Bike;)V"⟩
abbrev cX4_readCogs : ByteArray := prog_6_method_6_code
def yX4_readCogs : MethodName := ⟨RX4, "readCogs", "(LGearRoad$Bike;)V"⟩
abbrev cX4_readPieces : ByteArray := prog_6_method_7_code
def yX4_readPieces : MethodName := ⟨RX4, "readPieces", "(LGearRoad$Bike;)V"⟩
abbrev cX4_sortOf : ByteArray := prog_6_method_8_code
def yX4_sortOf : MethodName := ⟨RX4, "sortOf", "(I)I"⟩
abbrev cX4_numberBehind : ByteArray := prog_6_method_9_code
def yX4_numberBehind : MethodName := ⟨RX4, "numberBehind", "(II)I"⟩
abbrev cX4_takeNumber : ByteArray := prog_6_method_10_code
def yX4_takeNumber : MethodName := ⟨RX4, "takeNumber", "(II)I"⟩
abbrev cX4_figuresHere : ByteArray := prog_6_method_11_code
def yX4_figuresHere : MethodName := ⟨RX4, "figuresHere", "()I"⟩
abbrev cX4_figureAt : ByteArray := prog_6_method_12_code
def yX4_figureAt : MethodName := ⟨RX4, "figureAt", "(I)I"⟩
abbrev cX4_next : ByteArray := prog_6_method_13_code
def yX4_next : MethodName := ⟨RX4, "next", "()I"⟩
abbrev cX4_letterAt : ByteArray := prog_6_method_14_code
def yX4_letterAt : MethodName := ⟨RX4, "letterAt", "(I)I"⟩
abbrev cX4_fail : ByteArray := prog_6_method_15_code
def yX4_fail : MethodName := ⟨RX4, "fail", "(I)V"⟩
def RX5 : String := "GearRoad$Trace"
def TX5 : u_T := fun k => match k with
  | 0 => ("GearRoad$Trace", "numbers", "[I", true)
  | _ => ("GearRoad$Trace", "size", "I", false)
def tyX5 : Nat → FieldType := fun k => match k with
  | 0 => .array .int
  | _ => .int
abbrev wsX50 : List Cond := u_ws RX5 TX5 2
theorem nmX5 : ∀ a, a < 2 → ∀ b, b < 2 → a ≠ b → (TX5 a).2.1 ≠ (TX5 b).2.1 := by decide +kernel
theorem tyX5_ok : ∀ k, k < 2 → parseFieldDescriptor (TX5 k).2.2.1 = some (tyX5 k) := by decide +kernel
abbrev cX5_init : ByteArray := prog_7_method_1_code
def yX5_init : MethodName := ⟨RX5, "<init>", "()V"⟩
abbrev cX5_leave : ByteArray := prog_7_method_2_code
def yX5_leave : MethodName := ⟨RX5, "leave", "(I)V"⟩
def RX6 : String := "GearRoad"
def TX6 : u_T := fun k => match k with
  | 0 => ("GearRoad", "rows", "LGearRoad$Rows;", true)
  | 1 => ("GearRoad", "tape", "LGearRoad$Tape;", true)
  | 2 => ("GearRoad", "bike", "LGearRoad$Bike;", true)
  | 3 => ("GearRoad", "spare", "LGearRoad$Bike;", true)
  | 4 => ("GearRoad", "images", "[LGearRoad$Bike;", true)
  | 5 => ("GearRoad", "acts", "LGearRoad$Acts;", true)
  | 6 => ("GearRoad", "planner", "LGearRoad$Planner;", true)
  | 7 => ("GearRoad", "left", "LGearRoad$Trace;", true)
  | 8 => ("GearRoad", "finding", "I", false)
  | _ => ("GearRoad", "latestFault", "I", false)
def tyX6 : Nat → FieldType := fun k => match k with
  | 0 => .object "GearRoad$Rows"
  | 1 => .object "GearRoad$Tape"
  | 2 => .object "GearRoad$Bike"
  | 3 => .object "GearRoad$Bike"
  | 4 => .array (.object "GearRoad$Bike")
  | 5 => .object "GearRoad$Acts"
  | 6 => .object "GearRoad$Planner"
  | 7 => .object "GearRoad$Trace"
  | 8 => .int
  | _ => .int
abbrev wsX60 : List Cond := u_ws RX6 TX6 10
theorem nmX6 : ∀ a, a < 10 → ∀ b, b < 10 → a ≠ b → (TX6 a).2.1 ≠ (TX6 b).2.1 := by decide +kernel
theorem tyX6_ok : ∀ k, k < 10 → parseFieldDescriptor (TX6 k).2.2.1 = some (tyX6 k) := by decide +kernel
abbrev cX6_init : ByteArray := prog_1_method_1_code
def yX6_init : MethodName := ⟨RX6, "<init>", "()V"⟩
abbrev cX6_row : ByteArray := prog_1_method_2_code
def yX6_row : MethodName := ⟨RX6, "row", "(III)I"⟩
abbrev cX6_set : ByteArray := prog_1_method_3_code
def yX6_set : MethodName := ⟨RX6, "set", "(III)I"⟩
abbrev cX6_copy : ByteArray := prog_1_method_4_code
def yX6_copy : MethodName := ⟨RX6, "copy", "(IIIII)I"⟩
abbrev cX6_drop : ByteArray := prog_1_method_5_code
def yX6_drop : MethodName := ⟨RX6, "drop", "(I)I"⟩
abbrev cX6_feed : ByteArray := prog_1_method_6_code
def yX6_feed : MethodName := ⟨RX6, "feed", "(I)I"⟩
abbrev cX6_bike : ByteArray := prog_1_method_7_code
def yX6_bike : MethodName := ⟨RX6, "bike", "()I"⟩
abbrev cX6_fault : ByteArray := prog_1_method_8_code
def yX6_fault : MethodName := ⟨RX6, "fault", "()I"⟩
abbrev cX6_ride : ByteArray := prog_1_method_9_code
def yX6_ride : MethodName := ⟨RX6, "ride", "()I"⟩
abbrev cX6_shift : ByteArray := prog_1_method_10_code
def yX6_shift : MethodName := ⟨RX6, "shift", "(I)I"⟩
abbrev cX6_front : ByteArray := prog_1_method_11_code
def yX6_front : MethodName := ⟨RX6, "front", "(I)I"⟩
abbrev cX6_about : ByteArray := prog_1_method_12_code
def yX6_about : MethodName := ⟨RX6, "about", "()I"⟩
abbrev cX6_strength : ByteArray := prog_1_method_13_code
def yX6_strength : MethodName := ⟨RX6, "strength", "(I)I"⟩
abbrev cX6_slope : ByteArray := prog_1_method_14_code
def yX6_slope : MethodName := ⟨RX6, "slope", "(II)I"⟩
abbrev cX6_undo : ByteArray := prog_1_method_15_code
def yX6_undo : MethodName := ⟨RX6, "undo", "()I"⟩
abbrev cX6_cog : ByteArray := prog_1_method_16_code
def yX6_cog : MethodName := ⟨RX6, "cog", "(II)I"⟩
abbrev cX6_ring : ByteArray := prog_1_method_17_code
def yX6_ring : MethodName := ⟨RX6, "ring", "(I)I"⟩
abbrev cX6_piece : ByteArray := prog_1_method_18_code
def yX6_piece : MethodName := ⟨RX6, "piece", "(II)I"⟩
abbrev cX6_load : ByteArray := prog_1_method_19_code
def yX6_load : MethodName := ⟨RX6, "load", "(II)I"⟩
abbrev cX6_rounds : ByteArray := prog_1_method_20_code
def yX6_rounds : MethodName := ⟨RX6, "rounds", "(I)I"⟩
abbrev cX6_cost : ByteArray := prog_1_method_21_code
def yX6_cost : MethodName := ⟨RX6, "cost", "(II)I"⟩
abbrev cX6_plan : ByteArray := prog_1_method_22_code
def yX6_plan : MethodName := ⟨RX6, "plan", "(I)I"⟩
abbrev cX6_least : ByteArray := prog_1_method_23_code
def yX6_least : MethodName := ⟨RX6, "least", "()I"⟩
abbrev cX6_rank : ByteArray := prog_1_method_24_code
def yX6_rank : MethodName := ⟨RX6, "rank", "(II)I"⟩
abbrev cX6_share : ByteArray := prog_1_method_25_code
def yX6_share : MethodName := ⟨RX6, "share", "(II)I"⟩
abbrev cX6_fits : ByteArray := prog_1_method_26_code
def yX6_fits : MethodName := ⟨RX6, "fits", "(IIII)I"⟩
abbrev cX6_chance : ByteArray := prog_1_method_27_code
def yX6_chance : MethodName := ⟨RX6, "chance", "(II)I"⟩
abbrev cX6_drawn : ByteArray := prog_1_method_28_code
def yX6_drawn : MethodName := ⟨RX6, "drawn", "(III)I"⟩
abbrev cX6_image : ByteArray := prog_1_method_29_code
def yX6_image : MethodName := ⟨RX6, "image", "(I)I"⟩
abbrev cX6_restore : ByteArray := prog_1_method_30_code
def yX6_restore : MethodName := ⟨RX6, "restore", "(I)I"⟩
abbrev cX6_kind : ByteArray := prog_1_method_31_code
def yX6_kind : MethodName := ⟨RX6, "kind", "(I)I"⟩
abbrev cX6_as : ByteArray := prog_1_method_32_code
def yX6_as : MethodName := ⟨RX6, "as", "(II)I"⟩
abbrev cX6_ask : ByteArray := prog_1_method_33_code
def yX6_ask : MethodName := ⟨RX6, "ask", "(II)I"⟩
abbrev cX6_trace : ByteArray := prog_1_method_34_code
def yX6_trace : MethodName := ⟨RX6, "trace", "(I)I"⟩
abbrev cX6_count : ByteArray := prog_1_method_35_code
def yX6_count : MethodName := ⟨RX6, "count", "(I)I"⟩
abbrev cX6_status : ByteArray := prog_1_method_36_code
def yX6_status : MethodName := ⟨RX6, "status", "()I"⟩
abbrev cX6_within : ByteArray := prog_1_method_37_code
def yX6_within : MethodName := ⟨RX6, "within", "(III)Z"⟩
abbrev cX6_found : ByteArray := prog_1_method_38_code
def yX6_found : MethodName := ⟨RX6, "found", "(I)I"⟩
abbrev cX6_unfound : ByteArray := prog_1_method_39_code
def yX6_unfound : MethodName := ⟨RX6, "unfound", "(I)I"⟩
abbrev cX6_commonDivisor : ByteArray := prog_1_method_40_code
def yX6_commonDivisor : MethodName := ⟨RX6, "commonDivisor", "(II)I"⟩
abbrev cX6_sortsThatFit : ByteArray := prog_1_method_41_code
def yX6_sortsThatFit : MethodName := ⟨RX6, "sortsThatFit", "(II)I"⟩
abbrev cX6_teethThatFit : ByteArray := prog_1_method_42_code
def yX6_teethThatFit : MethodName := ⟨RX6, "teethThatFit", "(IIZ)I"⟩
abbrev cX6_strengthsThatFit : ByteArray := prog_1_method_43_code
def yX6_strengthsThatFit : MethodName := ⟨RX6, "strengthsThatFit", "(IIZ)I"⟩
abbrev cX6_tells : ByteArray := prog_1_method_44_code
def yX6_tells : MethodName := ⟨RX6, "tells", "(IIIII)Z"⟩
abbrev cX6_shiftByDraw : ByteArray := prog_1_method_45_code
def yX6_shiftByDraw : MethodName := ⟨RX6, "shiftByDraw", "(LGearRoad$Bike;J)V"⟩
abbrev cX6_shiftIfMay : ByteArray := prog_1_method_46_code
def yX6_shiftIfMay : MethodName := ⟨RX6, "shiftIfMay", "(LGearRoad$Bike;I)V"⟩
abbrev cX6_goOn : ByteArray := prog_1_method_47_code
def yX6_goOn : MethodName := ⟨RX6, "goOn", "(LGearRoad$Bike;)I"⟩
abbrev cX6_isOfKind : ByteArray := prog_1_method_48_code
def yX6_isOfKind : MethodName := ⟨RX6, "isOfKind", "(II)Z"⟩
abbrev cX6_asked : ByteArray := prog_1_method_49_code
def yX6_asked : MethodName := ⟨RX6, "asked", "(III)I"⟩
abbrev cX6_body : ByteArray := prog_1_method_50_code
def yX6_body : MethodName := ⟨RX6, "body", "(III)I"⟩
def RX7 : String := "GearRoadModel"
def TX7 : u_T := fun k => match k with
  | 0 => ("GearRoadModel", "lane", "[I", true)
  | 1 => ("GearRoadModel", "many", "[I", true)
  | 2 => ("GearRoadModel", "items", "[I", true)
  | 3 => ("GearRoadModel", "status", "I", false)
  | 4 => ("GearRoadModel", "moved", "[I", true)
  | 5 => ("GearRoadModel", "isThere", "Z", false)
  | 6 => ("GearRoadModel", "now", "[I", true)
  | 7 => ("GearRoadModel", "tried", "[I", true)
  | 8 => ("GearRoadModel", "before", "[I", true)
  | 9 => ("GearRoadModel", "acts", "I", false)
  | 10 => ("GearRoadModel", "images", "[I", true)
  | 11 => ("GearRoadModel", "isKept", "[Z", true)
  | 12 => ("GearRoadModel", "tape", "[B", true)
  | 13 => ("GearRoadModel", "typed", "I", false)
  | 14 => ("GearRoadModel", "fault", "I", false)
  | 15 => ("GearRoadModel", "at", "I", false)
  | 16 => ("GearRoadModel", "start", "I", false)
  | 17 => ("GearRoadModel", "sort", "I", false)
  | 18 => ("GearRoadModel", "value", "I", false)
  | 19 => ("GearRoadModel", "wrong", "I", false)
  | 20 => ("GearRoadModel", "rest", "[I", true)
  | 21 => ("GearRoadModel", "trace", "[I", true)
  | _ => ("GearRoadModel", "traced", "I", false)
def tyX7 : Nat → FieldType := fun k => match k with
  | 0 => .array .int
  | 1 => .array .int
  | 2 => .array .int
  | 3 => .int
  | 4 => .array .int
  | 5 => .boolean
  | 6 => .array .int
  | 7 => .array .int
  | 8 => .array .int
  | 9 => .int
  | 10 => .array .int
  | 11 => .array .boolean
  | 12 => .array .byte
  | 13 => .int
  | 14 => .int
  | 15 => .int
  | 16 => .int
  | 17 => .int
  | 18 => .int
  | 19 => .int
  | 20 => .array .int
  | 21 => .array .int
  | _ => .int
abbrev wsX70 : List Cond := u_ws RX7 TX7 23
theorem nmX7 : ∀ a, a < 23 → ∀ b, b < 23 → a ≠ b → (TX7 a).2.1 ≠ (TX7 b).2.1 := by decide +kernel
theorem tyX7_ok : ∀ k, k < 23 → parseFieldDescriptor (TX7 k).2.2.1 = some (tyX7 k) := by decide +kernel
abbrev cX7_init : ByteArray := prog_9_method_1_code
def yX7_init : MethodName := ⟨RX7, "<init>", "()V"⟩
abbrev cX7_in : ByteArray := prog_9_method_3_code
def yX7_in : MethodName := ⟨RX7, "in", "(III)Z"⟩
abbrev cX7_found : ByteArray := prog_9_method_5_code
def yX7_found : MethodName := ⟨RX7, "found", "(I)I"⟩
abbrev cX7_well : ByteArray := prog_9_method_6_code
def yX7_well : MethodName := ⟨RX7, "well", "(I)I"⟩
abbrev cX7_isRow : ByteArray := prog_9_method_7_code
def yX7_isRow : MethodName := ⟨RX7, "isRow", "(I)Z"⟩
abbrev cX7_row : ByteArray := prog_9_method_8_code
def yX7_row : MethodName := ⟨RX7, "row", "(III)I"⟩
abbrev cX7_lowest : ByteArray := prog_9_method_9_code
def yX7_lowest : MethodName := ⟨RX7, "lowest", "(II)I"⟩
abbrev cX7_set : ByteArray := prog_9_method_10_code
def yX7_set : MethodName := ⟨RX7, "set", "(III)I"⟩
abbrev cX7_areIn : ByteArray := prog_9_method_11_code
def yX7_areIn : MethodName := ⟨RX7, "areIn", "(III)Z"⟩
abbrev cX7_copy : ByteArray := prog_9_method_12_code
def yX7_copy : MethodName := ⟨RX7, "copy", "(IIIII)I"⟩
abbrev cX7_drop : ByteArray := prog_9_method_13_code
def yX7_drop : MethodName := ⟨RX7, "drop", "(I)I"⟩
abbrev cX7_take : ByteArray := prog_9_method_14_code
def yX7_take : MethodName := ⟨RX7, "take", "()V"⟩
abbrev cX7_know : ByteArray := prog_9_method_15_code
def yX7_know : MethodName := ⟨RX7, "know", "()V"⟩
abbrev cX7_isCog : ByteArray := prog_9_method_16_code
def yX7_isCog : MethodName := ⟨RX7, "isCog", "(I)Z"⟩
abbrev cX7_isPiece : ByteArray := prog_9_method_17_code
def yX7_isPiece : MethodName := ⟨RX7, "isPiece", "(I)Z"⟩
abbrev cX7_isGear : ByteArray := prog_9_method_18_code
def yX7_isGear : MethodName := ⟨RX7, "isGear", "(I)Z"⟩
abbrev cX7_gearOf : ByteArray := prog_9_method_19_code
def yX7_gearOf : MethodName := ⟨RX7, "gearOf", "([I)I"⟩
abbrev cX7_loadOf : ByteArray := prog_9_method_20_code
def yX7_loadOf : MethodName := ⟨RX7, "loadOf", "([III)I"⟩
abbrev cX7_turnsOf : ByteArray := prog_9_method_21_code
def yX7_turnsOf : MethodName := ⟨RX7, "turnsOf", "([II)I"⟩
abbrev cX7_bears : ByteArray := prog_9_method_22_code
def yX7_bears : MethodName := ⟨RX7, "bears", "([III)Z"⟩
abbrev cX7_shiftOnto : ByteArray := prog_9_method_23_code
def yX7_shiftOnto : MethodName := ⟨RX7, "shiftOnto", "([II)I"⟩
abbrev cX7_canLeave : ByteArray := prog_9_method_24_code
def yX7_canLeave : MethodName := ⟨RX7, "canLeave", "([III)Z"⟩
abbrev cX7_atMost : ByteArray := prog_9_method_25_code
def yX7_atMost : MethodName := ⟨RX7, "atMost", "(I)I"⟩
abbrev cX7_turnOn : ByteArray := prog_9_method_26_code
def yX7_turnOn : MethodName := ⟨RX7, "turnOn", "([III)V"⟩
abbrev cX7_turnAbout : ByteArray := prog_9_method_27_code
def yX7_turnAbout : MethodName := ⟨RX7, "turnAbout", "([I)V"⟩
abbrev cX7_feed : ByteArray := prog_9_method_28_code
def yX7_feed : MethodName := ⟨RX7, "feed", "(I)I"⟩
abbrev cX7_here : ByteArray := prog_9_method_29_code
def yX7_here : MethodName := ⟨RX7, "here", "()I"⟩
abbrev cX7_step : ByteArray := prog_9_method_30_code
def yX7_step : MethodName := ⟨RX7, "step", "()V"⟩
abbrev cX7_due : ByteArray := prog_9_method_31_code
def yX7_due : MethodName := ⟨RX7, "due", "(ZI)V"⟩
abbrev cX7_told : ByteArray := prog_9_method_32_code
def yX7_told : MethodName := ⟨RX7, "told", "(II)I"⟩
abbrev cX7_isLetter : ByteArray := prog_9_method_33_code
def yX7_isLetter : MethodName := ⟨RX7, "isLetter", "(I)Z"⟩
abbrev cX7_cogSort : ByteArray := prog_9_method_34_code
def yX7_cogSort : MethodName := ⟨RX7, "cogSort", "()I"⟩
abbrev cX7_bike : ByteArray := prog_9_method_35_code
def yX7_bike : MethodName := ⟨RX7, "bike", "()I"⟩
abbrev cX7_readLaw : ByteArray := prog_9_method_36_code
def yX7_readLaw : MethodName := ⟨RX7, "readLaw", "()V"⟩
abbrev cX7_readRings : ByteArray := prog_9_method_37_code
def yX7_readRings : MethodName := ⟨RX7, "readRings", "()V"⟩
abbrev cX7_readCogs : ByteArray := prog_9_method_38_code
def yX7_readCogs : MethodName := ⟨RX7, "readCogs", "()V"⟩
abbrev cX7_readPieces : ByteArray := prog_9_method_39_code
def yX7_readPieces : MethodName := ⟨RX7, "readPieces", "()V"⟩
abbrev cX7_fault : ByteArray := prog_9_method_40_code
def yX7_fault : MethodName := ⟨RX7, "fault", "()I"⟩
abbrev cX7_ride : ByteArray := prog_9_method_41_code
def yX7_ride : MethodName := ⟨RX7, "ride", "()I"⟩
abbrev cX7_shift : ByteArray := prog_9_method_42_code
def yX7_shift : MethodName := ⟨RX7, "shift", "(I)I"⟩
abbrev cX7_front : ByteArray := prog_9_method_43_code
def yX7_front : MethodName := ⟨RX7, "front", "(I)I"⟩
abbrev cX7_about : ByteArray := prog_9_method_44_code
def yX7_about : MethodName := ⟨RX7, "about", "()I"⟩
abbrev cX7_strength : ByteArray := prog_9_method_45_code
def yX7_strength : MethodName := ⟨RX7, "strength", "(I)I"⟩
abbrev cX7_slope : ByteArray := prog_9_method_46_code
def yX7_slope : MethodName := ⟨RX7, "slope", "(II)I"⟩
abbrev cX7_undo : ByteArray := prog_9_method_47_code
def yX7_undo : MethodName := ⟨RX7, "undo", "()I"⟩
abbrev cX7_cog : ByteArray := prog_9_method_48_code
def yX7_cog : MethodName := ⟨RX7, "cog", "(II)I"⟩
abbrev cX7_ring : ByteArray := prog_9_method_49_code
def yX7_ring : MethodName := ⟨RX7, "ring", "(I)I"⟩
abbrev cX7_piece : ByteArray := prog_9_method_50_code
def yX7_piece : MethodName := ⟨RX7, "piece", "(II)I"⟩
abbrev cX7_load : ByteArray := prog_9_method_51_code
def yX7_load : MethodName := ⟨RX7, "load", "(II)I"⟩
abbrev cX7_rounds : ByteArray := prog_9_method_52_code
def yX7_rounds : MethodName := ⟨RX7, "rounds", "(I)I"⟩
abbrev cX7_costOf : ByteArray := prog_9_method_53_code
def yX7_costOf : MethodName := ⟨RX7, "costOf", "(III)I"⟩
abbrev cX7_cost : ByteArray := prog_9_method_54_code
def yX7_cost : MethodName := ⟨RX7, "cost", "(II)I"⟩
abbrev cX7_costBy : ByteArray := prog_9_method_55_code
def yX7_costBy : MethodName := ⟨RX7, "costBy", "(IIII)I"⟩
abbrev cX7_tellRest : ByteArray := prog_9_method_56_code
def yX7_tellRest : MethodName := ⟨RX7, "tellRest", "(I)V"⟩
abbrev cX7_plan : ByteArray := prog_9_method_57_code
def yX7_plan : MethodName := ⟨RX7, "plan", "(I)I"⟩
abbrev cX7_least : ByteArray := prog_9_method_58_code
def yX7_least : MethodName := ⟨RX7, "least", "()I"⟩
abbrev cX7_rank : ByteArray := prog_9_method_59_code
def yX7_rank : MethodName := ⟨RX7, "rank", "(II)I"⟩
abbrev cX7_share : ByteArray := prog_9_method_60_code
def yX7_share : MethodName := ⟨RX7, "share", "(II)I"⟩
abbrev cX7_isSo : ByteArray := prog_9_method_61_code
def yX7_isSo : MethodName := ⟨RX7, "isSo", "(III)Z"⟩
abbrev cX7_fits : ByteArray := prog_9_method_62_code
def yX7_fits : MethodName := ⟨RX7, "fits", "(IIII)I"⟩
abbrev cX7_chance : ByteArray := prog_9_method_63_code
def yX7_chance : MethodName := ⟨RX7, "chance", "(II)I"⟩
abbrev cX7_drawn : ByteArray := prog_9_method_64_code
def yX7_drawn : MethodName := ⟨RX7, "drawn", "(III)I"⟩
abbrev cX7_image : ByteArray := prog_9_method_65_code
def yX7_image : MethodName := ⟨RX7, "image", "(I)I"⟩
abbrev cX7_restore : ByteArray := prog_9_method_66_code
def yX7_restore : MethodName := ⟨RX7, "restore", "(I)I"⟩
abbrev cX7_leave : ByteArray := prog_9_method_67_code
def yX7_leave : MethodName := ⟨RX7, "leave", "(I)V"⟩
abbrev cX7_kind : ByteArray := prog_9_method_68_code
def yX7_kind : MethodName := ⟨RX7, "kind", "(I)I"⟩
abbrev cX7_as : ByteArray := prog_9_method_69_code
def yX7_as : MethodName := ⟨RX7, "as", "(II)I"⟩
abbrev cX7_body10 : ByteArray := prog_9_method_70_code
def yX7_body10 : MethodName := ⟨RX7, "body10", "(I)I"⟩
abbrev cX7_body20 : ByteArray := prog_9_method_71_code
def yX7_body20 : MethodName := ⟨RX7, "body20", "(I)I"⟩
abbrev cX7_body21 : ByteArray := prog_9_method_72_code
def yX7_body21 : MethodName := ⟨RX7, "body21", "(I)I"⟩
abbrev cX7_markOfPlain : ByteArray := prog_9_method_73_code
def yX7_markOfPlain : MethodName := ⟨RX7, "markOfPlain", "(I)I"⟩
abbrev cX7_body11 : ByteArray := prog_9_method_74_code
def yX7_body11 : MethodName := ⟨RX7, "body11", "(I)I"⟩
abbrev cX7_body13 : ByteArray := prog_9_method_75_code
def yX7_body13 : MethodName := ⟨RX7, "body13", "(I)I"⟩
abbrev cX7_sizeOf : ByteArray := prog_9_method_76_code
def yX7_sizeOf : MethodName := ⟨RX7, "sizeOf", "(I)I"⟩
abbrev cX7_markOf : ByteArray := prog_9_method_77_code
def yX7_markOf : MethodName := ⟨RX7, "markOf", "(I)I"⟩
abbrev cX7_ask : ByteArray := prog_9_method_78_code
def yX7_ask : MethodName := ⟨RX7, "ask", "(II)I"⟩
abbrev cX7_trace : ByteArray := prog_9_method_79_code
def yX7_trace : MethodName := ⟨RX7, "trace", "(I)I"⟩
abbrev cX7_count : ByteArray := prog_9_method_80_code
def yX7_count : MethodName := ⟨RX7, "count", "(I)I"⟩
abbrev cX7_status : ByteArray := prog_9_method_81_code
def yX7_status : MethodName := ⟨RX7, "status", "()I"⟩
def RJ6 : String := "java/lang/Integer"
def TJ6 : u_T := fun k => match k with
  | _ => ("", "", "", false)
def tyJ6 : Nat → FieldType := fun k => match k with
  | _ => .int
abbrev wsJ60 : List Cond := u_ws RJ6 TJ6 0
theorem nmJ6 : ∀ a, a < 0 → ∀ b, b < 0 → a ≠ b → (TJ6 a).2.1 ≠ (TJ6 b).2.1 := by decide +kernel
theorem tyJ6_ok : ∀ k, k < 0 → parseFieldDescriptor (TJ6 k).2.2.1 = some (tyJ6 k) := by decide +kernel
abbrev cJ6_compare_7cf53 : ByteArray := prog_10_method_40_code
def yJ6_compare_7cf53 : MethodName := ⟨RJ6, "compare", "(II)I"⟩
def RJ9 : String := "java/lang/Math"
def TJ9 : u_T := fun k => match k with
  | _ => ("", "", "", false)
def tyJ9 : Nat → FieldType := fun k => match k with
  | _ => .int
abbrev wsJ90 : List Cond := u_ws RJ9 TJ9 0
theorem nmJ9 : ∀ a, a < 0 → ∀ b, b < 0 → a ≠ b → (TJ9 a).2.1 ≠ (TJ9 b).2.1 := by decide +kernel
theorem tyJ9_ok : ∀ k, k < 0 → parseFieldDescriptor (TJ9 k).2.2.1 = some (tyJ9 k) := by decide +kernel
abbrev cJ9_abs_0f7a4 : ByteArray := prog_11_method_59_code
def yJ9_abs_0f7a4 : MethodName := ⟨RJ9, "abs", "(I)I"⟩
abbrev cJ9_max_7cf53 : ByteArray := prog_11_method_65_code
def yJ9_max_7cf53 : MethodName := ⟨RJ9, "max", "(II)I"⟩
abbrev cJ9_min_7cf53 : ByteArray := prog_11_method_69_code
def yJ9_min_7cf53 : MethodName := ⟨RJ9, "min", "(II)I"⟩
def RJ10 : String := "java/lang/System"
def TJ10 : u_T := fun k => match k with
  | _ => ("", "", "", false)
def tyJ10 : Nat → FieldType := fun k => match k with
  | _ => .int
abbrev wsJ100 : List Cond := u_ws RJ10 TJ10 0
theorem nmJ10 : ∀ a, a < 0 → ∀ b, b < 0 → a ≠ b → (TJ10 a).2.1 ≠ (TJ10 b).2.1 := by decide +kernel
theorem tyJ10_ok : ∀ k, k < 0 → parseFieldDescriptor (TJ10 k).2.2.1 = some (tyJ10 k) := by decide +kernel
def RL : String := "GearRoadLaw"
abbrev cL_law : ByteArray := code
def yL_law : MethodName := ⟨RL, "law", "([I)Z"⟩
end
section
/-! printed by wip/whole/gen_data.py: the methods by number, what the constant pools name -/
/-- an instruction, its length, what it names (a branch: its target; a field: class and place; a call: the method and how many are passed), its constant -/
abbrev AI : Type := Instr × Nat × (Nat × Nat) × Value
def nth {α : Type} : List α → Nat → Option α
  | [], _ => none
  | a :: _, 0 => some a
  | _ :: l, n + 1 => nth l n
/-- a BIKE's cell: its numbers, then its five rows behind it -/
def axb (b : Nat) : (Nat × Nat) ⊕ (Nat × List (Option Nat)) := .inr (1, [none, none, none, none, none, none, none, none, none, some (b + 1), some (b + 2), some (b + 3), some (b + 4), some (b + 5)])
/-- the cells: an array (0 ints, 1 bytes, 2 booleans, 3 the images) and how long, or an object: its class, and of each field the cell to which it leads, none for a number -/
def axl : List ((Nat × Nat) ⊕ (Nat × List (Option Nat))) :=
  [.inr (6, [some 1, some 5, some 7, some 13, some 19, some 32, some 34, some 37, none, none]),
   .inr (3, [some 2, some 3, some 4]), .inl (0, 8), .inl (0, 8), .inl (0, 320),
   .inr (4, [some 6, none, none, none, none]), .inl (0, 80),
   axb 7, .inl (0, 3), .inl (0, 6), .inl (0, 6), .inl (0, 6), .inl (0, 6),
   axb 13, .inl (0, 3), .inl (0, 6), .inl (0, 6), .inl (0, 6), .inl (0, 6),
   .inl (3, 2),
   axb 20, .inl (0, 3), .inl (0, 6), .inl (0, 6), .inl (0, 6), .inl (0, 6),
   axb 26, .inl (0, 3), .inl (0, 6), .inl (0, 6), .inl (0, 6), .inl (0, 6),
   .inr (0, [some 33, none, none]), .inl (0, 408),
   .inr (2, [some 35, some 36]), .inl (0, 72), .inl (0, 108),
   .inr (5, [some 38, none]), .inl (0, 16),
   .inr (7, [some 40, some 41, some 42, none, some 43, none, some 44, some 45, some 46, none, some 47, some 48, some 49, none, none, none, none, none, none, none, some 50, some 51, none]),
   .inl (0, 8), .inl (0, 8), .inl (0, 320), .inl (0, 40), .inl (0, 35), .inl (0, 35), .inl (0, 840), .inl (0, 70), .inl (2, 2), .inl (1, 80), .inl (0, 126), .inl (0, 16)]
def mYs : List MethodName := [⟨"GearRoad", "<init>", "()V"⟩,
  ⟨"java/lang/Object", "<init>", "()V"⟩,
  ⟨"GearRoad$Rows", "<init>", "()V"⟩,
  ⟨"GearRoad$Tape", "<init>", "()V"⟩,
  ⟨"GearRoad$Bike", "<init>", "()V"⟩,
  ⟨"GearRoad$Acts", "<init>", "()V"⟩,
  ⟨"GearRoad$Planner", "<init>", "()V"⟩,
  ⟨"GearRoad$Trace", "<init>", "()V"⟩,
  ⟨"GearRoad", "row", "(III)I"⟩,
  ⟨"GearRoad$Rows", "isRow", "(I)Z"⟩,
  ⟨"GearRoad", "within", "(III)Z"⟩,
  ⟨"GearRoad", "found", "(I)I"⟩,
  ⟨"GearRoad$Rows", "make", "(III)V"⟩,
  ⟨"GearRoad$Rows", "placeOf", "(II)I"⟩,
  ⟨"GearRoad", "unfound", "(I)I"⟩,
  ⟨"GearRoad", "set", "(III)I"⟩,
  ⟨"GearRoad$Rows", "isMissing", "(I)Z"⟩,
  ⟨"GearRoad$Rows", "reaches", "(III)Z"⟩,
  ⟨"GearRoad$Rows", "put", "(III)I"⟩,
  ⟨"GearRoad", "copy", "(IIIII)I"⟩,
  ⟨"GearRoad$Rows", "move", "(IIIII)V"⟩,
  ⟨"GearRoad", "drop", "(I)I"⟩,
  ⟨"GearRoad$Rows", "remove", "(I)I"⟩,
  ⟨"GearRoad", "feed", "(I)I"⟩,
  ⟨"GearRoad$Tape", "add", "(I)V"⟩,
  ⟨"GearRoad", "bike", "()I"⟩,
  ⟨"GearRoad$Tape", "read", "(LGearRoad$Bike;)V"⟩,
  ⟨"GearRoad$Bike", "clear", "()V"⟩,
  ⟨"GearRoad$Tape", "readLaw", "(LGearRoad$Bike;)V"⟩,
  ⟨"GearRoad$Tape", "next", "()I"⟩,
  ⟨"GearRoad$Tape", "letterAt", "(I)I"⟩,
  ⟨"GearRoad$Tape", "fail", "(I)V"⟩,
  ⟨"GearRoad$Tape", "numberBehind", "(II)I"⟩,
  ⟨"GearRoad$Tape", "takeNumber", "(II)I"⟩,
  ⟨"GearRoad$Tape", "figuresHere", "()I"⟩,
  ⟨"GearRoad$Tape", "figureAt", "(I)I"⟩,
  ⟨"GearRoad$Tape", "readRings", "(LGearRoad$Bike;)V"⟩,
  ⟨"GearRoad$Tape", "readCogs", "(LGearRoad$Bike;)V"⟩,
  ⟨"GearRoad$Tape", "sortOf", "(I)I"⟩,
  ⟨"GearRoad$Tape", "readPieces", "(LGearRoad$Bike;)V"⟩,
  ⟨"GearRoad$Bike", "takeFrom", "(LGearRoad$Bike;)V"⟩,
  ⟨"GearRoad$Acts", "forget", "()V"⟩,
  ⟨"GearRoad", "fault", "()I"⟩,
  ⟨"GearRoad", "ride", "()I"⟩,
  ⟨"GearRoad$Bike", "canRide", "()Z"⟩,
  ⟨"GearRoad$Bike", "hasPiece", "(I)Z"⟩,
  ⟨"GearRoad$Bike", "gear", "()I"⟩,
  ⟨"GearRoad$Bike", "bears", "(II)Z"⟩,
  ⟨"GearRoad$Bike", "hasGear", "(I)Z"⟩,
  ⟨"GearRoad$Bike", "hasRing", "(I)Z"⟩,
  ⟨"GearRoad$Bike", "hasCog", "(I)Z"⟩,
  ⟨"GearRoad$Bike", "loadOf", "(II)I"⟩,
  ⟨"GearRoad$Bike", "loadBy", "(IIII)I"⟩,
  ⟨"GearRoad$Acts", "keep", "(LGearRoad$Bike;)V"⟩,
  ⟨"java/lang/Math", "min", "(II)I"⟩,
  ⟨"GearRoad$Bike", "rideOn", "()I"⟩,
  ⟨"GearRoad$Bike", "turnsOf", "(I)I"⟩,
  ⟨"GearRoad$Bike", "turnsBy", "(III)I"⟩,
  ⟨"GearRoad$Bike", "turn", "(I)V"⟩,
  ⟨"GearRoad$Bike", "turnOnCog", "(I)V"⟩,
  ⟨"GearRoad", "shift", "(I)I"⟩,
  ⟨"GearRoad$Bike", "canShift", "(I)Z"⟩,
  ⟨"GearRoad$Bike", "mayLeave", "(II)Z"⟩,
  ⟨"GearRoad$Bike", "shiftCog", "(I)V"⟩,
  ⟨"GearRoad$Bike", "turnsOnto", "(I)I"⟩,
  ⟨"GearRoad", "front", "(I)I"⟩,
  ⟨"GearRoad$Bike", "shiftRing", "(I)V"⟩,
  ⟨"GearRoad", "about", "()I"⟩,
  ⟨"GearRoad$Bike", "turnAbout", "()V"⟩,
  ⟨"GearRoad", "strength", "(I)I"⟩,
  ⟨"GearRoad", "slope", "(II)I"⟩,
  ⟨"GearRoad", "undo", "()I"⟩,
  ⟨"GearRoad$Acts", "takeBack", "(LGearRoad$Bike;)V"⟩,
  ⟨"GearRoad", "cog", "(II)I"⟩,
  ⟨"GearRoad", "ring", "(I)I"⟩,
  ⟨"GearRoad", "piece", "(II)I"⟩,
  ⟨"GearRoad$Bike", "gearsBorne", "(I)I"⟩,
  ⟨"GearRoad", "load", "(II)I"⟩,
  ⟨"GearRoad", "rounds", "(I)I"⟩,
  ⟨"GearRoad", "cost", "(II)I"⟩,
  ⟨"GearRoad$Bike", "shiftCost", "(III)I"⟩,
  ⟨"GearRoad$Bike", "cogCost", "(III)I"⟩,
  ⟨"java/lang/Integer", "compare", "(II)I"⟩,
  ⟨"java/lang/Math", "abs", "(I)I"⟩,
  ⟨"GearRoad$Bike", "ringCost", "(II)I"⟩,
  ⟨"GearRoad", "plan", "(I)I"⟩,
  ⟨"GearRoad$Planner", "foreseeTurns", "(LGearRoad$Bike;)V"⟩,
  ⟨"GearRoad$Planner", "learnCosts", "(LGearRoad$Bike;)V"⟩,
  ⟨"GearRoad$Planner", "costPlace", "(III)I"⟩,
  ⟨"GearRoad$Planner", "turnsFromRide", "(LGearRoad$Bike;II)I"⟩,
  ⟨"GearRoad$Planner", "turnsOnward", "(LGearRoad$Bike;II)I"⟩,
  ⟨"GearRoad$Planner", "bestGear", "(II)I"⟩,
  ⟨"GearRoad$Planner", "turnsBy", "(III)I"⟩,
  ⟨"GearRoad$Planner", "fewestTurns", "(LGearRoad$Bike;)I"⟩,
  ⟨"GearRoad$Planner", "gearAhead", "(LGearRoad$Bike;I)I"⟩,
  ⟨"GearRoad", "least", "()I"⟩,
  ⟨"GearRoad$Planner", "leastStrain", "(LGearRoad$Bike;)I"⟩,
  ⟨"GearRoad$Planner", "strainFromRide", "(LGearRoad$Bike;II)I"⟩,
  ⟨"GearRoad$Planner", "strainOnward", "(LGearRoad$Bike;II)I"⟩,
  ⟨"java/lang/Math", "max", "(II)I"⟩,
  ⟨"GearRoad", "rank", "(II)I"⟩,
  ⟨"GearRoad$Bike", "lighterThan", "(I)I"⟩,
  ⟨"GearRoad$Bike", "compareGears", "(II)I"⟩,
  ⟨"GearRoad$Bike", "alike", "(I)I"⟩,
  ⟨"GearRoad", "share", "(II)I"⟩,
  ⟨"GearRoad$Bike", "shareOf", "(II)I"⟩,
  ⟨"GearRoad", "fits", "(IIII)I"⟩,
  ⟨"GearRoad", "sortsThatFit", "(II)I"⟩,
  ⟨"GearRoad", "tells", "(IIIII)Z"⟩,
  ⟨"GearRoad$Bike", "turnsAhead", "(IIII)I"⟩,
  ⟨"GearRoad", "teethThatFit", "(IIZ)I"⟩,
  ⟨"GearRoad", "strengthsThatFit", "(IIZ)I"⟩,
  ⟨"GearRoad", "chance", "(II)I"⟩,
  ⟨"GearRoad$Bike", "tenthsBorne", "(II)I"⟩,
  ⟨"GearRoad", "commonDivisor", "(II)I"⟩,
  ⟨"GearRoad", "drawn", "(III)I"⟩,
  ⟨"GearRoad", "shiftByDraw", "(LGearRoad$Bike;J)V"⟩,
  ⟨"GearRoad", "shiftIfMay", "(LGearRoad$Bike;I)V"⟩,
  ⟨"GearRoad", "goOn", "(LGearRoad$Bike;)I"⟩,
  ⟨"GearRoad", "image", "(I)I"⟩,
  ⟨"GearRoad", "restore", "(I)I"⟩,
  ⟨"GearRoad", "kind", "(I)I"⟩,
  ⟨"GearRoad", "as", "(II)I"⟩,
  ⟨"GearRoad", "isOfKind", "(II)Z"⟩,
  ⟨"GearRoad", "ask", "(II)I"⟩,
  ⟨"GearRoad", "asked", "(III)I"⟩,
  ⟨"GearRoad", "body", "(III)I"⟩,
  ⟨"GearRoad$Trace", "leave", "(I)V"⟩,
  ⟨"GearRoad", "trace", "(I)I"⟩,
  ⟨"GearRoad", "count", "(I)I"⟩,
  ⟨"GearRoad$Rows", "howMany", "()I"⟩,
  ⟨"GearRoad", "status", "()I"⟩,
  ⟨"GearRoadModel", "<init>", "()V"⟩,
  ⟨"GearRoadModel", "row", "(III)I"⟩,
  ⟨"GearRoadModel", "isRow", "(I)Z"⟩,
  ⟨"GearRoadModel", "in", "(III)Z"⟩,
  ⟨"GearRoadModel", "found", "(I)I"⟩,
  ⟨"GearRoadModel", "well", "(I)I"⟩,
  ⟨"GearRoadModel", "set", "(III)I"⟩,
  ⟨"GearRoadModel", "lowest", "(II)I"⟩,
  ⟨"GearRoadModel", "copy", "(IIIII)I"⟩,
  ⟨"GearRoadModel", "areIn", "(III)Z"⟩,
  ⟨"GearRoadModel", "drop", "(I)I"⟩,
  ⟨"GearRoadModel", "feed", "(I)I"⟩,
  ⟨"GearRoadModel", "bike", "()I"⟩,
  ⟨"GearRoadModel", "step", "()V"⟩,
  ⟨"GearRoadModel", "here", "()I"⟩,
  ⟨"GearRoadModel", "readLaw", "()V"⟩,
  ⟨"GearRoadModel", "isLetter", "(I)Z"⟩,
  ⟨"GearRoadModel", "due", "(ZI)V"⟩,
  ⟨"GearRoadModel", "told", "(II)I"⟩,
  ⟨"GearRoadModel", "readRings", "()V"⟩,
  ⟨"GearRoadModel", "readCogs", "()V"⟩,
  ⟨"GearRoadModel", "cogSort", "()I"⟩,
  ⟨"GearRoadModel", "readPieces", "()V"⟩,
  ⟨"GearRoadModel", "fault", "()I"⟩,
  ⟨"GearRoadModel", "ride", "()I"⟩,
  ⟨"GearRoadModel", "gearOf", "([I)I"⟩,
  ⟨"GearRoadModel", "bears", "([III)Z"⟩,
  ⟨"GearRoadModel", "loadOf", "([III)I"⟩,
  ⟨"GearRoadModel", "know", "()V"⟩,
  ⟨"GearRoadModel", "turnsOf", "([II)I"⟩,
  ⟨"GearRoadModel", "turnOn", "([III)V"⟩,
  ⟨"GearRoadModel", "atMost", "(I)I"⟩,
  ⟨"GearRoadModel", "shift", "(I)I"⟩,
  ⟨"GearRoadModel", "isCog", "(I)Z"⟩,
  ⟨"GearRoadModel", "canLeave", "([III)Z"⟩,
  ⟨"GearRoadModel", "shiftOnto", "([II)I"⟩,
  ⟨"GearRoadModel", "front", "(I)I"⟩,
  ⟨"GearRoadModel", "about", "()I"⟩,
  ⟨"GearRoadModel", "turnAbout", "([I)V"⟩,
  ⟨"GearRoadModel", "strength", "(I)I"⟩,
  ⟨"GearRoadModel", "slope", "(II)I"⟩,
  ⟨"GearRoadModel", "isPiece", "(I)Z"⟩,
  ⟨"GearRoadModel", "undo", "()I"⟩,
  ⟨"GearRoadModel", "cog", "(II)I"⟩,
  ⟨"GearRoadModel", "ring", "(I)I"⟩,
  ⟨"GearRoadModel", "piece", "(II)I"⟩,
  ⟨"GearRoadModel", "isGear", "(I)Z"⟩,
  ⟨"GearRoadModel", "load", "(II)I"⟩,
  ⟨"GearRoadModel", "rounds", "(I)I"⟩,
  ⟨"GearRoadModel", "cost", "(II)I"⟩,
  ⟨"GearRoadModel", "costOf", "(III)I"⟩,
  ⟨"GearRoadModel", "plan", "(I)I"⟩,
  ⟨"GearRoadModel", "tellRest", "(I)V"⟩,
  ⟨"GearRoadModel", "costBy", "(IIII)I"⟩,
  ⟨"GearRoadModel", "least", "()I"⟩,
  ⟨"GearRoadModel", "rank", "(II)I"⟩,
  ⟨"GearRoadModel", "share", "(II)I"⟩,
  ⟨"GearRoadModel", "fits", "(IIII)I"⟩,
  ⟨"GearRoadModel", "take", "()V"⟩,
  ⟨"GearRoadModel", "isSo", "(III)Z"⟩,
  ⟨"GearRoadModel", "chance", "(II)I"⟩,
  ⟨"GearRoadModel", "drawn", "(III)I"⟩,
  ⟨"GearRoadModel", "image", "(I)I"⟩,
  ⟨"GearRoadModel", "restore", "(I)I"⟩,
  ⟨"GearRoadModel", "kind", "(I)I"⟩,
  ⟨"GearRoadModel", "as", "(II)I"⟩,
  ⟨"GearRoadModel", "ask", "(II)I"⟩,
  ⟨"GearRoadModel", "sizeOf", "(I)I"⟩,
  ⟨"GearRoadModel", "leave", "(I)V"⟩,
  ⟨"GearRoadModel", "body11", "(I)I"⟩,
  ⟨"GearRoadModel", "body10", "(I)I"⟩,
  ⟨"GearRoadModel", "markOfPlain", "(I)I"⟩,
  ⟨"GearRoadModel", "body21", "(I)I"⟩,
  ⟨"GearRoadModel", "body20", "(I)I"⟩,
  ⟨"GearRoadModel", "body13", "(I)I"⟩,
  ⟨"GearRoadModel", "markOf", "(I)I"⟩,
  ⟨"GearRoadModel", "trace", "(I)I"⟩,
  ⟨"GearRoadModel", "count", "(I)I"⟩,
  ⟨"GearRoadModel", "status", "()I"⟩,
  ⟨"GearRoadLaw", "law", "([I)Z"⟩]
def mBs : List ByteArray := [prog_1_method_1_code, object_method_1_code, prog_5_method_1_code, prog_6_method_1_code, prog_3_method_1_code, prog_2_method_1_code, prog_4_method_1_code, prog_7_method_1_code, prog_1_method_2_code, prog_5_method_2_code, prog_1_method_37_code, prog_1_method_38_code, prog_5_method_6_code, prog_5_method_3_code, prog_1_method_39_code, prog_1_method_3_code, prog_5_method_4_code, prog_5_method_5_code, prog_5_method_7_code, prog_1_method_4_code, prog_5_method_8_code, prog_1_method_5_code, prog_5_method_9_code, prog_1_method_6_code, prog_6_method_2_code, prog_1_method_7_code, prog_6_method_3_code, prog_3_method_2_code, prog_6_method_4_code, prog_6_method_13_code, prog_6_method_14_code, prog_6_method_15_code, prog_6_method_9_code, prog_6_method_10_code, prog_6_method_11_code, prog_6_method_12_code, prog_6_method_5_code, prog_6_method_6_code, prog_6_method_8_code, prog_6_method_7_code, prog_3_method_3_code, prog_2_method_4_code, prog_1_method_8_code, prog_1_method_9_code, prog_3_method_17_code, prog_3_method_6_code, prog_3_method_8_code, prog_3_method_13_code, prog_3_method_7_code, prog_3_method_4_code, prog_3_method_5_code, prog_3_method_11_code, prog_3_method_9_code, prog_2_method_2_code, prog_11_method_69_code, prog_3_method_18_code, prog_3_method_12_code, prog_3_method_10_code, prog_3_method_24_code, prog_3_method_25_code, prog_1_method_10_code, prog_3_method_19_code, prog_3_method_22_code, prog_3_method_20_code, prog_3_method_23_code, prog_1_method_11_code, prog_3_method_21_code, prog_1_method_12_code, prog_3_method_26_code, prog_1_method_13_code, prog_1_method_14_code, prog_1_method_15_code, prog_2_method_3_code, prog_1_method_16_code, prog_1_method_17_code, prog_1_method_18_code, prog_3_method_14_code, prog_1_method_19_code, prog_1_method_20_code, prog_1_method_21_code, prog_3_method_27_code, prog_3_method_29_code, prog_10_method_40_code, prog_11_method_59_code, prog_3_method_28_code, prog_1_method_22_code, prog_4_method_2_code, prog_4_method_12_code, prog_4_method_13_code, prog_4_method_5_code, prog_4_method_6_code, prog_4_method_7_code, prog_4_method_8_code, prog_4_method_3_code, prog_4_method_4_code, prog_1_method_23_code, prog_4_method_9_code, prog_4_method_10_code, prog_4_method_11_code, prog_11_method_65_code, prog_1_method_24_code, prog_3_method_30_code, prog_3_method_32_code, prog_3_method_31_code, prog_1_method_25_code, prog_3_method_33_code, prog_1_method_26_code, prog_1_method_41_code, prog_1_method_44_code, prog_3_method_15_code, prog_1_method_42_code, prog_1_method_43_code, prog_1_method_27_code, prog_3_method_16_code, prog_1_method_40_code, prog_1_method_28_code, prog_1_method_45_code, prog_1_method_46_code, prog_1_method_47_code, prog_1_method_29_code, prog_1_method_30_code, prog_1_method_31_code, prog_1_method_32_code, prog_1_method_48_code, prog_1_method_33_code, prog_1_method_49_code, prog_1_method_50_code, prog_7_method_2_code, prog_1_method_34_code, prog_1_method_35_code, prog_5_method_10_code, prog_1_method_36_code, prog_9_method_1_code, prog_9_method_8_code, prog_9_method_7_code, prog_9_method_3_code, prog_9_method_5_code, prog_9_method_6_code, prog_9_method_10_code, prog_9_method_9_code, prog_9_method_12_code, prog_9_method_11_code, prog_9_method_13_code, prog_9_method_28_code, prog_9_method_35_code, prog_9_method_30_code, prog_9_method_29_code, prog_9_method_36_code, prog_9_method_33_code, prog_9_method_31_code, prog_9_method_32_code, prog_9_method_37_code, prog_9_method_38_code, prog_9_method_34_code, prog_9_method_39_code, prog_9_method_40_code, prog_9_method_41_code, prog_9_method_19_code, prog_9_method_22_code, prog_9_method_20_code, prog_9_method_15_code, prog_9_method_21_code, prog_9_method_26_code, prog_9_method_25_code, prog_9_method_42_code, prog_9_method_16_code, prog_9_method_24_code, prog_9_method_23_code, prog_9_method_43_code, prog_9_method_44_code, prog_9_method_27_code, prog_9_method_45_code, prog_9_method_46_code, prog_9_method_17_code, prog_9_method_47_code, prog_9_method_48_code, prog_9_method_49_code, prog_9_method_50_code, prog_9_method_18_code, prog_9_method_51_code, prog_9_method_52_code, prog_9_method_54_code, prog_9_method_53_code, prog_9_method_57_code, prog_9_method_56_code, prog_9_method_55_code, prog_9_method_58_code, prog_9_method_59_code, prog_9_method_60_code, prog_9_method_62_code, prog_9_method_14_code, prog_9_method_61_code, prog_9_method_63_code, prog_9_method_64_code, prog_9_method_65_code, prog_9_method_66_code, prog_9_method_68_code, prog_9_method_69_code, prog_9_method_78_code, prog_9_method_76_code, prog_9_method_67_code, prog_9_method_74_code, prog_9_method_70_code, prog_9_method_73_code, prog_9_method_72_code, prog_9_method_71_code, prog_9_method_75_code, prog_9_method_77_code, prog_9_method_79_code, prog_9_method_80_code, prog_9_method_81_code, code]
def mLs : List Nat := [1, 1, 1, 1, 1, 1, 1, 1, 4, 1, 3, 2, 5, 2, 2, 4, 2, 4, 5, 6, 6, 2, 2, 2, 2, 1, 2, 2, 2, 1, 2, 2, 4, 6, 2, 3, 4, 5, 1, 4, 2, 1, 1, 1, 1, 2, 1, 3, 2, 2, 2, 3, 5, 3, 2, 2, 2, 4, 2, 2, 2, 2, 3, 2, 2, 2, 2, 1, 4, 3, 4, 1, 3, 3, 2, 3, 4, 3, 2, 3, 5, 8, 2, 1, 2, 2, 4, 5, 3, 5, 5, 7, 6, 3, 5, 2, 4, 4, 6, 2, 3, 4, 3, 4, 3, 7, 6, 5, 7, 6, 6, 6, 6, 4, 6, 8, 5, 2, 1, 2, 2, 2, 3, 4, 3, 5, 5, 2, 2, 2, 3, 1, 2, 5, 1, 3, 2, 2, 4, 2, 7, 4, 2, 2, 2, 2, 1, 1, 2, 3, 4, 2, 3, 1, 2, 1, 2, 1, 3, 4, 2, 3, 3, 1, 3, 2, 3, 2, 3, 1, 4, 3, 4, 2, 2, 3, 2, 5, 2, 3, 2, 3, 8, 7, 7, 6, 2, 7, 7, 12, 2, 8, 8, 12, 3, 3, 2, 5, 3, 2, 2, 3, 2, 2, 2, 2, 2, 3, 2, 4, 1, 4]
def mCs : List Nat := [6, 11, 3, 4, 1, 0, 2, 5, 6, 3, 6, 6, 3, 3, 6, 6, 3, 3, 3, 6, 3, 6, 3, 6, 4, 6, 4, 1, 4, 4, 4, 4, 4, 4, 4, 4, 4, 4, 4, 4, 1, 0, 6, 6, 1, 1, 1, 1, 1, 1, 1, 1, 1, 0, 10, 1, 1, 1, 1, 1, 6, 1, 1, 1, 1, 6, 1, 6, 1, 6, 6, 6, 0, 6, 6, 6, 1, 6, 6, 6, 1, 1, 9, 10, 1, 6, 2, 2, 2, 2, 2, 2, 2, 2, 2, 6, 2, 2, 2, 10, 6, 1, 1, 1, 6, 1, 6, 6, 6, 1, 6, 6, 6, 1, 6, 6, 6, 6, 6, 6, 6, 6, 6, 6, 6, 6, 6, 5, 6, 6, 3, 6, 7, 7, 7, 7, 7, 7, 7, 7, 7, 7, 7, 7, 7, 7, 7, 7, 7, 7, 7, 7, 7, 7, 7, 7, 7, 7, 7, 7, 7, 7, 7, 7, 7, 7, 7, 7, 7, 7, 7, 7, 7, 7, 7, 7, 7, 7, 7, 7, 7, 7, 7, 7, 7, 7, 7, 7, 7, 7, 7, 7, 7, 7, 7, 7, 7, 7, 7, 7, 7, 7, 7, 7, 7, 7, 7, 7, 7, 7, 7, 8]
def mRs : List Nat := [0, 0, 0, 0, 0, 0, 0, 0, 1, 2, 2, 1, 0, 1, 1, 1, 2, 2, 1, 1, 0, 1, 1, 1, 0, 1, 0, 0, 0, 1, 1, 0, 1, 1, 1, 1, 0, 0, 1, 0, 0, 0, 1, 1, 2, 2, 1, 2, 2, 2, 2, 1, 1, 0, 1, 1, 1, 1, 0, 0, 1, 2, 2, 0, 1, 1, 0, 1, 0, 1, 1, 1, 0, 1, 1, 1, 1, 1, 1, 1, 1, 1, 1, 1, 1, 1, 0, 0, 1, 1, 1, 1, 1, 1, 1, 1, 1, 1, 1, 1, 1, 1, 1, 1, 1, 1, 1, 1, 2, 1, 1, 1, 1, 1, 1, 1, 0, 0, 1, 1, 1, 1, 1, 2, 1, 1, 1, 0, 1, 1, 1, 1, 0, 1, 2, 2, 1, 1, 1, 1, 1, 2, 1, 1, 1, 0, 1, 0, 2, 0, 1, 0, 0, 1, 0, 1, 1, 1, 2, 1, 0, 1, 0, 1, 1, 2, 2, 1, 1, 1, 0, 1, 1, 2, 1, 1, 1, 1, 2, 1, 1, 1, 1, 1, 0, 1, 1, 1, 1, 1, 0, 2, 1, 1, 1, 1, 1, 1, 1, 1, 0, 1, 1, 1, 1, 1, 1, 1, 1, 1, 1, 2]
def mY (j : Nat) : MethodName := (nth mYs j).getD ⟨"", "", ""⟩
def mB (j : Nat) : ByteArray := (nth mBs j).getD ⟨#[]⟩
def mL (j : Nat) : Nat := (nth mLs j).getD 0
def mC (j : Nat) : Nat := (nth mCs j).getD 0
def mR (j : Nat) : Nat := (nth mRs j).getD 0
def mT (j : Nat) : Option FieldType := match mR j with | 0 => none | 1 => some .int | _ => some .boolean
def cNs : List String := ["GearRoad$Acts", "GearRoad$Bike", "GearRoad$Planner", "GearRoad$Rows", "GearRoad$Tape", "GearRoad$Trace", "GearRoad", "GearRoadModel", "GearRoadLaw", "java/lang/Integer", "java/lang/Math", "java/lang/Object"]
def cN (c : Nat) : String := (nth cNs c).getD ""
abbrev clA : List vw_C := [(RX0, TX0, 3), (RX1, TX1, 14), (RX2, TX2, 2), (RX3, TX3, 3), (RX4, TX4, 5), (RX5, TX5, 2), (RX6, TX6, 10), (RX7, TX7, 23)]
def q_fld : List ((Nat × Nat) × (Nat × Nat)) := [((0, 11), (0, 0)), ((0, 15), (0, 1)), ((0, 19), (0, 2)), ((0, 22), (1, 4)), ((0, 27), (1, 5)), ((0, 30), (1, 6)), ((0, 33), (1, 7)), ((0, 36), (1, 8)), ((0, 39), (1, 13)), ((0, 48), (1, 12)), ((1, 9), (1, 0)), ((1, 15), (1, 1)), ((1, 19), (1, 2)), ((1, 22), (1, 3)), ((1, 25), (1, 4)), ((1, 28), (1, 5)), ((1, 31), (1, 6)), ((1, 34), (1, 7)), ((1, 37), (1, 8)), ((1, 40), (1, 9)), ((1, 44), (1, 10)), ((1, 47), (1, 11)), ((1, 50), (1, 12)), ((1, 53), (1, 13)), ((2, 9), (2, 0)), ((2, 15), (2, 1)), ((2, 22), (1, 3)), ((2, 28), (1, 7)), ((2, 48), (1, 13)), ((2, 90), (1, 2)), ((3, 9), (3, 0)), ((3, 13), (3, 1)), ((3, 16), (3, 2)), ((4, 11), (4, 0)), ((4, 15), (4, 1)), ((4, 19), (4, 2)), ((4, 22), (4, 3)), ((4, 25), (4, 4)), ((4, 54), (1, 0)), ((4, 62), (1, 4)), ((4, 65), (1, 9)), ((4, 68), (1, 1)), ((4, 76), (1, 10)), ((4, 79), (1, 11)), ((4, 82), (1, 2)), ((4, 85), (1, 13)), ((4, 88), (1, 3)), ((5, 9), (5, 0)), ((5, 13), (5, 1)), ((6, 12), (6, 0)), ((6, 19), (6, 1)), ((6, 26), (6, 2)), ((6, 30), (6, 3)), ((6, 33), (6, 4)), ((6, 40), (6, 5)), ((6, 47), (6, 6)), ((6, 54), (6, 7)), ((6, 58), (6, 8)), ((6, 62), (6, 9)), ((6, 95), (3, 0)), ((6, 106), (4, 1)), ((6, 118), (4, 3)), ((6, 122), (4, 4)), ((6, 131), (1, 2)), ((6, 134), (1, 0)), ((6, 156), (1, 6)), ((6, 159), (1, 5)), ((6, 171), (1, 7)), ((6, 174), (1, 4)), ((6, 180), (1, 13)), ((6, 183), (0, 1)), ((6, 190), (1, 11)), ((6, 193), (1, 12)), ((6, 203), (1, 9)), ((6, 262), (1, 3)), ((6, 272), (1, 8)), ((6, 286), (1, 10)), ((6, 292), (5, 1)), ((6, 296), (5, 0)), ((6, 302), (1, 1)), ((6, 315), (3, 2)), ((7, 7), (7, 0)), ((7, 13), (7, 1)), ((7, 16), (7, 2)), ((7, 19), (7, 4)), ((7, 22), (7, 6)), ((7, 25), (7, 7)), ((7, 28), (7, 8)), ((7, 31), (7, 10)), ((7, 34), (7, 11)), ((7, 38), (7, 12)), ((7, 42), (7, 20)), ((7, 45), (7, 21)), ((7, 48), (7, 3)), ((7, 76), (7, 9)), ((7, 87), (7, 13)), ((7, 91), (7, 15)), ((7, 94), (7, 16)), ((7, 101), (7, 18)), ((7, 104), (7, 17)), ((7, 107), (7, 19)), ((7, 132), (7, 14)), ((7, 136), (7, 5)), ((7, 214), (7, 22))]
def q_con : List ((Nat × Nat) × Value) := [((1, 121), .int (99999)), ((1, 125), .int (-1000000)), ((2, 42), .int (1000000000)), ((2, 43), .int (-1000000)), ((4, 75), .int (-1000000)), ((6, 73), .int (-1000001)), ((6, 109), .int (-1000003)), ((6, 121), .int (-1000100)), ((6, 142), .int (-1000002)), ((6, 239), .int (-1000000)), ((6, 271), .int (999999)), ((6, 275), .long (16807)), ((6, 277), .long (2147483647)), ((6, 305), .int (-1000010)), ((6, 322), .long (4)), ((6, 328), .long (3)), ((7, 52), .int (-1000010)), ((7, 61), .int (-1000001)), ((7, 83), .int (99999)), ((7, 90), .int (-1000003)), ((7, 135), .int (-1000100)), ((7, 154), .int (-1000002)), ((7, 185), .int (-1000000)), ((7, 190), .int (1000000000)), ((7, 205), .int (999999)), ((7, 206), .long (16807)), ((7, 208), .long (2147483647)), ((7, 210), .long (4)), ((7, 212), .long (3))]
def q_sta : List ((Nat × Nat) × (Nat × Nat)) := [((6, 330), (60, 0)), ((6, 333), (61, 0)), ((6, 336), (62, 0))]
def q_virt : List ((Nat × Nat) × (Nat × Nat)) := [((1, 66), (49, 2)), ((1, 70), (50, 2)), ((1, 73), (48, 2)), ((1, 84), (51, 3)), ((1, 88), (47, 3)), ((1, 92), (45, 2)), ((1, 95), (46, 1)), ((1, 104), (56, 2)), ((1, 108), (58, 2)), ((1, 112), (59, 2)), ((1, 115), (62, 3)), ((1, 118), (64, 2)), ((1, 122), (81, 4)), ((1, 137), (102, 3)), ((2, 18), (87, 2)), ((2, 31), (89, 4)), ((2, 35), (46, 1)), ((2, 39), (90, 4)), ((2, 44), (91, 3)), ((2, 51), (47, 3)), ((2, 55), (56, 2)), ((2, 59), (92, 4)), ((2, 69), (97, 4)), ((2, 72), (98, 4)), ((2, 75), (48, 2)), ((2, 79), (51, 3)), ((2, 93), (81, 4)), ((3, 35), (16, 2)), ((4, 28), (27, 1)), ((4, 33), (28, 2)), ((4, 37), (36, 2)), ((4, 40), (37, 2)), ((4, 43), (39, 2)), ((4, 46), (29, 1)), ((4, 50), (31, 2)), ((4, 58), (32, 3)), ((4, 91), (33, 3)), ((4, 94), (34, 1)), ((4, 97), (35, 2)), ((4, 104), (30, 2)), ((6, 74), (11, 2)), ((6, 78), (12, 4)), ((6, 82), (14, 2)), ((6, 85), (16, 2)), ((6, 88), (17, 4)), ((6, 91), (18, 4)), ((6, 99), (20, 6)), ((6, 103), (22, 2)), ((6, 110), (24, 2)), ((6, 114), (26, 2)), ((6, 125), (40, 2)), ((6, 128), (41, 1)), ((6, 138), (44, 1)), ((6, 143), (53, 2)), ((6, 146), (55, 1)), ((6, 150), (61, 2)), ((6, 153), (63, 2)), ((6, 162), (49, 2)), ((6, 165), (66, 2)), ((6, 168), (68, 1)), ((6, 177), (45, 2)), ((6, 184), (72, 2)), ((6, 187), (50, 2)), ((6, 196), (64, 2)), ((6, 199), (62, 3)), ((6, 206), (76, 2)), ((6, 209), (46, 1)), ((6, 212), (51, 3)), ((6, 216), (48, 2)), ((6, 219), (56, 2)), ((6, 222), (80, 4)), ((6, 225), (86, 2)), ((6, 228), (93, 2)), ((6, 232), (94, 3)), ((6, 236), (96, 2)), ((6, 240), (101, 2)), ((6, 243), (103, 2)), ((6, 246), (105, 3)), ((6, 252), (107, 3)), ((6, 255), (110, 4)), ((6, 259), (111, 4)), ((6, 265), (113, 3)), ((6, 293), (125, 4)), ((6, 299), (130, 1)), ((6, 311), (108, 6)), ((6, 318), (109, 5)), ((6, 339), (126, 4)), ((6, 342), (127, 2)), ((7, 62), (136, 2)), ((7, 66), (137, 2)), ((7, 73), (141, 4)), ((7, 97), (146, 1)), ((7, 110), (145, 1)), ((7, 113), (149, 3)), ((7, 117), (148, 2)), ((7, 120), (147, 1)), ((7, 123), (151, 1)), ((7, 126), (152, 1)), ((7, 129), (154, 1)), ((7, 140), (150, 3)), ((7, 143), (153, 1)), ((7, 155), (160, 1)), ((7, 166), (165, 2)), ((7, 179), (173, 2)), ((7, 182), (178, 2)), ((7, 186), (182, 4)), ((7, 191), (185, 5)), ((7, 195), (184, 2)), ((7, 199), (190, 1)), ((7, 202), (191, 4)), ((7, 217), (200, 2)), ((7, 220), (205, 2)), ((7, 223), (204, 2)), ((7, 226), (202, 2)), ((7, 229), (203, 2)), ((7, 232), (201, 2)), ((7, 235), (206, 2)), ((7, 238), (199, 2)), ((7, 241), (207, 2)), ((8, 13), (8, 4)), ((8, 17), (133, 4)), ((8, 18), (15, 4)), ((8, 21), (138, 4)), ((8, 22), (19, 6)), ((8, 26), (140, 6)), ((8, 27), (21, 2)), ((8, 31), (142, 2)), ((8, 32), (23, 2)), ((8, 35), (143, 2)), ((8, 36), (25, 1)), ((8, 40), (144, 1)), ((8, 41), (42, 1)), ((8, 44), (155, 1)), ((8, 45), (43, 1)), ((8, 48), (156, 1)), ((8, 49), (60, 2)), ((8, 52), (164, 2)), ((8, 53), (65, 2)), ((8, 56), (168, 2)), ((8, 57), (67, 1)), ((8, 60), (169, 1)), ((8, 61), (69, 2)), ((8, 64), (171, 2)), ((8, 65), (70, 3)), ((8, 69), (172, 3)), ((8, 70), (71, 1)), ((8, 73), (174, 1)), ((8, 74), (73, 3)), ((8, 77), (175, 3)), ((8, 78), (74, 2)), ((8, 81), (176, 2)), ((8, 82), (75, 3)), ((8, 85), (177, 3)), ((8, 86), (77, 3)), ((8, 89), (179, 3)), ((8, 90), (78, 2)), ((8, 93), (180, 2)), ((8, 94), (79, 3)), ((8, 97), (181, 3)), ((8, 98), (85, 2)), ((8, 101), (183, 2)), ((8, 102), (95, 1)), ((8, 105), (186, 1)), ((8, 106), (100, 3)), ((8, 109), (187, 3)), ((8, 110), (104, 3)), ((8, 113), (188, 3)), ((8, 114), (106, 5)), ((8, 118), (189, 5)), ((8, 119), (112, 3)), ((8, 122), (192, 3)), ((8, 123), (115, 4)), ((8, 126), (193, 4)), ((8, 127), (119, 2)), ((8, 130), (194, 2)), ((8, 131), (120, 2)), ((8, 134), (195, 2)), ((8, 135), (121, 2)), ((8, 138), (196, 2)), ((8, 139), (122, 3)), ((8, 142), (197, 3)), ((8, 143), (124, 3)), ((8, 146), (198, 3)), ((8, 147), (128, 2)), ((8, 150), (208, 2)), ((8, 151), (129, 2)), ((8, 154), (209, 2)), ((8, 155), (131, 1)), ((8, 158), (210, 1))]
def q_stat : List ((Nat × Nat) × (Nat × Nat)) := [((0, 42), (999, 5)), ((0, 51), (54, 2)), ((1, 56), (999, 5)), ((1, 62), (10, 3)), ((1, 76), (52, 4)), ((1, 80), (57, 3)), ((1, 99), (54, 2)), ((1, 126), (84, 2)), ((1, 129), (83, 1)), ((1, 132), (82, 2)), ((2, 63), (88, 3)), ((2, 66), (84, 2)), ((2, 82), (99, 2)), ((2, 87), (54, 2)), ((3, 19), (10, 3)), ((3, 25), (13, 2)), ((3, 29), (999, 5)), ((4, 71), (38, 1)), ((4, 100), (10, 3)), ((6, 65), (9, 1)), ((6, 69), (10, 3)), ((6, 249), (13, 2)), ((6, 268), (114, 2)), ((6, 279), (116, 2)), ((6, 283), (118, 1)), ((6, 289), (123, 2)), ((6, 306), (99, 2)), ((6, 324), (117, 2)), ((7, 53), (135, 3)), ((7, 57), (134, 1)), ((7, 69), (139, 2)), ((7, 79), (159, 3)), ((7, 84), (163, 1)), ((7, 146), (157, 1)), ((7, 150), (158, 3)), ((7, 158), (161, 2)), ((7, 162), (162, 3)), ((7, 169), (166, 3)), ((7, 172), (167, 2)), ((7, 175), (170, 1))]
end
section
/-! THE SMALL MACHINE: what the methods do, over numbers alone. A memory says of each cell of the system (0 ..) what its places hold; which cells there are, and which places hold references, never changes behind the constructors. -/
abbrev Mm : Type := Nat → Nat → Int32
/-- pc, locals, stack, memory -/
abbrev Cf : Type := Nat × List (Option Value) × List Value × Mm
abbrev Ex : Type := Option (Option Prop × Cf)
def ms (M : Mm) (k : Nat) (f : Nat → Int32) : Mm := fun j => if j = k then f else M j
def mu (M : Mm) (k i : Nat) (x : Int32) : Mm := ms M k (upd (M k) i x)
def lk : List (Option Value) → Nat → Option Value
  | [], _ => none
  | o :: _, 0 => o
  | _ :: l, n + 1 => lk l n
def dropL : Option Value → Option Value
  | some (.long _) => none
  | o => o
def stL : List (Option Value) → Nat → Value → List (Option Value)
  | [], _, _ => []
  | _ :: L, 0, v => some v :: L
  | o :: L, 1, v => dropL o :: stL L 0 v
  | o :: L, n + 2, v => o :: stL L (n + 1) v
def tlN : List (Option Value) → List (Option Value)
  | [] => []
  | _ :: L => none :: L
def stL2 : List (Option Value) → Nat → Value → List (Option Value)
  | [], _, _ => []
  | _ :: L, 0, v => some v :: tlN L
  | o :: L, 1, v => dropL o :: stL2 L 0 v
  | o :: L, n + 2, v => o :: stL2 L (n + 1) v
/-- the images' cells -/
def imgs (i : Nat) : Nat := if i = 0 then 20 else 26
/-- how long an array is; the three tables 60 .. 62, the script 63 -/
def alen (M : Mm) (k : Nat) : Nat := if k = 63 then (M 64 0).toNatClampNeg else 6
/-- the rest of a division -/
def irm (x y : Int32) : Int32 := x - x / y * y
def lrm (x y : Int64) : Int64 := x - x / y * y
def x_psh (len : Nat) (v : Value) : Cf → Ex
  | (pc, L, st, M) => some (none, pc + len, L, v :: st, M)
def x_ldi (len n : Nat) : Cf → Ex
  | (pc, L, st, M) => match lk L n with
    | some (.int x) => some (none, pc + len, L, .int x :: st, M)
    | _ => none
def x_ldl (len n : Nat) : Cf → Ex
  | (pc, L, st, M) => match lk L n with
    | some (.long x) => some (none, pc + len, L, .long x :: st, M)
    | _ => none
def x_lda (len n : Nat) : Cf → Ex
  | (pc, L, st, M) => match lk L n with
    | some (.ref x) => some (none, pc + len, L, .ref x :: st, M)
    | _ => none
def x_sti (len n : Nat) : Cf → Ex
  | (pc, L, .int x :: st, M) => some (none, pc + len, stL L n (.int x), st, M)
  | _ => none
def x_stl (len n : Nat) : Cf → Ex
  | (pc, L, .long x :: st, M) => some (none, pc + len, stL2 L n (.long x), st, M)
  | _ => none
def x_inc (len n : Nat) (v : Value) : Cf → Ex
  | (pc, L, st, M) => match lk L n, v with
    | some (.int x), .int k => some (none, pc + len, stL L n (.int (x + k)), st, M)
    | _, _ => none
def x_ii (len : Nat) (f : Int32 → Int32 → Int32) : Cf → Ex
  | (pc, L, .int y :: .int x :: st, M) => some (none, pc + len, L, .int (f x y) :: st, M)
  | _ => none
def x_iid (len : Nat) (f : Int32 → Int32 → Int32) : Cf → Ex
  | (pc, L, .int y :: .int x :: st, M) => some (some (¬ y = 0), pc + len, L, .int (f x y) :: st, M)
  | _ => none
def x_i (len : Nat) (f : Int32 → Value) : Cf → Ex
  | (pc, L, .int x :: st, M) => some (none, pc + len, L, f x :: st, M)
  | _ => none
def x_lmul (len : Nat) : Cf → Ex
  | (pc, L, .long y :: .long x :: st, M) => some (none, pc + len, L, .long (x * y) :: st, M)
  | _ => none
def x_lrem (len : Nat) : Cf → Ex
  | (pc, L, .long y :: .long x :: st, M) => some (some (¬ y = 0), pc + len, L, .long (lrm x y) :: st, M)
  | _ => none
def x_lcmp (len : Nat) : Cf → Ex
  | (pc, L, .long y :: .long x :: st, M) => some (none, pc + len, L, .int (lg_cmp x y) :: st, M)
  | _ => none
def x_l2i (len : Nat) : Cf → Ex
  | (pc, L, .long x :: st, M) => some (none, pc + len, L, .int x.toInt32 :: st, M)
  | _ => none
def cat1 : Value → Bool
  | .int _ => true
  | .ref _ => true
  | _ => false
def x_dup (len : Nat) : Cf → Ex
  | (pc, L, v :: st, M) => bif cat1 v then some (none, pc + len, L, v :: v :: st, M) else none
  | _ => none
def x_pop (len : Nat) : Cf → Ex
  | (pc, L, v :: st, M) => bif cat1 v then some (none, pc + len, L, st, M) else none
  | _ => none
def x_dup2 (len : Nat) : Cf → Ex
  | (pc, L, v :: w :: st, M) => bif cat1 v && cat1 w then some (none, pc + len, L, v :: w :: v :: w :: st, M) else none
  | _ => none
def x_jmp (a : Nat) : Cf → Ex
  | (_, L, st, M) => some (none, a, L, st, M)
def x_gf (len a b : Nat) : Cf → Ex
  | (pc, L, .ref k :: st, M) => match nth axl k with
    | some (.inr (c, fs)) => bif Nat.beq a c then (match nth fs b with
      | some none => some (none, pc + len, L, .int (M k b) :: st, M)
      | some (some q) => some (none, pc + len, L, .ref q :: st, M)
      | none => none) else none
    | _ => none
  | _ => none
def isB (c b : Nat) : Bool := (Nat.beq c 1 && Nat.beq b 0) || (Nat.beq c 7 && Nat.beq b 5)
def x_pf (len a b : Nat) : Cf → Ex
  | (pc, L, .int x :: .ref k :: st, M) => match nth axl k with
    | some (.inr (c, fs)) => bif Nat.beq a c then (match nth fs b with
      | some none => some (bif isB a b then some (x = 0 ∨ x = 1) else none, pc + len, L, st, mu M k b x)
      | _ => none) else none
    | _ => none
  | _ => none
def x_iald (len : Nat) : Cf → Ex
  | (pc, L, .int i :: .ref k :: st, M) => match nth axl k with
    | some (.inl (0, n)) => some (some (vp_in i n), pc + len, L, .int (M k i.toNatClampNeg) :: st, M)
    | some _ => none
    | none => bif Nat.blt 59 k && Nat.blt k 64 then some (some (vp_in i (alen M k)), pc + len, L, .int (M k i.toNatClampNeg) :: st, M) else none
  | _ => none
def x_bald (len : Nat) : Cf → Ex
  | (pc, L, .int i :: .ref k :: st, M) => match nth axl k with
    | some (.inl (1, n)) => some (some (vp_in i n), pc + len, L, .int (M k i.toNatClampNeg) :: st, M)
    | some (.inl (2, n)) => some (some (vp_in i n), pc + len, L, .int (M k i.toNatClampNeg) :: st, M)
    | _ => none
  | _ => none
def x_aald (len : Nat) : Cf → Ex
  | (pc, L, .int i :: .ref k :: st, M) => match nth axl k with
    | some (.inl (3, n)) => some (some (vp_in i n), pc + len, L, .ref (imgs i.toNatClampNeg) :: st, M)
    | _ => none
  | _ => none
def x_iast (len : Nat) : Cf → Ex
  | (pc, L, .int x :: .int i :: .ref k :: st, M) => match nth axl k with
    | some (.inl (0, n)) => some (some (vp_in i n), pc + len, L, st, mu M k i.toNatClampNeg x)
    | _ => none
  | _ => none
def x_bast (len : Nat) : Cf → Ex
  | (pc, L, .int x :: .int i :: .ref k :: st, M) => match nth axl k with
    | some (.inl (1, n)) => some (some (vp_in i n), pc + len, L, st, mu M k i.toNatClampNeg (vp_nar .byte x))
    | some (.inl (2, n)) => some (some (vp_in i n), pc + len, L, st, mu M k i.toNatClampNeg (vp_nar .boolean x))
    | _ => none
  | _ => none
def x_alen (len : Nat) : Cf → Ex
  | (pc, L, .ref k :: st, M) => bif Nat.beq k 63 then some (none, pc + len, L, .int (Int32.ofNat (alen M 63)) :: st, M) else none
  | _ => none
def cpOk (sp dp n : Int32) (n0 n1 : Nat) : Prop := ¬ sp < 0 ∧ ¬ dp < 0 ∧ ¬ n < 0 ∧ sp.toNatClampNeg + n.toNatClampNeg ≤ n0 ∧ dp.toNatClampNeg + n.toNatClampNeg ≤ n1
def x_copy (len : Nat) : Cf → Ex
  | (pc, L, .int n :: .int dp :: .ref k1 :: .int sp :: .ref k0 :: st, M) => match nth axl k0, nth axl k1 with
    | some (.inl (0, n0)), some (.inl (0, n1)) => bif Nat.ble (st.map Value.category).sum 8 then some (some (cpOk sp dp n n0 n1), pc + len, L, st, ms M k1 (va_cpy (M k0) (M k1) sp.toNatClampNeg dp.toNatClampNeg n.toNatClampNeg)) else none
    | _, _ => none
  | _ => none
/-- the instructions that go on at one place -/
def ex1 : AI → Cf → Ex
  | (ins, len, (a, b), v), c => match ins with
    | .aload_n n => x_lda len n c
    | .iload_n n => x_ldi len n c
    | .lload_n n => x_ldl len n c
    | .iload n => x_ldi len n c
    | .lload n => x_ldl len n c
    | .istore_n n => x_sti len n c
    | .istore n => x_sti len n c
    | .lstore_n n => x_stl len n c
    | .lstore n => x_stl len n c
    | .iinc n _ => x_inc len n v c
    | .iconst _ => x_psh len v c
    | .bipush _ => x_psh len v c
    | .sipush _ => x_psh len v c
    | .ldc _ => x_psh len v c
    | .ldc_w _ => x_psh len v c
    | .ldc2_w _ => x_psh len v c
    | .lconst _ => x_psh len v c
    | .iadd => x_ii len (fun x y => x + y) c
    | .isub => x_ii len (fun x y => x - y) c
    | .imul => x_ii len (fun x y => x * y) c
    | .iand => x_ii len (fun x y => x &&& y) c
    | .ior => x_ii len (fun x y => x ||| y) c
    | .ishl => x_ii len (fun x y => x <<< (y &&& 31)) c
    | .idiv => x_iid len (fun x y => x / y) c
    | .irem => x_iid len (fun x y => irm x y) c
    | .ineg => x_i len (fun x => .int (-x)) c
    | .i2l => x_i len (fun x => .long x.toInt64) c
    | .i2b => x_i len (fun x => .int x.toInt8.toInt32) c
    | .i2s => x_i len (fun x => .int x.toInt16.toInt32) c
    | .l2i => x_l2i len c
    | .lmul => x_lmul len c
    | .lrem => x_lrem len c
    | .lcmp => x_lcmp len c
    | .dup => x_dup len c
    | .dup2 => x_dup2 len c
    | .pop => x_pop len c
    | .goto _ => x_jmp a c
    | .getfield _ => x_gf len a b c
    | .putfield _ => x_pf len a b c
    | .getstatic _ => x_psh len (.ref a) c
    | .iaload => x_iald len c
    | .baload => x_bald len c
    | .aaload => x_aald len c
    | .iastore => x_iast len c
    | .bastore => x_bast len c
    | .arraylength => x_alen len c
    | .invokestatic _ => bif Nat.beq a 999 then x_copy len c else none
    | _ => none
def runB : List AI → Cf → Option (Prop × Cf)
  | [], c => some (True, c)
  | i :: is, c => match ex1 i c with
    | none => none
    | some (none, c1) => runB is c1
    | some (some g, c1) => match runB is c1 with
      | none => none
      | some (G, c2) => some (g ∧ G, c2)
/-- branches: what is asked, where it goes then, else -/
def brc : AI → Cf → Option (Prop × Cf × Cf)
  | (ins, _, (a, _), _), (pc, L, st, M) => match ins with
    | .if_icmp q _ => match st with
      | .int y :: .int x :: st => some ((match q with | .eq => x = y | .ne => ¬ x = y | .lt => x < y | .ge => y ≤ x | .gt => y < x | .le => x ≤ y), (a, L, st, M), (pc + 3, L, st, M))
      | _ => none
    | .ifCond q _ => match st with
      | .int x :: st => some ((match q with | .eq => x = 0 | .ne => ¬ x = 0 | .lt => x < 0 | .ge => 0 ≤ x | .gt => 0 < x | .le => x ≤ 0), (a, L, st, M), (pc + 3, L, st, M))
      | _ => none
    | _ => none
/-- switches: where a number leads (the offset) -/
def swOff : Instr → Int32 → Int
  | .tableswitch d lo hi offs, x => if x.toInt < lo ∨ hi < x.toInt then d else (offs.toList.getD (x.toInt - lo).toNat d)
  | .lookupswitch d ps, x => Op.lookupswitch.offset ps.toList d x.toInt
  | _, _ => 0
/-- calls: the method, what is passed, what stays below -/
def inv : AI → Cf → Option (Nat × List Value × List Value)
  | (ins, _, (a, n), _), (_, _, st, _) => match ins with
    | .invokevirtual _ => bif Nat.ble ((st.drop n).map Value.category).sum 8 && Nat.ble n st.length then some (a, (st.take n).reverse, st.drop n) else none
    | .invokestatic _ => bif Nat.ble ((st.drop n).map Value.category).sum 8 && Nat.ble n st.length && Nat.blt a 999 then some (a, (st.take n).reverse, st.drop n) else none
    | _ => none
/-- returns: 0 nothing, 1 a number, 2 true or false -/
def rtn (rk : Nat) : Instr → List Value → Option (Prop × Option Value)
  | .return_, [] => match rk with | 0 => some (True, none) | _ => none
  | .ireturn, [.int x] => match rk with | 1 => some (True, some (.int x)) | 2 => some (x = 0 ∨ x = 1, some (.int x)) | _ => none
  | _, _ => none
/-- fewer locals are known -/
def fgt : List (Option Value) → List (Option Value) → Prop
  | [], [] => True
  | o :: L, p :: K => (p = none ∨ p = o) ∧ fgt L K
  | _, _ => False
/-- is this the instruction at pc of the method -/
def okI (mi pc : Nat) : AI → Bool
  | (ins, len, (a, b), v) => decide (decode (mB mi) pc = .ok (ins, len)) && (match ins with
    | .istore_n n => Nat.blt n (mL mi) && Nat.beq len 1
    | .istore n => Nat.blt n (mL mi) && Nat.beq len 2
    | .lstore_n n => Nat.blt (n + 1) (mL mi) && Nat.beq len 1
    | .lstore n => Nat.blt (n + 1) (mL mi) && Nat.beq len 2
    | .iinc n k => Nat.blt n (mL mi) && Nat.beq len 3 && decide (v = .int (Int32.ofInt k))
    | .iconst k => Nat.beq len 1 && decide (v = .int (Int32.ofInt k))
    | .bipush k => Nat.beq len 2 && decide (v = .int (Int8.ofInt k).toInt32)
    | .sipush k => Nat.beq len 3 && decide (v = .int (Int16.ofInt k).toInt32)
    | .lconst k => Nat.beq len 1 && decide (v = .long (Int64.ofNat k))
    | .iload _ => Nat.beq len 2
    | .lload _ => Nat.beq len 2
    | .iload_n _ => Nat.beq len 1
    | .lload_n _ => Nat.beq len 1
    | .aload_n _ => Nat.beq len 1
    | .ldc k => Nat.beq len 2 && decide (((mC mi, k), v) ∈ q_con)
    | .ldc_w k => Nat.beq len 3 && decide (((mC mi, k), v) ∈ q_con)
    | .ldc2_w k => Nat.beq len 3 && decide (((mC mi, k), v) ∈ q_con)
    | .getfield k => decide (((mC mi, k), (a, b)) ∈ q_fld)
    | .putfield k => decide (((mC mi, k), (a, b)) ∈ q_fld)
    | .getstatic k => Nat.beq len 3 && decide (((mC mi, k), (a, b)) ∈ q_sta)
    | .invokevirtual k => decide (((mC mi, k), (a, b)) ∈ q_virt)
    | .invokestatic k => decide (((mC mi, k), (a, b)) ∈ q_stat)
    | .goto o => decide ((pc : Int) + o = (a : Int))
    | .if_icmp _ o => decide ((pc : Int) + o = (a : Int))
    | .ifCond _ o => decide ((pc : Int) + o = (a : Int))
    | .lookupswitch _ ps => (ps.toList.zip (ps.toList.drop 1)).all (fun (a, next) => a.1 < next.1)
    | .tableswitch _ lo hi offs => decide (lo ≤ hi) && decide ((offs.size : Int) = hi - lo + 1)
    | .putstatic _ => false
    | _ => true) && (match ins with
    | .getfield _ => Nat.beq len 3
    | .putfield _ => Nat.beq len 3
    | .invokevirtual _ => Nat.beq len 3
    | .invokestatic _ => Nat.beq len 3
    | .goto _ => Nat.beq len 3
    | .if_icmp _ _ => Nat.beq len 3
    | .ifCond _ _ => Nat.beq len 3
    | .lookupswitch _ _ => true
    | .tableswitch _ _ _ _ => true
    | .istore_n _ => true
    | .istore _ => true
    | .lstore_n _ => true
    | .lstore _ => true
    | .iinc _ _ => true
    | .bipush _ => true
    | .sipush _ => true
    | .iload _ => true
    | .lload _ => true
    | .ldc _ => true
    | .ldc_w _ => true
    | .ldc2_w _ => true
    | .getstatic _ => true
    | _ => Nat.beq len 1)
def nxt (pc : Nat) : AI → Nat
  | (ins, len, (a, _), _) => match ins with
    | .goto _ => a
    | _ => pc + len
def okB (mi : Nat) : Nat → List AI → Bool
  | _, [] => true
  | pc, i :: is => okI mi pc i && okB mi (nxt pc i) is
/-- a call's contract: at what it comes to -/
abbrev Ko : Type := Nat → List Value → Mm → (Option Value → Mm → Prop) → Prop
def Kmono (K : Ko) : Prop := ∀ (j : Nat) (as : List Value) (M : Mm) (P Q : Option Value → Mm → Prop), (∀ r M', P r M' → Q r M') → K j as M P → K j as M Q
/-- what is closed under the machine's steps, backwards -/
def Clo (K : Ko) (mi : Nat) (Post : Option Value → Mm → Prop) (X : Cf → Prop) : Prop :=
  (∀ (i : AI) (c : Cf) (g : Option Prop) (c' : Cf), okI mi c.1 i = true → ex1 i c = some (g, c') → (∀ q, g = some q → q) → X c' → X c) ∧
  (∀ (i : AI) (c : Cf) (P : Prop) (c1 c2 : Cf), okI mi c.1 i = true → brc i c = some (P, c1, c2) → (P → X c1) → (¬ P → X c2) → X c) ∧
  (∀ (i : AI) (pc t : Nat) (x : Int32) (L : List (Option Value)) (st : List Value) (M : Mm), okI mi pc i = true → (∃ d lo hi o, i.1 = .tableswitch d lo hi o) ∨ (∃ d ps, i.1 = .lookupswitch d ps) → (pc : Int) + swOff i.1 x = (t : Int) → X (t, L, st, M) → X (pc, L, .int x :: st, M)) ∧
  (∀ (i : AI) (pc j : Nat) (L : List (Option Value)) (st as rest : List Value) (M : Mm), okI mi pc i = true → inv i (pc, L, st, M) = some (j, as, rest) → K j as M (fun r M' => X (pc + 3, L, r.toList ++ rest, M')) → X (pc, L, st, M)) ∧
  (∀ (pc : Nat) (L L' : List (Option Value)) (st : List Value) (M : Mm), fgt L L' → X (pc, L', st, M) → X (pc, L, st, M)) ∧
  (∀ (i : AI) (pc : Nat) (L : List (Option Value)) (st : List Value) (M : Mm) (g : Prop) (r : Option Value), okI mi pc i = true → rtn (mR mi) i.1 st = some (g, r) → g → Post r M → X (pc, L, st, M))
/-- from here the method returns, with Post -/
def WP (K : Ko) (mi : Nat) (Post : Option Value → Mm → Prop) (c : Cf) : Prop := ∀ X : Cf → Prop, Clo K mi Post X → X c
def entL : Nat → List Value → List (Option Value)
  | n, [] => List.replicate n none
  | n, .long x :: vs => some (.long x) :: none :: entL (n - 2) vs
  | n, v :: vs => some v :: entL (n - 1) vs
/-- the methods' contracts, calls at most d deep -/
def Ct : Nat → Ko
  | 0, _, _, _, _ => False
  | d + 1, j, as, M, Post => (as.map Value.category).sum ≤ mL j ∧ WP (Ct d) j Post (0, entL (mL j) as, [], M)
end
section
/-! THE RULES of the small machine: a stretch, a branch, a switch, a call, a return, backwards -/
set_option maxHeartbeats 4000000 in
theorem ex1_pc {i : AI} {c c' : Cf} {g : Option Prop} (h : ex1 i c = some (g, c')) : c'.1 = nxt c.1 i := by
  obtain ⟨ins, len, ⟨a, b⟩, v⟩ := i
  obtain ⟨pc, L, st, M⟩ := c
  cases ins <;> simp only [ex1, reduceCtorEq] at h <;> simp only [nxt] <;>
    simp only [x_psh, x_ldi, x_ldl, x_lda, x_sti, x_stl, x_inc, x_ii, x_iid, x_i, x_lmul, x_lrem, x_lcmp, x_l2i, x_dup, x_pop, x_dup2, x_jmp, x_gf, x_pf, x_iald, x_bald, x_aald, x_iast, x_bast, x_alen, x_copy, cond] at h <;>
    (repeat' split at h) <;> simp only [Option.some.injEq, Prod.mk.injEq, reduceCtorEq] at h <;>
    (try (obtain ⟨-, rfl⟩ := h; first | rfl | (simp_all; done)))
theorem Clo.blk {K : Ko} {mi : Nat} {Post : Option Value → Mm → Prop} {X : Cf → Prop} (hX : Clo K mi Post X) : ∀ (is : List AI) (c c' : Cf) (G : Prop), okB mi c.1 is = true → runB is c = some (G, c') → G → X c' → X c
  | [], c, c', G, _, he, _, k => by
    simp only [runB, Option.some.injEq, Prod.mk.injEq] at he
    rw [he.2]; exact k
  | i :: is, c, c', G, hf, he, hg, k => by
    simp only [okB, Bool.and_eq_true] at hf
    simp only [runB] at he
    split at he
    · cases he
    · rename_i c1 h1
      exact hX.1 i c none c1 hf.1 h1 (fun q h => by cases h) (Clo.blk hX is c1 c' G (by rw [ex1_pc h1]; exact hf.2) he hg k)
    · rename_i g c1 h1
      split at he
      · cases he
      · rename_i G2 c2 h2
        simp only [Option.some.injEq, Prod.mk.injEq] at he
        obtain ⟨e1, e2⟩ := he
        subst e1; subst e2
        exact hX.1 i c (some g) c1 hf.1 h1 (fun q h => by cases h; exact hg.1) (Clo.blk hX is c1 c2 G2 (by rw [ex1_pc h1]; exact hf.2) h2 hg.2 k)
theorem WP.mono {K K' : Ko} (hK : ∀ j as M P, K j as M P → K' j as M P) {mi : Nat} {P Q : Option Value → Mm → Prop} (h : ∀ r M, P r M → Q r M) {c : Cf} (w : WP K mi P c) : WP K' mi Q c := by
  intro X hX
  obtain ⟨h1, h2, h3, h4, h5, h6⟩ := hX
  exact w X ⟨h1, h2, h3, fun i pc j L st as rest M a b k => h4 i pc j L st as rest M a b (hK _ _ _ _ k), h5, fun i pc L st M g r a b c d => h6 i pc L st M g r a b c (h _ _ d)⟩
theorem Ct.mono : ∀ d, Kmono (Ct d)
  | 0 => fun _ _ _ _ _ _ k => k
  | _ + 1 => fun _ _ _ _ _ h k => ⟨k.1, WP.mono (fun _ _ _ _ k => k) h k.2⟩
theorem Ct.up : ∀ (d : Nat) (j : Nat) (as : List Value) (M : Mm) (P : Option Value → Mm → Prop), Ct d j as M P → Ct (d + 1) j as M P
  | 0, _, _, _, _, k => k.elim
  | d + 1, _, _, _, _, k => ⟨k.1, WP.mono (Ct.up d) (fun _ _ h => h) k.2⟩
section Rules
variable {d mi : Nat} {Post : Option Value → Mm → Prop} {pc : Nat} {L : List (Option Value)} {st : List Value} {M : Mm}
theorem WP.blk (is : List AI) {G : Prop} {c' : Cf} (hf : okB mi pc is = true) (he : runB is (pc, L, st, M) = some (G, c')) (hg : G) (k : WP (Ct d) mi Post c') : WP (Ct d) mi Post (pc, L, st, M) :=
  fun X hX => Clo.blk hX is _ c' G hf he hg (k X hX)
theorem WP.br (i : AI) {P : Prop} {c1 c2 : Cf} (hf : okI mi pc i = true) (hb : brc i (pc, L, st, M) = some (P, c1, c2)) (k1 : P → WP (Ct d) mi Post c1) (k2 : ¬ P → WP (Ct d) mi Post c2) : WP (Ct d) mi Post (pc, L, st, M) :=
  fun X hX => hX.2.1 i _ P c1 c2 hf hb (fun h => k1 h X hX) (fun h => k2 h X hX)
theorem WP.sw (i : AI) (t : Nat) {x : Int32} (hf : okI mi pc i = true) (hi : (∃ d lo hi o, i.1 = .tableswitch d lo hi o) ∨ (∃ d ps, i.1 = .lookupswitch d ps)) (ht : (pc : Int) + swOff i.1 x = (t : Int)) (k : WP (Ct d) mi Post (t, L, st, M)) : WP (Ct d) mi Post (pc, L, .int x :: st, M) :=
  fun X hX => hX.2.2.1 i pc t x L st M hf hi ht (k X hX)
theorem WP.call (i : AI) {j : Nat} {as rest : List Value} (hf : okI mi pc i = true) (hi : inv i (pc, L, st, M) = some (j, as, rest)) (k : Ct d j as M (fun r M' => WP (Ct d) mi Post (pc + 3, L, r.toList ++ rest, M'))) : WP (Ct d) mi Post (pc, L, st, M) :=
  fun X hX => hX.2.2.2.1 i pc j L st as rest M hf hi (Ct.mono d j as M _ _ (fun _ _ w => w X hX) k)
theorem WP.fgt (L' : List (Option Value)) (h : fgt L L') (k : WP (Ct d) mi Post (pc, L', st, M)) : WP (Ct d) mi Post (pc, L, st, M) :=
  fun X hX => hX.2.2.2.2.1 pc L L' st M h (k X hX)
theorem WP.ret (i : AI) {rk : Nat} {g : Prop} {r : Option Value} (hk : mR mi = rk) (hf : okI mi pc i = true) (hr : rtn rk i.1 st = some (g, r)) (hg : g) (k : Post r M) : WP (Ct d) mi Post (pc, L, st, M) :=
  fun X hX => hX.2.2.2.2.2 i pc L st M g r hf (by rw [hk]; exact hr) hg k
theorem Ct.go {n : Nat} {as : List Value} (hn : mL mi = n) {E : List (Option Value)} (hc : (as.map Value.category).sum ≤ n) (he : entL n as = E) (k : WP (Ct d) mi Post (0, E, [], M)) : Ct (d + 1) mi as M Post := by
  subst hn; subst he
  exact ⟨hc, k⟩
end Rules
/-- a loop: how often at most, then what each round asks of the next -/
def lp {α : Type} (F : (α → Prop) → α → Prop) : Nat → α → Prop
  | 0, _ => False
  | n + 1, a => F (lp F n) a
theorem vp_lit {i : Int32} {n : Nat} (h : (decide (i < 0) || decide (n ≤ i.toNatClampNeg)) = false) : vp_in i n := by
  intro q
  rcases q with q | q <;> simp [q] at h
theorem ne_toInt {x k : Int32} (h : ¬ x = k) : ¬ x.toInt = k.toInt := fun q => h (Int32.toInt_inj.mp q)
theorem sw_out {d lo hi : Int} {offs : Array Int} {x : Int32} (h : ¬ (lo ≤ x.toInt ∧ x.toInt ≤ hi)) : swOff (.tableswitch d lo hi offs) x = d := by
  simp only [swOff]
  rw [if_pos (by omega)]
end
section
/-- GearRoad.within(III)Z -/
def S_within (M : Mm) (a1 : Int32) (a2 : Int32) (a3 : Int32) (Φ : Int32 → Prop) : Prop := ((a1 < a2 → Φ 0) ∧ (¬ (a1 < a2) → ((a3 < a1 → Φ 0) ∧ (¬ (a3 < a1) → Φ 1))))
set_option maxRecDepth 100000 in
set_option maxHeartbeats 4000000 in
theorem sp_within {d : Nat} {Post : Option Value → Mm → Prop} {M : Mm} {a1 : Int32} {a2 : Int32} {a3 : Int32} {Φ : Int32 → Prop} (h : S_within M a1 a2 a3 Φ) (hΦ : ∀ r, Φ r → Post (some (.int r)) M) : Ct (d + 1) 10 [.int a1, .int a2, .int a3] M Post := by
  refine Ct.go (n := 3) (E := [some (.int a1), some (.int a2), some (.int a3)]) (by decide +kernel) (by simp [Value.category]) rfl ?_
  refine WP.blk [(.iload_n 0, 1, (0, 0), .null), (.iload_n 1, 1, (0, 0), .null)] (G := True) (c' := (2, [some (.int a1), some (.int a2), some (.int a3)], [.int a2, .int a1], M)) (by decide +kernel) rfl trivial ?_
  refine WP.br (.if_icmp .lt 12, 3, (14, 0), .null) (by decide +kernel) rfl (fun c1 => ?_) (fun c1 => ?_)
  · replace h := h.1 c1
    refine WP.blk [(.iconst 0, 1, (0, 0), .int 0)] (G := True) (c' := (15, [some (.int a1), some (.int a2), some (.int a3)], [.int 0], M)) (by decide +kernel) rfl trivial ?_
    exact WP.ret (.ireturn, 1, (0, 0), .null) (rk := 2) (by decide +kernel) (by decide +kernel) rfl (by decide) (hΦ _ h)
  · replace h := h.2 c1
    refine WP.blk [(.iload_n 0, 1, (0, 0), .null), (.iload_n 2, 1, (0, 0), .null)] (G := True) (c' := (7, [some (.int a1), some (.int a2), some (.int a3)], [.int a3, .int a1], M)) (by decide +kernel) rfl trivial ?_
    refine WP.br (.if_icmp .gt 7, 3, (14, 0), .null) (by decide +kernel) rfl (fun c2 => ?_) (fun c2 => ?_)
    · replace h := h.1 c2
      refine WP.blk [(.iconst 0, 1, (0, 0), .int 0)] (G := True) (c' := (15, [some (.int a1), some (.int a2), some (.int a3)], [.int 0], M)) (by decide +kernel) rfl trivial ?_
      exact WP.ret (.ireturn, 1, (0, 0), .null) (rk := 2) (by decide +kernel) (by decide +kernel) rfl (by decide) (hΦ _ h)
    · replace h := h.2 c2
      refine WP.blk [(.iconst 1, 1, (0, 0), .int 1), (.goto 4, 3, (15, 0), .null)] (G := True) (c' := (15, [some (.int a1), some (.int a2), some (.int a3)], [.int 1], M)) (by decide +kernel) rfl trivial ?_
      exact WP.ret (.ireturn, 1, (0, 0), .null) (rk := 2) (by decide +kernel) (by decide +kernel) rfl (by decide) (hΦ _ h)
/-- GearRoad$Bike.hasPiece(I)Z -/
def S_Bike_hasPiece (k : Nat) (M : Mm) (a1 : Int32) (Φ : Int32 → Prop) : Prop := S_within M a1 0 ((M k 3) - 1) (fun r1 => ((r1 = 0 ∨ r1 = 1) ∧ Φ r1))
set_option maxRecDepth 100000 in
set_option maxHeartbeats 4000000 in
theorem sp_Bike_hasPiece {d : Nat} {Post : Option Value → Mm → Prop} {k : Nat} {M : Mm} {a1 : Int32} {Φ : Int32 → Prop} (hk : k = 7 ∨ k = 13) (h : S_Bike_hasPiece k M a1 Φ) (hΦ : ∀ r, Φ r → Post (some (.int r)) M) : Ct (d + 2) 45 [.ref k, .int a1] M Post := by
  rcases hk with rfl | rfl
  · refine Ct.go (n := 2) (E := [some (.ref 7), some (.int a1)]) (by decide +kernel) (by simp [Value.category]) rfl ?_
    refine WP.blk [(.iload_n 1, 1, (0, 0), .null), (.iconst 0, 1, (0, 0), .int 0), (.aload_n 0, 1, (0, 0), .null), (.getfield 22, 3, (1, 3), .null), (.iconst 1, 1, (0, 0), .int 1), (.isub, 1, (0, 0), .null)] (G := True) (c' := (8, [some (.ref 7), some (.int a1)], [.int ((M 7 3) - 1), .int 0, .int a1], M)) (by decide +kernel) rfl trivial ?_
    refine WP.call (.invokestatic 62, 3, (10, 3), .null) (by decide +kernel) rfl (sp_within (d := d + 0) h (fun r1 h => ?_))
    show WP (Ct (d + 1)) 45 Post (11, [some (.ref 7), some (.int a1)], [.int r1], M)
    exact WP.ret (.ireturn, 1, (0, 0), .null) (rk := 2) (by decide +kernel) (by decide +kernel) rfl h.1 (hΦ _ h.2)
  · refine Ct.go (n := 2) (E := [some (.ref 13), some (.int a1)]) (by decide +kernel) (by simp [Value.category]) rfl ?_
    refine WP.blk [(.iload_n 1, 1, (0, 0), .null), (.iconst 0, 1, (0, 0), .int 0), (.aload_n 0, 1, (0, 0), .null), (.getfield 22, 3, (1, 3), .null), (.iconst 1, 1, (0, 0), .int 1), (.isub, 1, (0, 0), .null)] (G := True) (c' := (8, [some (.ref 13), some (.int a1)], [.int ((M 13 3) - 1), .int 0, .int a1], M)) (by decide +kernel) rfl trivial ?_
    refine WP.call (.invokestatic 62, 3, (10, 3), .null) (by decide +kernel) rfl (sp_within (d := d + 0) h (fun r1 h => ?_))
    show WP (Ct (d + 1)) 45 Post (11, [some (.ref 13), some (.int a1)], [.int r1], M)
    exact WP.ret (.ireturn, 1, (0, 0), .null) (rk := 2) (by decide +kernel) (by decide +kernel) rfl h.1 (hΦ _ h.2)
/-- GearRoad$Bike.gear()I -/
def S_Bike_gear (k : Nat) (M : Mm) (Φ : Int32 → Prop) : Prop := Φ (((M k 5) * 6) + (M k 6))
set_option maxRecDepth 100000 in
set_option maxHeartbeats 4000000 in
theorem sp_Bike_gear {d : Nat} {Post : Option Value → Mm → Prop} {k : Nat} {M : Mm} {Φ : Int32 → Prop} (hk : k = 7 ∨ k = 13) (h : S_Bike_gear k M Φ) (hΦ : ∀ r, Φ r → Post (some (.int r)) M) : Ct (d + 1) 46 [.ref k] M Post := by
  rcases hk with rfl | rfl
  · refine Ct.go (n := 1) (E := [some (.ref 7)]) (by decide +kernel) (by simp [Value.category]) rfl ?_
    refine WP.blk [(.aload_n 0, 1, (0, 0), .null), (.getfield 28, 3, (1, 5), .null), (.bipush 6, 2, (0, 0), .int 6), (.imul, 1, (0, 0), .null), (.aload_n 0, 1, (0, 0), .null), (.getfield 31, 3, (1, 6), .null), (.iadd, 1, (0, 0), .null)] (G := True) (c' := (12, [some (.ref 7)], [.int (((M 7 5) * 6) + (M 7 6))], M)) (by decide +kernel) rfl trivial ?_
    exact WP.ret (.ireturn, 1, (0, 0), .null) (rk := 1) (by decide +kernel) (by decide +kernel) rfl trivial (hΦ _ h)
  · refine Ct.go (n := 1) (E := [some (.ref 13)]) (by decide +kernel) (by simp [Value.category]) rfl ?_
    refine WP.blk [(.aload_n 0, 1, (0, 0), .null), (.getfield 28, 3, (1, 5), .null), (.bipush 6, 2, (0, 0), .int 6), (.imul, 1, (0, 0), .null), (.aload_n 0, 1, (0, 0), .null), (.getfield 31, 3, (1, 6), .null), (.iadd, 1, (0, 0), .null)] (G := True) (c' := (12, [some (.ref 13)], [.int (((M 13 5) * 6) + (M 13 6))], M)) (by decide +kernel) rfl trivial ?_
    exact WP.ret (.ireturn, 1, (0, 0), .null) (rk := 1) (by decide +kernel) (by decide +kernel) rfl trivial (hΦ _ h)
/-- GearRoad$Bike.hasRing(I)Z -/
def S_Bike_hasRing (k : Nat) (M : Mm) (a1 : Int32) (Φ : Int32 → Prop) : Prop := S_within M a1 0 ((M k 1) - 1) (fun r1 => ((r1 = 0 ∨ r1 = 1) ∧ Φ r1))
set_option maxRecDepth 100000 in
set_option maxHeartbeats 4000000 in
theorem sp_Bike_hasRing {d : Nat} {Post : Option Value → Mm → Prop} {k : Nat} {M : Mm} {a1 : Int32} {Φ : Int32 → Prop} (hk : k = 7 ∨ k = 13) (h : S_Bike_hasRing k M a1 Φ) (hΦ : ∀ r, Φ r → Post (some (.int r)) M) : Ct (d + 2) 49 [.ref k, .int a1] M Post := by
  rcases hk with rfl | rfl
  · refine Ct.go (n := 2) (E := [some (.ref 7), some (.int a1)]) (by decide +kernel) (by simp [Value.category]) rfl ?_
    refine WP.blk [(.iload_n 1, 1, (0, 0), .null), (.iconst 0, 1, (0, 0), .int 0), (.aload_n 0, 1, (0, 0), .null), (.getfield 15, 3, (1, 1), .null), (.iconst 1, 1, (0, 0), .int 1), (.isub, 1, (0, 0), .null)] (G := True) (c' := (8, [some (.ref 7), some (.int a1)], [.int ((M 7 1) - 1), .int 0, .int a1], M)) (by decide +kernel) rfl trivial ?_
    refine WP.call (.invokestatic 62, 3, (10, 3), .null) (by decide +kernel) rfl (sp_within (d := d + 0) h (fun r1 h => ?_))
    show WP (Ct (d + 1)) 49 Post (11, [some (.ref 7), some (.int a1)], [.int r1], M)
    exact WP.ret (.ireturn, 1, (0, 0), .null) (rk := 2) (by decide +kernel) (by decide +kernel) rfl h.1 (hΦ _ h.2)
  · refine Ct.go (n := 2) (E := [some (.ref 13), some (.int a1)]) (by decide +kernel) (by simp [Value.category]) rfl ?_
    refine WP.blk [(.iload_n 1, 1, (0, 0), .null), (.iconst 0, 1, (0, 0), .int 0), (.aload_n 0, 1, (0, 0), .null), (.getfield 15, 3, (1, 1), .null), (.iconst 1, 1, (0, 0), .int 1), (.isub, 1, (0, 0), .null)] (G := True) (c' := (8, [some (.ref 13), some (.int a1)], [.int ((M 13 1) - 1), .int 0, .int a1], M)) (by decide +kernel) rfl trivial ?_
    refine WP.call (.invokestatic 62, 3, (10, 3), .null) (by decide +kernel) rfl (sp_within (d := d + 0) h (fun r1 h => ?_))
    show WP (Ct (d + 1)) 49 Post (11, [some (.ref 13), some (.int a1)], [.int r1], M)
    exact WP.ret (.ireturn, 1, (0, 0), .null) (rk := 2) (by decide +kernel) (by decide +kernel) rfl h.1 (hΦ _ h.2)
/-- GearRoad$Bike.hasCog(I)Z -/
def S_Bike_hasCog (k : Nat) (M : Mm) (a1 : Int32) (Φ : Int32 → Prop) : Prop := S_within M a1 0 ((M k 2) - 1) (fun r1 => ((r1 = 0 ∨ r1 = 1) ∧ Φ r1))
set_option maxRecDepth 100000 in
set_option maxHeartbeats 4000000 in
theorem sp_Bike_hasCog {d : Nat} {Post : Option Value → Mm → Prop} {k : Nat} {M : Mm} {a1 : Int32} {Φ : Int32 → Prop} (hk : k = 7 ∨ k = 13) (h : S_Bike_hasCog k M a1 Φ) (hΦ : ∀ r, Φ r → Post (some (.int r)) M) : Ct (d + 2) 50 [.ref k, .int a1] M Post := by
  rcases hk with rfl | rfl
  · refine Ct.go (n := 2) (E := [some (.ref 7), some (.int a1)]) (by decide +kernel) (by simp [Value.category]) rfl ?_
    refine WP.blk [(.iload_n 1, 1, (0, 0), .null), (.iconst 0, 1, (0, 0), .int 0), (.aload_n 0, 1, (0, 0), .null), (.getfield 19, 3, (1, 2), .null), (.iconst 1, 1, (0, 0), .int 1), (.isub, 1, (0, 0), .null)] (G := True) (c' := (8, [some (.ref 7), some (.int a1)], [.int ((M 7 2) - 1), .int 0, .int a1], M)) (by decide +kernel) rfl trivial ?_
    refine WP.call (.invokestatic 62, 3, (10, 3), .null) (by decide +kernel) rfl (sp_within (d := d + 0) h (fun r1 h => ?_))
    show WP (Ct (d + 1)) 50 Post (11, [some (.ref 7), some (.int a1)], [.int r1], M)
    exact WP.ret (.ireturn, 1, (0, 0), .null) (rk := 2) (by decide +kernel) (by decide +kernel) rfl h.1 (hΦ _ h.2)
  · refine Ct.go (n := 2) (E := [some (.ref 13), some (.int a1)]) (by decide +kernel) (by simp [Value.category]) rfl ?_
    refine WP.blk [(.iload_n 1, 1, (0, 0), .null), (.iconst 0, 1, (0, 0), .int 0), (.aload_n 0, 1, (0, 0), .null), (.getfield 19, 3, (1, 2), .null), (.iconst 1, 1, (0, 0), .int 1), (.isub, 1, (0, 0), .null)] (G := True) (c' := (8, [some (.ref 13), some (.int a1)], [.int ((M 13 2) - 1), .int 0, .int a1], M)) (by decide +kernel) rfl trivial ?_
    refine WP.call (.invokestatic 62, 3, (10, 3), .null) (by decide +kernel) rfl (sp_within (d := d + 0) h (fun r1 h => ?_))
    show WP (Ct (d + 1)) 50 Post (11, [some (.ref 13), some (.int a1)], [.int r1], M)
    exact WP.ret (.ireturn, 1, (0, 0), .null) (rk := 2) (by decide +kernel) (by decide +kernel) rfl h.1 (hΦ _ h.2)
/-- GearRoad$Bike.hasGear(I)Z -/
def S_Bike_hasGear (k : Nat) (M : Mm) (a1 : Int32) (Φ : Int32 → Prop) : Prop := ((a1 < 0 → Φ 0) ∧ (¬ (a1 < 0) → S_Bike_hasRing k M (a1 / 6) (fun r2 => ((r2 = 0 → Φ 0) ∧ (¬ (r2 = 0) → S_Bike_hasCog k M (irm a1 6) (fun r4 => ((r4 = 0 → Φ 0) ∧ (¬ (r4 = 0) → Φ 1))))))))
set_option maxRecDepth 100000 in
set_option maxHeartbeats 4000000 in
theorem sp_Bike_hasGear {d : Nat} {Post : Option Value → Mm → Prop} {k : Nat} {M : Mm} {a1 : Int32} {Φ : Int32 → Prop} (hk : k = 7 ∨ k = 13) (h : S_Bike_hasGear k M a1 Φ) (hΦ : ∀ r, Φ r → Post (some (.int r)) M) : Ct (d + 3) 48 [.ref k, .int a1] M Post := by
  rcases hk with rfl | rfl
  · refine Ct.go (n := 2) (E := [some (.ref 7), some (.int a1)]) (by decide +kernel) (by simp [Value.category]) rfl ?_
    refine WP.blk [(.iload_n 1, 1, (0, 0), .null)] (G := True) (c' := (1, [some (.ref 7), some (.int a1)], [.int a1], M)) (by decide +kernel) rfl trivial ?_
    refine WP.br (.ifCond .lt 29, 3, (30, 0), .null) (by decide +kernel) rfl (fun c1 => ?_) (fun c1 => ?_)
    · replace h := h.1 c1
      refine WP.blk [(.iconst 0, 1, (0, 0), .int 0)] (G := True) (c' := (31, [some (.ref 7), some (.int a1)], [.int 0], M)) (by decide +kernel) rfl trivial ?_
      exact WP.ret (.ireturn, 1, (0, 0), .null) (rk := 2) (by decide +kernel) (by decide +kernel) rfl (by decide) (hΦ _ h)
    · replace h := h.2 c1
      refine WP.blk [(.aload_n 0, 1, (0, 0), .null), (.iload_n 1, 1, (0, 0), .null), (.bipush 6, 2, (0, 0), .int 6), (.idiv, 1, (0, 0), .null)] (G := ¬ (6 : Int32) = 0 ∧ True) (c' := (9, [some (.ref 7), some (.int a1)], [.int (a1 / 6), .ref 7], M)) (by decide +kernel) rfl ⟨(by decide), trivial⟩ ?_
      refine WP.call (.invokevirtual 66, 3, (49, 2), .null) (by decide +kernel) rfl (sp_Bike_hasRing (d := d + 0) (by decide) h (fun r2 h => ?_))
      show WP (Ct (d + 2)) 48 Post (12, [some (.ref 7), some (.int a1)], [.int r2], M)
      refine WP.br (.ifCond .eq 18, 3, (30, 0), .null) (by decide +kernel) rfl (fun c3 => ?_) (fun c3 => ?_)
      · replace h := h.1 c3
        refine WP.blk [(.iconst 0, 1, (0, 0), .int 0)] (G := True) (c' := (31, [some (.ref 7), some (.int a1)], [.int 0], M)) (by decide +kernel) rfl trivial ?_
        exact WP.ret (.ireturn, 1, (0, 0), .null) (rk := 2) (by decide +kernel) (by decide +kernel) rfl (by decide) (hΦ _ h)
      · replace h := h.2 c3
        refine WP.blk [(.aload_n 0, 1, (0, 0), .null), (.iload_n 1, 1, (0, 0), .null), (.bipush 6, 2, (0, 0), .int 6), (.irem, 1, (0, 0), .null)] (G := ¬ (6 : Int32) = 0 ∧ True) (c' := (20, [some (.ref 7), some (.int a1)], [.int (irm a1 6), .ref 7], M)) (by decide +kernel) rfl ⟨(by decide), trivial⟩ ?_
        refine WP.call (.invokevirtual 70, 3, (50, 2), .null) (by decide +kernel) rfl (sp_Bike_hasCog (d := d + 0) (by decide) h (fun r4 h => ?_))
        show WP (Ct (d + 2)) 48 Post (23, [some (.ref 7), some (.int a1)], [.int r4], M)
        refine WP.br (.ifCond .eq 7, 3, (30, 0), .null) (by decide +kernel) rfl (fun c5 => ?_) (fun c5 => ?_)
        · replace h := h.1 c5
          refine WP.blk [(.iconst 0, 1, (0, 0), .int 0)] (G := True) (c' := (31, [some (.ref 7), some (.int a1)], [.int 0], M)) (by decide +kernel) rfl trivial ?_
          exact WP.ret (.ireturn, 1, (0, 0), .null) (rk := 2) (by decide +kernel) (by decide +kernel) rfl (by decide) (hΦ _ h)
        · replace h := h.2 c5
          refine WP.blk [(.iconst 1, 1, (0, 0), .int 1), (.goto 4, 3, (31, 0), .null)] (G := True) (c' := (31, [some (.ref 7), some (.int a1)], [.int 1], M)) (by decide +kernel) rfl trivial ?_
          exact WP.ret (.ireturn, 1, (0, 0), .null) (rk := 2) (by decide +kernel) (by decide +kernel) rfl (by decide) (hΦ _ h)
  · refine Ct.go (n := 2) (E := [some (.ref 13), some (.int a1)]) (by decide +kernel) (by simp [Value.category]) rfl ?_
    refine WP.blk [(.iload_n 1, 1, (0, 0), .null)] (G := True) (c' := (1, [some (.ref 13), some (.int a1)], [.int a1], M)) (by decide +kernel) rfl trivial ?_
    refine WP.br (.ifCond .lt 29, 3, (30, 0), .null) (by decide +kernel) rfl (fun c1 => ?_) (fun c1 => ?_)
    · replace h := h.1 c1
      refine WP.blk [(.iconst 0, 1, (0, 0), .int 0)] (G := True) (c' := (31, [some (.ref 13), some (.int a1)], [.int 0], M)) (by decide +kernel) rfl trivial ?_
      exact WP.ret (.ireturn, 1, (0, 0), .null) (rk := 2) (by decide +kernel) (by decide +kernel) rfl (by decide) (hΦ _ h)
    · replace h := h.2 c1
      refine WP.blk [(.aload_n 0, 1, (0, 0), .null), (.iload_n 1, 1, (0, 0), .null), (.bipush 6, 2, (0, 0), .int 6), (.idiv, 1, (0, 0), .null)] (G := ¬ (6 : Int32) = 0 ∧ True) (c' := (9, [some (.ref 13), some (.int a1)], [.int (a1 / 6), .ref 13], M)) (by decide +kernel) rfl ⟨(by decide), trivial⟩ ?_
      refine WP.call (.invokevirtual 66, 3, (49, 2), .null) (by decide +kernel) rfl (sp_Bike_hasRing (d := d + 0) (by decide) h (fun r2 h => ?_))
      show WP (Ct (d + 2)) 48 Post (12, [some (.ref 13), some (.int a1)], [.int r2], M)
      refine WP.br (.ifCond .eq 18, 3, (30, 0), .null) (by decide +kernel) rfl (fun c3 => ?_) (fun c3 => ?_)
      · replace h := h.1 c3
        refine WP.blk [(.iconst 0, 1, (0, 0), .int 0)] (G := True) (c' := (31, [some (.ref 13), some (.int a1)], [.int 0], M)) (by decide +kernel) rfl trivial ?_
        exact WP.ret (.ireturn, 1, (0, 0), .null) (rk := 2) (by decide +kernel) (by decide +kernel) rfl (by decide) (hΦ _ h)
      · replace h := h.2 c3
        refine WP.blk [(.aload_n 0, 1, (0, 0), .null), (.iload_n 1, 1, (0, 0), .null), (.bipush 6, 2, (0, 0), .int 6), (.irem, 1, (0, 0), .null)] (G := ¬ (6 : Int32) = 0 ∧ True) (c' := (20, [some (.ref 13), some (.int a1)], [.int (irm a1 6), .ref 13], M)) (by decide +kernel) rfl ⟨(by decide), trivial⟩ ?_
        refine WP.call (.invokevirtual 70, 3, (50, 2), .null) (by decide +kernel) rfl (sp_Bike_hasCog (d := d + 0) (by decide) h (fun r4 h => ?_))
        show WP (Ct (d + 2)) 48 Post (23, [some (.ref 13), some (.int a1)], [.int r4], M)
        refine WP.br (.ifCond .eq 7, 3, (30, 0), .null) (by decide +kernel) rfl (fun c5 => ?_) (fun c5 => ?_)
        · replace h := h.1 c5
          refine WP.blk [(.iconst 0, 1, (0, 0), .int 0)] (G := True) (c' := (31, [some (.ref 13), some (.int a1)], [.int 0], M)) (by decide +kernel) rfl trivial ?_
          exact WP.ret (.ireturn, 1, (0, 0), .null) (rk := 2) (by decide +kernel) (by decide +kernel) rfl (by decide) (hΦ _ h)
        · replace h := h.2 c5
          refine WP.blk [(.iconst 1, 1, (0, 0), .int 1), (.goto 4, 3, (31, 0), .null)] (G := True) (c' := (31, [some (.ref 13), some (.int a1)], [.int 1], M)) (by decide +kernel) rfl trivial ?_
          exact WP.ret (.ireturn, 1, (0, 0), .null) (rk := 2) (by decide +kernel) (by decide +kernel) rfl (by decide) (hΦ _ h)
/-- GearRoad$Bike.loadBy(IIII)I -/
def D_Bike_loadBy_28 (M : Mm) (Φ : Int32 → Prop) : Int32 → Prop
  | x1 => Φ (x1 - (x1 / 10))
def S_Bike_loadBy (M : Mm) (a1 : Int32) (a2 : Int32) (a3 : Int32) (a4 : Int32) (Φ : Int32 → Prop) : Prop := ((0 < a2 → ¬ a2 = 0 ∧ ((a3 = 4 → D_Bike_loadBy_28 M Φ ((((a4 + 1) * a1) * 10) / a2)) ∧ (¬ (a3 = 4) → ((a3 = 5 → D_Bike_loadBy_28 M Φ ((((a4 + 1) * a1) * 10) / a2)) ∧ (¬ (a3 = 5) → Φ ((((a4 + 1) * a1) * 10) / a2)))))) ∧ (¬ (0 < a2) → Φ 0))
set_option maxRecDepth 100000 in
set_option maxHeartbeats 4000000 in
theorem L_Bike_loadBy_28 {d : Nat} {Post : Option Value → Mm → Prop} {M : Mm} {Φ : Int32 → Prop} (hΦ : ∀ r, Φ r → Post (some (.int r)) M) : ∀ (x1 : Int32), D_Bike_loadBy_28 M Φ x1 → WP (Ct (d + 0)) 52 Post (28, [none, none, none, none, some (.int x1)], [], M) := by
  intro x1 h
  refine WP.blk [(.iload 4, 2, (0, 0), .null), (.iload 4, 2, (0, 0), .null), (.bipush 10, 2, (0, 0), .int 10), (.idiv, 1, (0, 0), .null), (.isub, 1, (0, 0), .null), (.goto 5, 3, (41, 0), .null)] (G := ¬ (10 : Int32) = 0 ∧ True) (c' := (41, [none, none, none, none, some (.int x1)], [.int (x1 - (x1 / 10))], M)) (by decide +kernel) rfl ⟨(by decide), trivial⟩ ?_
  exact WP.ret (.ireturn, 1, (0, 0), .null) (rk := 1) (by decide +kernel) (by decide +kernel) rfl trivial (hΦ _ h)
set_option maxRecDepth 100000 in
set_option maxHeartbeats 4000000 in
theorem sp_Bike_loadBy {d : Nat} {Post : Option Value → Mm → Prop} {M : Mm} {a1 : Int32} {a2 : Int32} {a3 : Int32} {a4 : Int32} {Φ : Int32 → Prop} (h : S_Bike_loadBy M a1 a2 a3 a4 Φ) (hΦ : ∀ r, Φ r → Post (some (.int r)) M) : Ct (d + 1) 52 [.int a1, .int a2, .int a3, .int a4] M Post := by
  refine Ct.go (n := 5) (E := [some (.int a1), some (.int a2), some (.int a3), some (.int a4), none]) (by decide +kernel) (by simp [Value.category]) rfl ?_
  refine WP.blk [(.iload_n 1, 1, (0, 0), .null)] (G := True) (c' := (1, [some (.int a1), some (.int a2), some (.int a3), some (.int a4), none], [.int a2], M)) (by decide +kernel) rfl trivial ?_
  refine WP.br (.ifCond .gt 5, 3, (6, 0), .null) (by decide +kernel) rfl (fun c1 => ?_) (fun c1 => ?_)
  · replace h := h.1 c1
    refine WP.blk [(.iload_n 3, 1, (0, 0), .null), (.iconst 1, 1, (0, 0), .int 1), (.iadd, 1, (0, 0), .null), (.iload_n 0, 1, (0, 0), .null), (.imul, 1, (0, 0), .null), (.bipush 10, 2, (0, 0), .int 10), (.imul, 1, (0, 0), .null), (.iload_n 1, 1, (0, 0), .null), (.idiv, 1, (0, 0), .null), (.istore 4, 2, (0, 0), .null), (.iload_n 2, 1, (0, 0), .null), (.iconst 4, 1, (0, 0), .int 4)] (G := ¬ a2 = 0 ∧ True) (c' := (20, [some (.int a1), some (.int a2), some (.int a3), some (.int a4), some (.int ((((a4 + 1) * a1) * 10) / a2))], [.int 4, .int a3], M)) (by decide +kernel) rfl ⟨h.1, trivial⟩ ?_
    replace h := h.2
    refine WP.br (.if_icmp .eq 8, 3, (28, 0), .null) (by decide +kernel) rfl (fun c2 => ?_) (fun c2 => ?_)
    · replace h := h.1 c2
      refine WP.fgt [none, none, none, none, some (.int ((((a4 + 1) * a1) * 10) / a2))] (by simp [fgt]) ?_
      exact L_Bike_loadBy_28 hΦ _ h
    · replace h := h.2 c2
      refine WP.blk [(.iload_n 2, 1, (0, 0), .null), (.iconst 5, 1, (0, 0), .int 5)] (G := True) (c' := (25, [some (.int a1), some (.int a2), some (.int a3), some (.int a4), some (.int ((((a4 + 1) * a1) * 10) / a2))], [.int 5, .int a3], M)) (by decide +kernel) rfl trivial ?_
      refine WP.br (.if_icmp .ne 14, 3, (39, 0), .null) (by decide +kernel) rfl (fun c3 => ?_) (fun c3 => ?_)
      · replace h := h.2 c3
        refine WP.blk [(.iload 4, 2, (0, 0), .null)] (G := True) (c' := (41, [some (.int a1), some (.int a2), some (.int a3), some (.int a4), some (.int ((((a4 + 1) * a1) * 10) / a2))], [.int ((((a4 + 1) * a1) * 10) / a2)], M)) (by decide +kernel) rfl trivial ?_
        exact WP.ret (.ireturn, 1, (0, 0), .null) (rk := 1) (by decide +kernel) (by decide +kernel) rfl trivial (hΦ _ h)
      · replace h := h.1 (Classical.not_not.mp c3)
        refine WP.fgt [none, none, none, none, some (.int ((((a4 + 1) * a1) * 10) / a2))] (by simp [fgt]) ?_
        exact L_Bike_loadBy_28 hΦ _ h
  · replace h := h.2 c1
    refine WP.blk [(.iconst 0, 1, (0, 0), .int 0)] (G := True) (c' := (5, [some (.int a1), some (.int a2), some (.int a3), some (.int a4), none], [.int 0], M)) (by decide +kernel) rfl trivial ?_
    exact WP.ret (.ireturn, 1, (0, 0), .null) (rk := 1) (by decide +kernel) (by decide +kernel) rfl trivial (hΦ _ h)
/-- GearRoad$Bike.loadOf(II)I -/
def S_Bike_loadOf (k : Nat) (M : Mm) (a1 : Int32) (a2 : Int32) (Φ : Int32 → Prop) : Prop := S_Bike_hasGear k M a1 (fun r1 => ((r1 = 0 → Φ 0) ∧ (¬ (r1 = 0) → vp_in (a1 / 6) 3 ∧ vp_in (irm a1 6) 6 ∧ vp_in (irm a1 6) 6 ∧ S_Bike_loadBy M (M (k + 1) (Int32.toNatClampNeg (a1 / 6))) (M (k + 3) (Int32.toNatClampNeg (irm a1 6))) (M (k + 2) (Int32.toNatClampNeg (irm a1 6))) a2 (fun r3 => Φ r3))))
set_option maxRecDepth 100000 in
set_option maxHeartbeats 4000000 in
theorem sp_Bike_loadOf {d : Nat} {Post : Option Value → Mm → Prop} {k : Nat} {M : Mm} {a1 : Int32} {a2 : Int32} {Φ : Int32 → Prop} (hk : k = 7 ∨ k = 13) (h : S_Bike_loadOf k M a1 a2 Φ) (hΦ : ∀ r, Φ r → Post (some (.int r)) M) : Ct (d + 4) 51 [.ref k, .int a1, .int a2] M Post := by
  rcases hk with rfl | rfl
  · refine Ct.go (n := 3) (E := [some (.ref 7), some (.int a1), some (.int a2)]) (by decide +kernel) (by simp [Value.category]) rfl ?_
    refine WP.blk [(.aload_n 0, 1, (0, 0), .null), (.iload_n 1, 1, (0, 0), .null)] (G := True) (c' := (2, [some (.ref 7), some (.int a1), some (.int a2)], [.int a1, .ref 7], M)) (by decide +kernel) rfl trivial ?_
    refine WP.call (.invokevirtual 73, 3, (48, 2), .null) (by decide +kernel) rfl (sp_Bike_hasGear (d := d + 0) (by decide) h (fun r1 h => ?_))
    show WP (Ct (d + 3)) 51 Post (5, [some (.ref 7), some (.int a1), some (.int a2)], [.int r1], M)
    refine WP.br (.ifCond .ne 5, 3, (10, 0), .null) (by decide +kernel) rfl (fun c2 => ?_) (fun c2 => ?_)
    · replace h := h.2 c2
      refine WP.blk [(.aload_n 0, 1, (0, 0), .null), (.getfield 40, 3, (1, 9), .null), (.iload_n 1, 1, (0, 0), .null), (.bipush 6, 2, (0, 0), .int 6), (.idiv, 1, (0, 0), .null), (.iaload, 1, (0, 0), .null), (.aload_n 0, 1, (0, 0), .null), (.getfield 47, 3, (1, 11), .null), (.iload_n 1, 1, (0, 0), .null), (.bipush 6, 2, (0, 0), .int 6), (.irem, 1, (0, 0), .null), (.iaload, 1, (0, 0), .null), (.aload_n 0, 1, (0, 0), .null), (.getfield 44, 3, (1, 10), .null), (.iload_n 1, 1, (0, 0), .null), (.bipush 6, 2, (0, 0), .int 6), (.irem, 1, (0, 0), .null), (.iaload, 1, (0, 0), .null), (.iload_n 2, 1, (0, 0), .null)] (G := ¬ (6 : Int32) = 0 ∧ vp_in (a1 / 6) 3 ∧ ¬ (6 : Int32) = 0 ∧ vp_in (irm a1 6) 6 ∧ ¬ (6 : Int32) = 0 ∧ vp_in (irm a1 6) 6 ∧ True) (c' := (38, [some (.ref 7), some (.int a1), some (.int a2)], [.int a2, .int (M 9 (Int32.toNatClampNeg (irm a1 6))), .int (M 10 (Int32.toNatClampNeg (irm a1 6))), .int (M 8 (Int32.toNatClampNeg (a1 / 6)))], M)) (by decide +kernel) rfl ⟨(by decide), h.1, (by decide), h.2.1, (by decide), h.2.2.1, trivial⟩ ?_
      replace h := h.2.2.2
      refine WP.call (.invokestatic 76, 3, (52, 4), .null) (by decide +kernel) rfl (sp_Bike_loadBy (d := d + 2) h (fun r3 h => ?_))
      show WP (Ct (d + 3)) 51 Post (41, [some (.ref 7), some (.int a1), some (.int a2)], [.int r3], M)
      exact WP.ret (.ireturn, 1, (0, 0), .null) (rk := 1) (by decide +kernel) (by decide +kernel) rfl trivial (hΦ _ h)
    · replace h := h.1 (Classical.not_not.mp c2)
      refine WP.blk [(.iconst 0, 1, (0, 0), .int 0)] (G := True) (c' := (9, [some (.ref 7), some (.int a1), some (.int a2)], [.int 0], M)) (by decide +kernel) rfl trivial ?_
      exact WP.ret (.ireturn, 1, (0, 0), .null) (rk := 1) (by decide +kernel) (by decide +kernel) rfl trivial (hΦ _ h)
  · refine Ct.go (n := 3) (E := [some (.ref 13), some (.int a1), some (.int a2)]) (by decide +kernel) (by simp [Value.category]) rfl ?_
    refine WP.blk [(.aload_n 0, 1, (0, 0), .null), (.iload_n 1, 1, (0, 0), .null)] (G := True) (c' := (2, [some (.ref 13), some (.int a1), some (.int a2)], [.int a1, .ref 13], M)) (by decide +kernel) rfl trivial ?_
    refine WP.call (.invokevirtual 73, 3, (48, 2), .null) (by decide +kernel) rfl (sp_Bike_hasGear (d := d + 0) (by decide) h (fun r1 h => ?_))
    show WP (Ct (d + 3)) 51 Post (5, [some (.ref 13), some (.int a1), some (.int a2)], [.int r1], M)
    refine WP.br (.ifCond .ne 5, 3, (10, 0), .null) (by decide +kernel) rfl (fun c2 => ?_) (fun c2 => ?_)
    · replace h := h.2 c2
      refine WP.blk [(.aload_n 0, 1, (0, 0), .null), (.getfield 40, 3, (1, 9), .null), (.iload_n 1, 1, (0, 0), .null), (.bipush 6, 2, (0, 0), .int 6), (.idiv, 1, (0, 0), .null), (.iaload, 1, (0, 0), .null), (.aload_n 0, 1, (0, 0), .null), (.getfield 47, 3, (1, 11), .null), (.iload_n 1, 1, (0, 0), .null), (.bipush 6, 2, (0, 0), .int 6), (.irem, 1, (0, 0), .null), (.iaload, 1, (0, 0), .null), (.aload_n 0, 1, (0, 0), .null), (.getfield 44, 3, (1, 10), .null), (.iload_n 1, 1, (0, 0), .null), (.bipush 6, 2, (0, 0), .int 6), (.irem, 1, (0, 0), .null), (.iaload, 1, (0, 0), .null), (.iload_n 2, 1, (0, 0), .null)] (G := ¬ (6 : Int32) = 0 ∧ vp_in (a1 / 6) 3 ∧ ¬ (6 : Int32) = 0 ∧ vp_in (irm a1 6) 6 ∧ ¬ (6 : Int32) = 0 ∧ vp_in (irm a1 6) 6 ∧ True) (c' := (38, [some (.ref 13), some (.int a1), some (.int a2)], [.int a2, .int (M 15 (Int32.toNatClampNeg (irm a1 6))), .int (M 16 (Int32.toNatClampNeg (irm a1 6))), .int (M 14 (Int32.toNatClampNeg (a1 / 6)))], M)) (by decide +kernel) rfl ⟨(by decide), h.1, (by decide), h.2.1, (by decide), h.2.2.1, trivial⟩ ?_
      replace h := h.2.2.2
      refine WP.call (.invokestatic 76, 3, (52, 4), .null) (by decide +kernel) rfl (sp_Bike_loadBy (d := d + 2) h (fun r3 h => ?_))
      show WP (Ct (d + 3)) 51 Post (41, [some (.ref 13), some (.int a1), some (.int a2)], [.int r3], M)
      exact WP.ret (.ireturn, 1, (0, 0), .null) (rk := 1) (by decide +kernel) (by decide +kernel) rfl trivial (hΦ _ h)
    · replace h := h.1 (Classical.not_not.mp c2)
      refine WP.blk [(.iconst 0, 1, (0, 0), .int 0)] (G := True) (c' := (9, [some (.ref 13), some (.int a1), some (.int a2)], [.int 0], M)) (by decide +kernel) rfl trivial ?_
      exact WP.ret (.ireturn, 1, (0, 0), .null) (rk := 1) (by decide +kernel) (by decide +kernel) rfl trivial (hΦ _ h)
/-- GearRoad$Bike.bears(II)Z -/
def S_Bike_bears (k : Nat) (M : Mm) (a1 : Int32) (a2 : Int32) (Φ : Int32 → Prop) : Prop := S_Bike_hasGear k M a1 (fun r1 => ((r1 = 0 → Φ 0) ∧ (¬ (r1 = 0) → S_Bike_loadOf k M a1 a2 (fun r3 => (((M k 4) < r3 → Φ 0) ∧ (¬ ((M k 4) < r3) → Φ 1))))))
set_option maxRecDepth 100000 in
set_option maxHeartbeats 4000000 in
theorem sp_Bike_bears {d : Nat} {Post : Option Value → Mm → Prop} {k : Nat} {M : Mm} {a1 : Int32} {a2 : Int32} {Φ : Int32 → Prop} (hk : k = 7 ∨ k = 13) (h : S_Bike_bears k M a1 a2 Φ) (hΦ : ∀ r, Φ r → Post (some (.int r)) M) : Ct (d + 5) 47 [.ref k, .int a1, .int a2] M Post := by
  rcases hk with rfl | rfl
  · refine Ct.go (n := 3) (E := [some (.ref 7), some (.int a1), some (.int a2)]) (by decide +kernel) (by simp [Value.category]) rfl ?_
    refine WP.blk [(.aload_n 0, 1, (0, 0), .null), (.iload_n 1, 1, (0, 0), .null)] (G := True) (c' := (2, [some (.ref 7), some (.int a1), some (.int a2)], [.int a1, .ref 7], M)) (by decide +kernel) rfl trivial ?_
    refine WP.call (.invokevirtual 73, 3, (48, 2), .null) (by decide +kernel) rfl (sp_Bike_hasGear (d := d + 1) (by decide) h (fun r1 h => ?_))
    show WP (Ct (d + 4)) 47 Post (5, [some (.ref 7), some (.int a1), some (.int a2)], [.int r1], M)
    refine WP.br (.ifCond .eq 20, 3, (25, 0), .null) (by decide +kernel) rfl (fun c2 => ?_) (fun c2 => ?_)
    · replace h := h.1 c2
      refine WP.blk [(.iconst 0, 1, (0, 0), .int 0)] (G := True) (c' := (26, [some (.ref 7), some (.int a1), some (.int a2)], [.int 0], M)) (by decide +kernel) rfl trivial ?_
      exact WP.ret (.ireturn, 1, (0, 0), .null) (rk := 2) (by decide +kernel) (by decide +kernel) rfl (by decide) (hΦ _ h)
    · replace h := h.2 c2
      refine WP.blk [(.aload_n 0, 1, (0, 0), .null), (.iload_n 1, 1, (0, 0), .null), (.iload_n 2, 1, (0, 0), .null)] (G := True) (c' := (11, [some (.ref 7), some (.int a1), some (.int a2)], [.int a2, .int a1, .ref 7], M)) (by decide +kernel) rfl trivial ?_
      refine WP.call (.invokevirtual 84, 3, (51, 3), .null) (by decide +kernel) rfl (sp_Bike_loadOf (d := d + 0) (by decide) h (fun r3 h => ?_))
      show WP (Ct (d + 4)) 47 Post (14, [some (.ref 7), some (.int a1), some (.int a2)], [.int r3], M)
      refine WP.blk [(.aload_n 0, 1, (0, 0), .null), (.getfield 25, 3, (1, 4), .null)] (G := True) (c' := (18, [some (.ref 7), some (.int a1), some (.int a2)], [.int (M 7 4), .int r3], M)) (by decide +kernel) rfl trivial ?_
      refine WP.br (.if_icmp .gt 7, 3, (25, 0), .null) (by decide +kernel) rfl (fun c4 => ?_) (fun c4 => ?_)
      · replace h := h.1 c4
        refine WP.blk [(.iconst 0, 1, (0, 0), .int 0)] (G := True) (c' := (26, [some (.ref 7), some (.int a1), some (.int a2)], [.int 0], M)) (by decide +kernel) rfl trivial ?_
        exact WP.ret (.ireturn, 1, (0, 0), .null) (rk := 2) (by decide +kernel) (by decide +kernel) rfl (by decide) (hΦ _ h)
      · replace h := h.2 c4
        refine WP.blk [(.iconst 1, 1, (0, 0), .int 1), (.goto 4, 3, (26, 0), .null)] (G := True) (c' := (26, [some (.ref 7), some (.int a1), some (.int a2)], [.int 1], M)) (by decide +kernel) rfl trivial ?_
        exact WP.ret (.ireturn, 1, (0, 0), .null) (rk := 2) (by decide +kernel) (by decide +kernel) rfl (by decide) (hΦ _ h)
  · refine Ct.go (n := 3) (E := [some (.ref 13), some (.int a1), some (.int a2)]) (by decide +kernel) (by simp [Value.category]) rfl ?_
    refine WP.blk [(.aload_n 0, 1, (0, 0), .null), (.iload_n 1, 1, (0, 0), .null)] (G := True) (c' := (2, [some (.ref 13), some (.int a1), some (.int a2)], [.int a1, .ref 13], M)) (by decide +kernel) rfl trivial ?_
    refine WP.call (.invokevirtual 73, 3, (48, 2), .null) (by decide +kernel) rfl (sp_Bike_hasGear (d := d + 1) (by decide) h (fun r1 h => ?_))
    show WP (Ct (d + 4)) 47 Post (5, [some (.ref 13), some (.int a1), some (.int a2)], [.int r1], M)
    refine WP.br (.ifCond .eq 20, 3, (25, 0), .null) (by decide +kernel) rfl (fun c2 => ?_) (fun c2 => ?_)
    · replace h := h.1 c2
      refine WP.blk [(.iconst 0, 1, (0, 0), .int 0)] (G := True) (c' := (26, [some (.ref 13), some (.int a1), some (.int a2)], [.int 0], M)) (by decide +kernel) rfl trivial ?_
      exact WP.ret (.ireturn, 1, (0, 0), .null) (rk := 2) (by decide +kernel) (by decide +kernel) rfl (by decide) (hΦ _ h)
    · replace h := h.2 c2
      refine WP.blk [(.aload_n 0, 1, (0, 0), .null), (.iload_n 1, 1, (0, 0), .null), (.iload_n 2, 1, (0, 0), .null)] (G := True) (c' := (11, [some (.ref 13), some (.int a1), some (.int a2)], [.int a2, .int a1, .ref 13], M)) (by decide +kernel) rfl trivial ?_
      refine WP.call (.invokevirtual 84, 3, (51, 3), .null) (by decide +kernel) rfl (sp_Bike_loadOf (d := d + 0) (by decide) h (fun r3 h => ?_))
      show WP (Ct (d + 4)) 47 Post (14, [some (.ref 13), some (.int a1), some (.int a2)], [.int r3], M)
      refine WP.blk [(.aload_n 0, 1, (0, 0), .null), (.getfield 25, 3, (1, 4), .null)] (G := True) (c' := (18, [some (.ref 13), some (.int a1), some (.int a2)], [.int (M 13 4), .int r3], M)) (by decide +kernel) rfl trivial ?_
      refine WP.br (.if_icmp .gt 7, 3, (25, 0), .null) (by decide +kernel) rfl (fun c4 => ?_) (fun c4 => ?_)
      · replace h := h.1 c4
        refine WP.blk [(.iconst 0, 1, (0, 0), .int 0)] (G := True) (c' := (26, [some (.ref 13), some (.int a1), some (.int a2)], [.int 0], M)) (by decide +kernel) rfl trivial ?_
        exact WP.ret (.ireturn, 1, (0, 0), .null) (rk := 2) (by decide +kernel) (by decide +kernel) rfl (by decide) (hΦ _ h)
      · replace h := h.2 c4
        refine WP.blk [(.iconst 1, 1, (0, 0), .int 1), (.goto 4, 3, (26, 0), .null)] (G := True) (c' := (26, [some (.ref 13), some (.int a1), some (.int a2)], [.int 1], M)) (by decide +kernel) rfl trivial ?_
        exact WP.ret (.ireturn, 1, (0, 0), .null) (rk := 2) (by decide +kernel) (by decide +kernel) rfl (by decide) (hΦ _ h)
/-- GearRoad$Bike.canRide()Z -/
def S_Bike_canRide (k : Nat) (M : Mm) (Φ : Int32 → Prop) : Prop := S_Bike_hasPiece k M (M k 7) (fun r1 => ((r1 = 0 → Φ 0) ∧ (¬ (r1 = 0) → S_Bike_gear k M (fun r3 => vp_in (M k 7) 6 ∧ S_Bike_bears k M r3 (M (k + 5) (Int32.toNatClampNeg (M k 7))) (fun r4 => ((r4 = 0 → Φ 0) ∧ (¬ (r4 = 0) → Φ 1)))))))
set_option maxRecDepth 100000 in
set_option maxHeartbeats 4000000 in
theorem sp_Bike_canRide {d : Nat} {Post : Option Value → Mm → Prop} {k : Nat} {M : Mm} {Φ : Int32 → Prop} (hk : k = 7 ∨ k = 13) (h : S_Bike_canRide k M Φ) (hΦ : ∀ r, Φ r → Post (some (.int r)) M) : Ct (d + 6) 44 [.ref k] M Post := by
  rcases hk with rfl | rfl
  · refine Ct.go (n := 1) (E := [some (.ref 7)]) (by decide +kernel) (by simp [Value.category]) rfl ?_
    refine WP.blk [(.aload_n 0, 1, (0, 0), .null), (.aload_n 0, 1, (0, 0), .null), (.getfield 34, 3, (1, 7), .null)] (G := True) (c' := (5, [some (.ref 7)], [.int (M 7 7), .ref 7], M)) (by decide +kernel) rfl trivial ?_
    refine WP.call (.invokevirtual 92, 3, (45, 2), .null) (by decide +kernel) rfl (sp_Bike_hasPiece (d := d + 3) (by decide) h (fun r1 h => ?_))
    show WP (Ct (d + 5)) 44 Post (8, [some (.ref 7)], [.int r1], M)
    refine WP.br (.ifCond .eq 27, 3, (35, 0), .null) (by decide +kernel) rfl (fun c2 => ?_) (fun c2 => ?_)
    · replace h := h.1 c2
      refine WP.blk [(.iconst 0, 1, (0, 0), .int 0)] (G := True) (c' := (36, [some (.ref 7)], [.int 0], M)) (by decide +kernel) rfl trivial ?_
      exact WP.ret (.ireturn, 1, (0, 0), .null) (rk := 2) (by decide +kernel) (by decide +kernel) rfl (by decide) (hΦ _ h)
    · replace h := h.2 c2
      refine WP.blk [(.aload_n 0, 1, (0, 0), .null), (.aload_n 0, 1, (0, 0), .null)] (G := True) (c' := (13, [some (.ref 7)], [.ref 7, .ref 7], M)) (by decide +kernel) rfl trivial ?_
      refine WP.call (.invokevirtual 95, 3, (46, 1), .null) (by decide +kernel) rfl (sp_Bike_gear (d := d + 4) (by decide) h (fun r3 h => ?_))
      show WP (Ct (d + 5)) 44 Post (16, [some (.ref 7)], [.int r3, .ref 7], M)
      refine WP.blk [(.aload_n 0, 1, (0, 0), .null), (.getfield 53, 3, (1, 13), .null), (.aload_n 0, 1, (0, 0), .null), (.getfield 34, 3, (1, 7), .null), (.iaload, 1, (0, 0), .null)] (G := vp_in (M 7 7) 6 ∧ True) (c' := (25, [some (.ref 7)], [.int (M 12 (Int32.toNatClampNeg (M 7 7))), .int r3, .ref 7], M)) (by decide +kernel) rfl ⟨h.1, trivial⟩ ?_
      replace h := h.2
      refine WP.call (.invokevirtual 88, 3, (47, 3), .null) (by decide +kernel) rfl (sp_Bike_bears (d := d + 0) (by decide) h (fun r4 h => ?_))
      show WP (Ct (d + 5)) 44 Post (28, [some (.ref 7)], [.int r4], M)
      refine WP.br (.ifCond .eq 7, 3, (35, 0), .null) (by decide +kernel) rfl (fun c5 => ?_) (fun c5 => ?_)
      · replace h := h.1 c5
        refine WP.blk [(.iconst 0, 1, (0, 0), .int 0)] (G := True) (c' := (36, [some (.ref 7)], [.int 0], M)) (by decide +kernel) rfl trivial ?_
        exact WP.ret (.ireturn, 1, (0, 0), .null) (rk := 2) (by decide +kernel) (by decide +kernel) rfl (by decide) (hΦ _ h)
      · replace h := h.2 c5
        refine WP.blk [(.iconst 1, 1, (0, 0), .int 1), (.goto 4, 3, (36, 0), .null)] (G := True) (c' := (36, [some (.ref 7)], [.int 1], M)) (by decide +kernel) rfl trivial ?_
        exact WP.ret (.ireturn, 1, (0, 0), .null) (rk := 2) (by decide +kernel) (by decide +kernel) rfl (by decide) (hΦ _ h)
  · refine Ct.go (n := 1) (E := [some (.ref 13)]) (by decide +kernel) (by simp [Value.category]) rfl ?_
    refine WP.blk [(.aload_n 0, 1, (0, 0), .null), (.aload_n 0, 1, (0, 0), .null), (.getfield 34, 3, (1, 7), .null)] (G := True) (c' := (5, [some (.ref 13)], [.int (M 13 7), .ref 13], M)) (by decide +kernel) rfl trivial ?_
    refine WP.call (.invokevirtual 92, 3, (45, 2), .null) (by decide +kernel) rfl (sp_Bike_hasPiece (d := d + 3) (by decide) h (fun r1 h => ?_))
    show WP (Ct (d + 5)) 44 Post (8, [some (.ref 13)], [.int r1], M)
    refine WP.br (.ifCond .eq 27, 3, (35, 0), .null) (by decide +kernel) rfl (fun c2 => ?_) (fun c2 => ?_)
    · replace h := h.1 c2
      refine WP.blk [(.iconst 0, 1, (0, 0), .int 0)] (G := True) (c' := (36, [some (.ref 13)], [.int 0], M)) (by decide +kernel) rfl trivial ?_
      exact WP.ret (.ireturn, 1, (0, 0), .null) (rk := 2) (by decide +kernel) (by decide +kernel) rfl (by decide) (hΦ _ h)
    · replace h := h.2 c2
      refine WP.blk [(.aload_n 0, 1, (0, 0), .null), (.aload_n 0, 1, (0, 0), .null)] (G := True) (c' := (13, [some (.ref 13)], [.ref 13, .ref 13], M)) (by decide +kernel) rfl trivial ?_
      refine WP.call (.invokevirtual 95, 3, (46, 1), .null) (by decide +kernel) rfl (sp_Bike_gear (d := d + 4) (by decide) h (fun r3 h => ?_))
      show WP (Ct (d + 5)) 44 Post (16, [some (.ref 13)], [.int r3, .ref 13], M)
      refine WP.blk [(.aload_n 0, 1, (0, 0), .null), (.getfield 53, 3, (1, 13), .null), (.aload_n 0, 1, (0, 0), .null), (.getfield 34, 3, (1, 7), .null), (.iaload, 1, (0, 0), .null)] (G := vp_in (M 13 7) 6 ∧ True) (c' := (25, [some (.ref 13)], [.int (M 18 (Int32.toNatClampNeg (M 13 7))), .int r3, .ref 13], M)) (by decide +kernel) rfl ⟨h.1, trivial⟩ ?_
      replace h := h.2
      refine WP.call (.invokevirtual 88, 3, (47, 3), .null) (by decide +kernel) rfl (sp_Bike_bears (d := d + 0) (by decide) h (fun r4 h => ?_))
      show WP (Ct (d + 5)) 44 Post (28, [some (.ref 13)], [.int r4], M)
      refine WP.br (.ifCond .eq 7, 3, (35, 0), .null) (by decide +kernel) rfl (fun c5 => ?_) (fun c5 => ?_)
      · replace h := h.1 c5
        refine WP.blk [(.iconst 0, 1, (0, 0), .int 0)] (G := True) (c' := (36, [some (.ref 13)], [.int 0], M)) (by decide +kernel) rfl trivial ?_
        exact WP.ret (.ireturn, 1, (0, 0), .null) (rk := 2) (by decide +kernel) (by decide +kernel) rfl (by decide) (hΦ _ h)
      · replace h := h.2 c5
        refine WP.blk [(.iconst 1, 1, (0, 0), .int 1), (.goto 4, 3, (36, 0), .null)] (G := True) (c' := (36, [some (.ref 13)], [.int 1], M)) (by decide +kernel) rfl trivial ?_
        exact WP.ret (.ireturn, 1, (0, 0), .null) (rk := 2) (by decide +kernel) (by decide +kernel) rfl (by decide) (hΦ _ h)
/-- GearRoad$Bike.turnsBy(III)I -/
def S_Bike_turnsBy (M : Mm) (a1 : Int32) (a2 : Int32) (a3 : Int32) (Φ : Int32 → Prop) : Prop := ((0 < a1 → ¬ a1 = 0 ∧ ((a3 = 2 → Φ ((((100 * a2) / a1) + 1) + ((((100 * a2) / a1) + 1) / 4))) ∧ (¬ (a3 = 2) → Φ (((100 * a2) / a1) + 1)))) ∧ (¬ (0 < a1) → Φ 0))
set_option maxRecDepth 100000 in
set_option maxHeartbeats 4000000 in
theorem sp_Bike_turnsBy {d : Nat} {Post : Option Value → Mm → Prop} {M : Mm} {a1 : Int32} {a2 : Int32} {a3 : Int32} {Φ : Int32 → Prop} (h : S_Bike_turnsBy M a1 a2 a3 Φ) (hΦ : ∀ r, Φ r → Post (some (.int r)) M) : Ct (d + 1) 57 [.int a1, .int a2, .int a3] M Post := by
  refine Ct.go (n := 4) (E := [some (.int a1), some (.int a2), some (.int a3), none]) (by decide +kernel) (by simp [Value.category]) rfl ?_
  refine WP.blk [(.iload_n 0, 1, (0, 0), .null)] (G := True) (c' := (1, [some (.int a1), some (.int a2), some (.int a3), none], [.int a1], M)) (by decide +kernel) rfl trivial ?_
  refine WP.br (.ifCond .gt 5, 3, (6, 0), .null) (by decide +kernel) rfl (fun c1 => ?_) (fun c1 => ?_)
  · replace h := h.1 c1
    refine WP.blk [(.bipush 100, 2, (0, 0), .int 100), (.iload_n 1, 1, (0, 0), .null), (.imul, 1, (0, 0), .null), (.iload_n 0, 1, (0, 0), .null), (.idiv, 1, (0, 0), .null), (.iconst 1, 1, (0, 0), .int 1), (.iadd, 1, (0, 0), .null), (.istore_n 3, 1, (0, 0), .null), (.iload_n 2, 1, (0, 0), .null), (.iconst 2, 1, (0, 0), .int 2)] (G := ¬ a1 = 0 ∧ True) (c' := (17, [some (.int a1), some (.int a2), some (.int a3), some (.int (((100 * a2) / a1) + 1))], [.int 2, .int a3], M)) (by decide +kernel) rfl ⟨h.1, trivial⟩ ?_
    replace h := h.2
    refine WP.br (.if_icmp .ne 11, 3, (28, 0), .null) (by decide +kernel) rfl (fun c2 => ?_) (fun c2 => ?_)
    · replace h := h.2 c2
      refine WP.blk [(.iload_n 3, 1, (0, 0), .null)] (G := True) (c' := (29, [some (.int a1), some (.int a2), some (.int a3), some (.int (((100 * a2) / a1) + 1))], [.int (((100 * a2) / a1) + 1)], M)) (by decide +kernel) rfl trivial ?_
      exact WP.ret (.ireturn, 1, (0, 0), .null) (rk := 1) (by decide +kernel) (by decide +kernel) rfl trivial (hΦ _ h)
    · replace h := h.1 (Classical.not_not.mp c2)
      refine WP.blk [(.iload_n 3, 1, (0, 0), .null), (.iload_n 3, 1, (0, 0), .null), (.iconst 4, 1, (0, 0), .int 4), (.idiv, 1, (0, 0), .null), (.iadd, 1, (0, 0), .null), (.goto 4, 3, (29, 0), .null)] (G := ¬ (4 : Int32) = 0 ∧ True) (c' := (29, [some (.int a1), some (.int a2), some (.int a3), some (.int (((100 * a2) / a1) + 1))], [.int ((((100 * a2) / a1) + 1) + ((((100 * a2) / a1) + 1) / 4))], M)) (by decide +kernel) rfl ⟨(by decide), trivial⟩ ?_
      exact WP.ret (.ireturn, 1, (0, 0), .null) (rk := 1) (by decide +kernel) (by decide +kernel) rfl trivial (hΦ _ h)
  · replace h := h.2 c1
    refine WP.blk [(.iconst 0, 1, (0, 0), .int 0)] (G := True) (c' := (5, [some (.int a1), some (.int a2), some (.int a3), none], [.int 0], M)) (by decide +kernel) rfl trivial ?_
    exact WP.ret (.ireturn, 1, (0, 0), .null) (rk := 1) (by decide +kernel) (by decide +kernel) rfl trivial (hΦ _ h)
/-- GearRoad$Bike.turnsOf(I)I -/
def S_Bike_turnsOf (k : Nat) (M : Mm) (a1 : Int32) (Φ : Int32 → Prop) : Prop := S_Bike_hasGear k M a1 (fun r1 => ((r1 = 0 → Φ 0) ∧ (¬ (r1 = 0) → vp_in (a1 / 6) 3 ∧ vp_in (irm a1 6) 6 ∧ vp_in (irm a1 6) 6 ∧ S_Bike_turnsBy M (M (k + 1) (Int32.toNatClampNeg (a1 / 6))) (M (k + 3) (Int32.toNatClampNeg (irm a1 6))) (M (k + 2) (Int32.toNatClampNeg (irm a1 6))) (fun r3 => Φ r3))))
set_option maxRecDepth 100000 in
set_option maxHeartbeats 4000000 in
theorem sp_Bike_turnsOf {d : Nat} {Post : Option Value → Mm → Prop} {k : Nat} {M : Mm} {a1 : Int32} {Φ : Int32 → Prop} (hk : k = 7 ∨ k = 13) (h : S_Bike_turnsOf k M a1 Φ) (hΦ : ∀ r, Φ r → Post (some (.int r)) M) : Ct (d + 4) 56 [.ref k, .int a1] M Post := by
  rcases hk with rfl | rfl
  · refine Ct.go (n := 2) (E := [some (.ref 7), some (.int a1)]) (by decide +kernel) (by simp [Value.category]) rfl ?_
    refine WP.blk [(.aload_n 0, 1, (0, 0), .null), (.iload_n 1, 1, (0, 0), .null)] (G := True) (c' := (2, [some (.ref 7), some (.int a1)], [.int a1, .ref 7], M)) (by decide +kernel) rfl trivial ?_
    refine WP.call (.invokevirtual 73, 3, (48, 2), .null) (by decide +kernel) rfl (sp_Bike_hasGear (d := d + 0) (by decide) h (fun r1 h => ?_))
    show WP (Ct (d + 3)) 56 Post (5, [some (.ref 7), some (.int a1)], [.int r1], M)
    refine WP.br (.ifCond .ne 5, 3, (10, 0), .null) (by decide +kernel) rfl (fun c2 => ?_) (fun c2 => ?_)
    · replace h := h.2 c2
      refine WP.blk [(.aload_n 0, 1, (0, 0), .null), (.getfield 40, 3, (1, 9), .null), (.iload_n 1, 1, (0, 0), .null), (.bipush 6, 2, (0, 0), .int 6), (.idiv, 1, (0, 0), .null), (.iaload, 1, (0, 0), .null), (.aload_n 0, 1, (0, 0), .null), (.getfield 47, 3, (1, 11), .null), (.iload_n 1, 1, (0, 0), .null), (.bipush 6, 2, (0, 0), .int 6), (.irem, 1, (0, 0), .null), (.iaload, 1, (0, 0), .null), (.aload_n 0, 1, (0, 0), .null), (.getfield 44, 3, (1, 10), .null), (.iload_n 1, 1, (0, 0), .null), (.bipush 6, 2, (0, 0), .int 6), (.irem, 1, (0, 0), .null), (.iaload, 1, (0, 0), .null)] (G := ¬ (6 : Int32) = 0 ∧ vp_in (a1 / 6) 3 ∧ ¬ (6 : Int32) = 0 ∧ vp_in (irm a1 6) 6 ∧ ¬ (6 : Int32) = 0 ∧ vp_in (irm a1 6) 6 ∧ True) (c' := (37, [some (.ref 7), some (.int a1)], [.int (M 9 (Int32.toNatClampNeg (irm a1 6))), .int (M 10 (Int32.toNatClampNeg (irm a1 6))), .int (M 8 (Int32.toNatClampNeg (a1 / 6)))], M)) (by decide +kernel) rfl ⟨(by decide), h.1, (by decide), h.2.1, (by decide), h.2.2.1, trivial⟩ ?_
      replace h := h.2.2.2
      refine WP.call (.invokestatic 80, 3, (57, 3), .null) (by decide +kernel) rfl (sp_Bike_turnsBy (d := d + 2) h (fun r3 h => ?_))
      show WP (Ct (d + 3)) 56 Post (40, [some (.ref 7), some (.int a1)], [.int r3], M)
      exact WP.ret (.ireturn, 1, (0, 0), .null) (rk := 1) (by decide +kernel) (by decide +kernel) rfl trivial (hΦ _ h)
    · replace h := h.1 (Classical.not_not.mp c2)
      refine WP.blk [(.iconst 0, 1, (0, 0), .int 0)] (G := True) (c' := (9, [some (.ref 7), some (.int a1)], [.int 0], M)) (by decide +kernel) rfl trivial ?_
      exact WP.ret (.ireturn, 1, (0, 0), .null) (rk := 1) (by decide +kernel) (by decide +kernel) rfl trivial (hΦ _ h)
  · refine Ct.go (n := 2) (E := [some (.ref 13), some (.int a1)]) (by decide +kernel) (by simp [Value.category]) rfl ?_
    refine WP.blk [(.aload_n 0, 1, (0, 0), .null), (.iload_n 1, 1, (0, 0), .null)] (G := True) (c' := (2, [some (.ref 13), some (.int a1)], [.int a1, .ref 13], M)) (by decide +kernel) rfl trivial ?_
    refine WP.call (.invokevirtual 73, 3, (48, 2), .null) (by decide +kernel) rfl (sp_Bike_hasGear (d := d + 0) (by decide) h (fun r1 h => ?_))
    show WP (Ct (d + 3)) 56 Post (5, [some (.ref 13), some (.int a1)], [.int r1], M)
    refine WP.br (.ifCond .ne 5, 3, (10, 0), .null) (by decide +kernel) rfl (fun c2 => ?_) (fun c2 => ?_)
    · replace h := h.2 c2
      refine WP.blk [(.aload_n 0, 1, (0, 0), .null), (.getfield 40, 3, (1, 9), .null), (.iload_n 1, 1, (0, 0), .null), (.bipush 6, 2, (0, 0), .int 6), (.idiv, 1, (0, 0), .null), (.iaload, 1, (0, 0), .null), (.aload_n 0, 1, (0, 0), .null), (.getfield 47, 3, (1, 11), .null), (.iload_n 1, 1, (0, 0), .null), (.bipush 6, 2, (0, 0), .int 6), (.irem, 1, (0, 0), .null), (.iaload, 1, (0, 0), .null), (.aload_n 0, 1, (0, 0), .null), (.getfield 44, 3, (1, 10), .null), (.iload_n 1, 1, (0, 0), .null), (.bipush 6, 2, (0, 0), .int 6), (.irem, 1, (0, 0), .null), (.iaload, 1, (0, 0), .null)] (G := ¬ (6 : Int32) = 0 ∧ vp_in (a1 / 6) 3 ∧ ¬ (6 : Int32) = 0 ∧ vp_in (irm a1 6) 6 ∧ ¬ (6 : Int32) = 0 ∧ vp_in (irm a1 6) 6 ∧ True) (c' := (37, [some (.ref 13), some (.int a1)], [.int (M 15 (Int32.toNatClampNeg (irm a1 6))), .int (M 16 (Int32.toNatClampNeg (irm a1 6))), .int (M 14 (Int32.toNatClampNeg (a1 / 6)))], M)) (by decide +kernel) rfl ⟨(by decide), h.1, (by decide), h.2.1, (by decide), h.2.2.1, trivial⟩ ?_
      replace h := h.2.2.2
      refine WP.call (.invokestatic 80, 3, (57, 3), .null) (by decide +kernel) rfl (sp_Bike_turnsBy (d := d + 2) h (fun r3 h => ?_))
      show WP (Ct (d + 3)) 56 Post (40, [some (.ref 13), some (.int a1)], [.int r3], M)
      exact WP.ret (.ireturn, 1, (0, 0), .null) (rk := 1) (by decide +kernel) (by decide +kernel) rfl trivial (hΦ _ h)
    · replace h := h.1 (Classical.not_not.mp c2)
      refine WP.blk [(.iconst 0, 1, (0, 0), .int 0)] (G := True) (c' := (9, [some (.ref 13), some (.int a1)], [.int 0], M)) (by decide +kernel) rfl trivial ?_
      exact WP.ret (.ireturn, 1, (0, 0), .null) (rk := 1) (by decide +kernel) (by decide +kernel) rfl trivial (hΦ _ h)
/-- java/lang/Math.min(II)I -/
def S_Math_min (M : Mm) (a1 : Int32) (a2 : Int32) (Φ : Int32 → Prop) : Prop := ((a2 < a1 → Φ a2) ∧ (¬ (a2 < a1) → Φ a1))
set_option maxRecDepth 100000 in
set_option maxHeartbeats 4000000 in
theorem sp_Math_min {d : Nat} {Post : Option Value → Mm → Prop} {M : Mm} {a1 : Int32} {a2 : Int32} {Φ : Int32 → Prop} (h : S_Math_min M a1 a2 Φ) (hΦ : ∀ r, Φ r → Post (some (.int r)) M) : Ct (d + 1) 54 [.int a1, .int a2] M Post := by
  refine Ct.go (n := 2) (E := [some (.int a1), some (.int a2)]) (by decide +kernel) (by simp [Value.category]) rfl ?_
  refine WP.blk [(.iload_n 0, 1, (0, 0), .null), (.iload_n 1, 1, (0, 0), .null)] (G := True) (c' := (2, [some (.int a1), some (.int a2)], [.int a2, .int a1], M)) (by decide +kernel) rfl trivial ?_
  refine WP.br (.if_icmp .gt 7, 3, (9, 0), .null) (by decide +kernel) rfl (fun c1 => ?_) (fun c1 => ?_)
  · replace h := h.1 c1
    refine WP.blk [(.iload_n 1, 1, (0, 0), .null)] (G := True) (c' := (10, [some (.int a1), some (.int a2)], [.int a2], M)) (by decide +kernel) rfl trivial ?_
    exact WP.ret (.ireturn, 1, (0, 0), .null) (rk := 1) (by decide +kernel) (by decide +kernel) rfl trivial (hΦ _ h)
  · replace h := h.2 c1
    refine WP.blk [(.iload_n 0, 1, (0, 0), .null), (.goto 4, 3, (10, 0), .null)] (G := True) (c' := (10, [some (.int a1), some (.int a2)], [.int a1], M)) (by decide +kernel) rfl trivial ?_
    exact WP.ret (.ireturn, 1, (0, 0), .null) (rk := 1) (by decide +kernel) (by decide +kernel) rfl trivial (hΦ _ h)
/-- GearRoad$Bike.turn(I)V -/
def S_Bike_turn (k : Nat) (M : Mm) (a1 : Int32) (Φ : Mm → Prop) : Prop := S_Math_min M 99999 ((M k 8) + a1) (fun r1 => Φ (mu M k 8 r1))
set_option maxRecDepth 100000 in
set_option maxHeartbeats 4000000 in
theorem sp_Bike_turn {d : Nat} {Post : Option Value → Mm → Prop} {k : Nat} {M : Mm} {a1 : Int32} {Φ : Mm → Prop} (hk : k = 7 ∨ k = 13) (h : S_Bike_turn k M a1 Φ) (hΦ : ∀ M1, Φ M1 → Post none M1) : Ct (d + 2) 58 [.ref k, .int a1] M Post := by
  rcases hk with rfl | rfl
  · refine Ct.go (n := 2) (E := [some (.ref 7), some (.int a1)]) (by decide +kernel) (by simp [Value.category]) rfl ?_
    refine WP.blk [(.aload_n 0, 1, (0, 0), .null), (.ldc 121, 2, (0, 0), .int (99999)), (.aload_n 0, 1, (0, 0), .null), (.getfield 37, 3, (1, 8), .null), (.iload_n 1, 1, (0, 0), .null), (.iadd, 1, (0, 0), .null)] (G := True) (c' := (9, [some (.ref 7), some (.int a1)], [.int ((M 7 8) + a1), .int 99999, .ref 7], M)) (by decide +kernel) rfl trivial ?_
    refine WP.call (.invokestatic 99, 3, (54, 2), .null) (by decide +kernel) rfl (sp_Math_min (d := d + 0) h (fun r1 h => ?_))
    show WP (Ct (d + 1)) 58 Post (12, [some (.ref 7), some (.int a1)], [.int r1, .ref 7], M)
    refine WP.blk [(.putfield 37, 3, (1, 8), .null)] (G := True) (c' := (15, [some (.ref 7), some (.int a1)], [], (mu M 7 8 r1))) (by decide +kernel) rfl trivial ?_
    exact WP.ret (.return_, 1, (0, 0), .null) (rk := 0) (by decide +kernel) (by decide +kernel) rfl trivial (hΦ _ h)
  · refine Ct.go (n := 2) (E := [some (.ref 13), some (.int a1)]) (by decide +kernel) (by simp [Value.category]) rfl ?_
    refine WP.blk [(.aload_n 0, 1, (0, 0), .null), (.ldc 121, 2, (0, 0), .int (99999)), (.aload_n 0, 1, (0, 0), .null), (.getfield 37, 3, (1, 8), .null), (.iload_n 1, 1, (0, 0), .null), (.iadd, 1, (0, 0), .null)] (G := True) (c' := (9, [some (.ref 13), some (.int a1)], [.int ((M 13 8) + a1), .int 99999, .ref 13], M)) (by decide +kernel) rfl trivial ?_
    refine WP.call (.invokestatic 99, 3, (54, 2), .null) (by decide +kernel) rfl (sp_Math_min (d := d + 0) h (fun r1 h => ?_))
    show WP (Ct (d + 1)) 58 Post (12, [some (.ref 13), some (.int a1)], [.int r1, .ref 13], M)
    refine WP.blk [(.putfield 37, 3, (1, 8), .null)] (G := True) (c' := (15, [some (.ref 13), some (.int a1)], [], (mu M 13 8 r1))) (by decide +kernel) rfl trivial ?_
    exact WP.ret (.return_, 1, (0, 0), .null) (rk := 0) (by decide +kernel) (by decide +kernel) rfl trivial (hΦ _ h)
/-- GearRoad$Bike.turnOnCog(I)V -/
def S_Bike_turnOnCog (k : Nat) (M : Mm) (a1 : Int32) (Φ : Mm → Prop) : Prop := vp_in (M k 6) 6 ∧ S_Math_min M 99999 ((M (k + 4) (Int32.toNatClampNeg (M k 6))) + a1) (fun r1 => vp_in (M k 6) 6 ∧ Φ (mu M (k + 4) (Int32.toNatClampNeg (M k 6)) r1))
set_option maxRecDepth 100000 in
set_option maxHeartbeats 4000000 in
theorem sp_Bike_turnOnCog {d : Nat} {Post : Option Value → Mm → Prop} {k : Nat} {M : Mm} {a1 : Int32} {Φ : Mm → Prop} (hk : k = 7 ∨ k = 13) (h : S_Bike_turnOnCog k M a1 Φ) (hΦ : ∀ M1, Φ M1 → Post none M1) : Ct (d + 2) 59 [.ref k, .int a1] M Post := by
  rcases hk with rfl | rfl
  · refine Ct.go (n := 2) (E := [some (.ref 7), some (.int a1)]) (by decide +kernel) (by simp [Value.category]) rfl ?_
    refine WP.blk [(.aload_n 0, 1, (0, 0), .null), (.getfield 50, 3, (1, 12), .null), (.aload_n 0, 1, (0, 0), .null), (.getfield 31, 3, (1, 6), .null), (.ldc 121, 2, (0, 0), .int (99999)), (.aload_n 0, 1, (0, 0), .null), (.getfield 50, 3, (1, 12), .null), (.aload_n 0, 1, (0, 0), .null), (.getfield 31, 3, (1, 6), .null), (.iaload, 1, (0, 0), .null), (.iload_n 1, 1, (0, 0), .null), (.iadd, 1, (0, 0), .null)] (G := vp_in (M 7 6) 6 ∧ True) (c' := (21, [some (.ref 7), some (.int a1)], [.int ((M 11 (Int32.toNatClampNeg (M 7 6))) + a1), .int 99999, .int (M 7 6), .ref 11], M)) (by decide +kernel) rfl ⟨h.1, trivial⟩ ?_
    replace h := h.2
    refine WP.call (.invokestatic 99, 3, (54, 2), .null) (by decide +kernel) rfl (sp_Math_min (d := d + 0) h (fun r1 h => ?_))
    show WP (Ct (d + 1)) 59 Post (24, [some (.ref 7), some (.int a1)], [.int r1, .int (M 7 6), .ref 11], M)
    refine WP.blk [(.iastore, 1, (0, 0), .null)] (G := vp_in (M 7 6) 6 ∧ True) (c' := (25, [some (.ref 7), some (.int a1)], [], (mu M 11 (Int32.toNatClampNeg (M 7 6)) r1))) (by decide +kernel) rfl ⟨h.1, trivial⟩ ?_
    replace h := h.2
    exact WP.ret (.return_, 1, (0, 0), .null) (rk := 0) (by decide +kernel) (by decide +kernel) rfl trivial (hΦ _ h)
  · refine Ct.go (n := 2) (E := [some (.ref 13), some (.int a1)]) (by decide +kernel) (by simp [Value.category]) rfl ?_
    refine WP.blk [(.aload_n 0, 1, (0, 0), .null), (.getfield 50, 3, (1, 12), .null), (.aload_n 0, 1, (0, 0), .null), (.getfield 31, 3, (1, 6), .null), (.ldc 121, 2, (0, 0), .int (99999)), (.aload_n 0, 1, (0, 0), .null), (.getfield 50, 3, (1, 12), .null), (.aload_n 0, 1, (0, 0), .null), (.getfield 31, 3, (1, 6), .null), (.iaload, 1, (0, 0), .null), (.iload_n 1, 1, (0, 0), .null), (.iadd, 1, (0, 0), .null)] (G := vp_in (M 13 6) 6 ∧ True) (c' := (21, [some (.ref 13), some (.int a1)], [.int ((M 17 (Int32.toNatClampNeg (M 13 6))) + a1), .int 99999, .int (M 13 6), .ref 17], M)) (by decide +kernel) rfl ⟨h.1, trivial⟩ ?_
    replace h := h.2
    refine WP.call (.invokestatic 99, 3, (54, 2), .null) (by decide +kernel) rfl (sp_Math_min (d := d + 0) h (fun r1 h => ?_))
    show WP (Ct (d + 1)) 59 Post (24, [some (.ref 13), some (.int a1)], [.int r1, .int (M 13 6), .ref 17], M)
    refine WP.blk [(.iastore, 1, (0, 0), .null)] (G := vp_in (M 13 6) 6 ∧ True) (c' := (25, [some (.ref 13), some (.int a1)], [], (mu M 17 (Int32.toNatClampNeg (M 13 6)) r1))) (by decide +kernel) rfl ⟨h.1, trivial⟩ ?_
    replace h := h.2
    exact WP.ret (.return_, 1, (0, 0), .null) (rk := 0) (by decide +kernel) (by decide +kernel) rfl trivial (hΦ _ h)
/-- GearRoad$Bike.rideOn()I -/
def S_Bike_rideOn (k : Nat) (M : Mm) (Φ : Int32 → Mm → Prop) : Prop := S_Bike_gear k M (fun r1 => S_Bike_turnsOf k M r1 (fun r2 => S_Bike_turn k M r2 (fun M3 => S_Bike_turnOnCog k M3 r2 (fun M4 => Φ r2 (mu M4 k 7 ((M4 k 7) + 1))))))
set_option maxRecDepth 100000 in
set_option maxHeartbeats 4000000 in
theorem sp_Bike_rideOn {d : Nat} {Post : Option Value → Mm → Prop} {k : Nat} {M : Mm} {Φ : Int32 → Mm → Prop} (hk : k = 7 ∨ k = 13) (h : S_Bike_rideOn k M Φ) (hΦ : ∀ r M1, Φ r M1 → Post (some (.int r)) M1) : Ct (d + 5) 55 [.ref k] M Post := by
  rcases hk with rfl | rfl
  · refine Ct.go (n := 2) (E := [some (.ref 7), none]) (by decide +kernel) (by simp [Value.category]) rfl ?_
    refine WP.blk [(.aload_n 0, 1, (0, 0), .null), (.aload_n 0, 1, (0, 0), .null)] (G := True) (c' := (2, [some (.ref 7), none], [.ref 7, .ref 7], M)) (by decide +kernel) rfl trivial ?_
    refine WP.call (.invokevirtual 95, 3, (46, 1), .null) (by decide +kernel) rfl (sp_Bike_gear (d := d + 3) (by decide) h (fun r1 h => ?_))
    show WP (Ct (d + 4)) 55 Post (5, [some (.ref 7), none], [.int r1, .ref 7], M)
    refine WP.call (.invokevirtual 104, 3, (56, 2), .null) (by decide +kernel) rfl (sp_Bike_turnsOf (d := d + 0) (by decide) h (fun r2 h => ?_))
    show WP (Ct (d + 4)) 55 Post (8, [some (.ref 7), none], [.int r2], M)
    refine WP.blk [(.istore_n 1, 1, (0, 0), .null), (.aload_n 0, 1, (0, 0), .null), (.iload_n 1, 1, (0, 0), .null)] (G := True) (c' := (11, [some (.ref 7), some (.int r2)], [.int r2, .ref 7], M)) (by decide +kernel) rfl trivial ?_
    refine WP.call (.invokevirtual 108, 3, (58, 2), .null) (by decide +kernel) rfl (sp_Bike_turn (d := d + 2) (by decide) h (fun M3 h => ?_))
    show WP (Ct (d + 4)) 55 Post (14, [some (.ref 7), some (.int r2)], [], M3)
    refine WP.blk [(.aload_n 0, 1, (0, 0), .null), (.iload_n 1, 1, (0, 0), .null)] (G := True) (c' := (16, [some (.ref 7), some (.int r2)], [.int r2, .ref 7], M3)) (by decide +kernel) rfl trivial ?_
    refine WP.call (.invokevirtual 112, 3, (59, 2), .null) (by decide +kernel) rfl (sp_Bike_turnOnCog (d := d + 2) (by decide) h (fun M4 h => ?_))
    show WP (Ct (d + 4)) 55 Post (19, [some (.ref 7), some (.int r2)], [], M4)
    refine WP.blk [(.aload_n 0, 1, (0, 0), .null), (.dup, 1, (0, 0), .null), (.getfield 34, 3, (1, 7), .null), (.iconst 1, 1, (0, 0), .int 1), (.iadd, 1, (0, 0), .null), (.putfield 34, 3, (1, 7), .null), (.iload_n 1, 1, (0, 0), .null)] (G := True) (c' := (30, [some (.ref 7), some (.int r2)], [.int r2], (mu M4 7 7 ((M4 7 7) + 1)))) (by decide +kernel) rfl trivial ?_
    exact WP.ret (.ireturn, 1, (0, 0), .null) (rk := 1) (by decide +kernel) (by decide +kernel) rfl trivial (hΦ _ _ h)
  · refine Ct.go (n := 2) (E := [some (.ref 13), none]) (by decide +kernel) (by simp [Value.category]) rfl ?_
    refine WP.blk [(.aload_n 0, 1, (0, 0), .null), (.aload_n 0, 1, (0, 0), .null)] (G := True) (c' := (2, [some (.ref 13), none], [.ref 13, .ref 13], M)) (by decide +kernel) rfl trivial ?_
    refine WP.call (.invokevirtual 95, 3, (46, 1), .null) (by decide +kernel) rfl (sp_Bike_gear (d := d + 3) (by decide) h (fun r1 h => ?_))
    show WP (Ct (d + 4)) 55 Post (5, [some (.ref 13), none], [.int r1, .ref 13], M)
    refine WP.call (.invokevirtual 104, 3, (56, 2), .null) (by decide +kernel) rfl (sp_Bike_turnsOf (d := d + 0) (by decide) h (fun r2 h => ?_))
    show WP (Ct (d + 4)) 55 Post (8, [some (.ref 13), none], [.int r2], M)
    refine WP.blk [(.istore_n 1, 1, (0, 0), .null), (.aload_n 0, 1, (0, 0), .null), (.iload_n 1, 1, (0, 0), .null)] (G := True) (c' := (11, [some (.ref 13), some (.int r2)], [.int r2, .ref 13], M)) (by decide +kernel) rfl trivial ?_
    refine WP.call (.invokevirtual 108, 3, (58, 2), .null) (by decide +kernel) rfl (sp_Bike_turn (d := d + 2) (by decide) h (fun M3 h => ?_))
    show WP (Ct (d + 4)) 55 Post (14, [some (.ref 13), some (.int r2)], [], M3)
    refine WP.blk [(.aload_n 0, 1, (0, 0), .null), (.iload_n 1, 1, (0, 0), .null)] (G := True) (c' := (16, [some (.ref 13), some (.int r2)], [.int r2, .ref 13], M3)) (by decide +kernel) rfl trivial ?_
    refine WP.call (.invokevirtual 112, 3, (59, 2), .null) (by decide +kernel) rfl (sp_Bike_turnOnCog (d := d + 2) (by decide) h (fun M4 h => ?_))
    show WP (Ct (d + 4)) 55 Post (19, [some (.ref 13), some (.int r2)], [], M4)
    refine WP.blk [(.aload_n 0, 1, (0, 0), .null), (.dup, 1, (0, 0), .null), (.getfield 34, 3, (1, 7), .null), (.iconst 1, 1, (0, 0), .int 1), (.iadd, 1, (0, 0), .null), (.putfield 34, 3, (1, 7), .null), (.iload_n 1, 1, (0, 0), .null)] (G := True) (c' := (30, [some (.ref 13), some (.int r2)], [.int r2], (mu M4 13 7 ((M4 13 7) + 1)))) (by decide +kernel) rfl trivial ?_
    exact WP.ret (.ireturn, 1, (0, 0), .null) (rk := 1) (by decide +kernel) (by decide +kernel) rfl trivial (hΦ _ _ h)
/-- GearRoad$Bike.mayLeave(II)Z -/
def D_Bike_mayLeave_16 (k : Nat) (M : Mm) (Φ : Int32 → Prop) : Unit → Prop
  | () => Φ 1
def S_Bike_mayLeave (k : Nat) (M : Mm) (a1 : Int32) (a2 : Int32) (Φ : Int32 → Prop) : Prop := vp_in a1 6 ∧ (((M (k + 2) (Int32.toNatClampNeg a1)) = 5 → (((irm a2 2) = 0 → D_Bike_mayLeave_16 k M Φ ()) ∧ (¬ ((irm a2 2) = 0) → Φ 0))) ∧ (¬ ((M (k + 2) (Int32.toNatClampNeg a1)) = 5) → D_Bike_mayLeave_16 k M Φ ()))
set_option maxRecDepth 100000 in
set_option maxHeartbeats 4000000 in
theorem L_Bike_mayLeave_16 {d : Nat} {Post : Option Value → Mm → Prop} {k : Nat} {M : Mm} {Φ : Int32 → Prop} (hk : k = 7 ∨ k = 13) (hΦ : ∀ r, Φ r → Post (some (.int r)) M) : D_Bike_mayLeave_16 k M Φ () → WP (Ct (d + 0)) 62 Post (16, [none, none, none], [], M) := by
  rcases hk with rfl | rfl
  · intro h
    refine WP.blk [(.iconst 1, 1, (0, 0), .int 1), (.goto 4, 3, (21, 0), .null)] (G := True) (c' := (21, [none, none, none], [.int 1], M)) (by decide +kernel) rfl trivial ?_
    exact WP.ret (.ireturn, 1, (0, 0), .null) (rk := 2) (by decide +kernel) (by decide +kernel) rfl (by decide) (hΦ _ h)
  · intro h
    refine WP.blk [(.iconst 1, 1, (0, 0), .int 1), (.goto 4, 3, (21, 0), .null)] (G := True) (c' := (21, [none, none, none], [.int 1], M)) (by decide +kernel) rfl trivial ?_
    exact WP.ret (.ireturn, 1, (0, 0), .null) (rk := 2) (by decide +kernel) (by decide +kernel) rfl (by decide) (hΦ _ h)
set_option maxRecDepth 100000 in
set_option maxHeartbeats 4000000 in
theorem sp_Bike_mayLeave {d : Nat} {Post : Option Value → Mm → Prop} {k : Nat} {M : Mm} {a1 : Int32} {a2 : Int32} {Φ : Int32 → Prop} (hk : k = 7 ∨ k = 13) (h : S_Bike_mayLeave k M a1 a2 Φ) (hΦ : ∀ r, Φ r → Post (some (.int r)) M) : Ct (d + 1) 62 [.ref k, .int a1, .int a2] M Post := by
  rcases hk with rfl | rfl
  · refine Ct.go (n := 3) (E := [some (.ref 7), some (.int a1), some (.int a2)]) (by decide +kernel) (by simp [Value.category]) rfl ?_
    refine WP.blk [(.aload_n 0, 1, (0, 0), .null), (.getfield 44, 3, (1, 10), .null), (.iload_n 1, 1, (0, 0), .null), (.iaload, 1, (0, 0), .null), (.iconst 5, 1, (0, 0), .int 5)] (G := vp_in a1 6 ∧ True) (c' := (7, [some (.ref 7), some (.int a1), some (.int a2)], [.int 5, .int (M 9 (Int32.toNatClampNeg a1))], M)) (by decide +kernel) rfl ⟨h.1, trivial⟩ ?_
    replace h := h.2
    refine WP.br (.if_icmp .ne 9, 3, (16, 0), .null) (by decide +kernel) rfl (fun c1 => ?_) (fun c1 => ?_)
    · replace h := h.2 c1
      refine WP.fgt [none, none, none] (by simp [fgt]) ?_
      exact L_Bike_mayLeave_16 (by decide) hΦ h
    · replace h := h.1 (Classical.not_not.mp c1)
      refine WP.blk [(.iload_n 2, 1, (0, 0), .null), (.iconst 2, 1, (0, 0), .int 2), (.irem, 1, (0, 0), .null)] (G := ¬ (2 : Int32) = 0 ∧ True) (c' := (13, [some (.ref 7), some (.int a1), some (.int a2)], [.int (irm a2 2)], M)) (by decide +kernel) rfl ⟨(by decide), trivial⟩ ?_
      refine WP.br (.ifCond .ne 7, 3, (20, 0), .null) (by decide +kernel) rfl (fun c2 => ?_) (fun c2 => ?_)
      · replace h := h.2 c2
        refine WP.blk [(.iconst 0, 1, (0, 0), .int 0)] (G := True) (c' := (21, [some (.ref 7), some (.int a1), some (.int a2)], [.int 0], M)) (by decide +kernel) rfl trivial ?_
        exact WP.ret (.ireturn, 1, (0, 0), .null) (rk := 2) (by decide +kernel) (by decide +kernel) rfl (by decide) (hΦ _ h)
      · replace h := h.1 (Classical.not_not.mp c2)
        refine WP.fgt [none, none, none] (by simp [fgt]) ?_
        exact L_Bike_mayLeave_16 (by decide) hΦ h
  · refine Ct.go (n := 3) (E := [some (.ref 13), some (.int a1), some (.int a2)]) (by decide +kernel) (by simp [Value.category]) rfl ?_
    refine WP.blk [(.aload_n 0, 1, (0, 0), .null), (.getfield 44, 3, (1, 10), .null), (.iload_n 1, 1, (0, 0), .null), (.iaload, 1, (0, 0), .null), (.iconst 5, 1, (0, 0), .int 5)] (G := vp_in a1 6 ∧ True) (c' := (7, [some (.ref 13), some (.int a1), some (.int a2)], [.int 5, .int (M 15 (Int32.toNatClampNeg a1))], M)) (by decide +kernel) rfl ⟨h.1, trivial⟩ ?_
    replace h := h.2
    refine WP.br (.if_icmp .ne 9, 3, (16, 0), .null) (by decide +kernel) rfl (fun c1 => ?_) (fun c1 => ?_)
    · replace h := h.2 c1
      refine WP.fgt [none, none, none] (by simp [fgt]) ?_
      exact L_Bike_mayLeave_16 (by decide) hΦ h
    · replace h := h.1 (Classical.not_not.mp c1)
      refine WP.blk [(.iload_n 2, 1, (0, 0), .null), (.iconst 2, 1, (0, 0), .int 2), (.irem, 1, (0, 0), .null)] (G := ¬ (2 : Int32) = 0 ∧ True) (c' := (13, [some (.ref 13), some (.int a1), some (.int a2)], [.int (irm a2 2)], M)) (by decide +kernel) rfl ⟨(by decide), trivial⟩ ?_
      refine WP.br (.ifCond .ne 7, 3, (20, 0), .null) (by decide +kernel) rfl (fun c2 => ?_) (fun c2 => ?_)
      · replace h := h.2 c2
        refine WP.blk [(.iconst 0, 1, (0, 0), .int 0)] (G := True) (c' := (21, [some (.ref 13), some (.int a1), some (.int a2)], [.int 0], M)) (by decide +kernel) rfl trivial ?_
        exact WP.ret (.ireturn, 1, (0, 0), .null) (rk := 2) (by decide +kernel) (by decide +kernel) rfl (by decide) (hΦ _ h)
      · replace h := h.1 (Classical.not_not.mp c2)
        refine WP.fgt [none, none, none] (by simp [fgt]) ?_
        exact L_Bike_mayLeave_16 (by decide) hΦ h
/-- GearRoad$Bike.canShift(I)Z -/
def S_Bike_canShift (k : Nat) (M : Mm) (a1 : Int32) (Φ : Int32 → Prop) : Prop := S_Bike_hasCog k M ((M k 6) + a1) (fun r1 => ((r1 = 0 → Φ 0) ∧ (¬ (r1 = 0) → S_Bike_mayLeave k M (M k 6) (M k 7) (fun r3 => ((r3 = 0 → Φ 0) ∧ (¬ (r3 = 0) → Φ 1))))))
set_option maxRecDepth 100000 in
set_option maxHeartbeats 4000000 in
theorem sp_Bike_canShift {d : Nat} {Post : Option Value → Mm → Prop} {k : Nat} {M : Mm} {a1 : Int32} {Φ : Int32 → Prop} (hk : k = 7 ∨ k = 13) (h : S_Bike_canShift k M a1 Φ) (hΦ : ∀ r, Φ r → Post (some (.int r)) M) : Ct (d + 3) 61 [.ref k, .int a1] M Post := by
  rcases hk with rfl | rfl
  · refine Ct.go (n := 2) (E := [some (.ref 7), some (.int a1)]) (by decide +kernel) (by simp [Value.category]) rfl ?_
    refine WP.blk [(.aload_n 0, 1, (0, 0), .null), (.aload_n 0, 1, (0, 0), .null), (.getfield 31, 3, (1, 6), .null), (.iload_n 1, 1, (0, 0), .null), (.iadd, 1, (0, 0), .null)] (G := True) (c' := (7, [some (.ref 7), some (.int a1)], [.int ((M 7 6) + a1), .ref 7], M)) (by decide +kernel) rfl trivial ?_
    refine WP.call (.invokevirtual 70, 3, (50, 2), .null) (by decide +kernel) rfl (sp_Bike_hasCog (d := d + 0) (by decide) h (fun r1 h => ?_))
    show WP (Ct (d + 2)) 61 Post (10, [some (.ref 7), some (.int a1)], [.int r1], M)
    refine WP.br (.ifCond .eq 22, 3, (32, 0), .null) (by decide +kernel) rfl (fun c2 => ?_) (fun c2 => ?_)
    · replace h := h.1 c2
      refine WP.blk [(.iconst 0, 1, (0, 0), .int 0)] (G := True) (c' := (33, [some (.ref 7), some (.int a1)], [.int 0], M)) (by decide +kernel) rfl trivial ?_
      exact WP.ret (.ireturn, 1, (0, 0), .null) (rk := 2) (by decide +kernel) (by decide +kernel) rfl (by decide) (hΦ _ h)
    · replace h := h.2 c2
      refine WP.blk [(.aload_n 0, 1, (0, 0), .null), (.aload_n 0, 1, (0, 0), .null), (.getfield 31, 3, (1, 6), .null), (.aload_n 0, 1, (0, 0), .null), (.getfield 34, 3, (1, 7), .null)] (G := True) (c' := (22, [some (.ref 7), some (.int a1)], [.int (M 7 7), .int (M 7 6), .ref 7], M)) (by decide +kernel) rfl trivial ?_
      refine WP.call (.invokevirtual 115, 3, (62, 3), .null) (by decide +kernel) rfl (sp_Bike_mayLeave (d := d + 1) (by decide) h (fun r3 h => ?_))
      show WP (Ct (d + 2)) 61 Post (25, [some (.ref 7), some (.int a1)], [.int r3], M)
      refine WP.br (.ifCond .eq 7, 3, (32, 0), .null) (by decide +kernel) rfl (fun c4 => ?_) (fun c4 => ?_)
      · replace h := h.1 c4
        refine WP.blk [(.iconst 0, 1, (0, 0), .int 0)] (G := True) (c' := (33, [some (.ref 7), some (.int a1)], [.int 0], M)) (by decide +kernel) rfl trivial ?_
        exact WP.ret (.ireturn, 1, (0, 0), .null) (rk := 2) (by decide +kernel) (by decide +kernel) rfl (by decide) (hΦ _ h)
      · replace h := h.2 c4
        refine WP.blk [(.iconst 1, 1, (0, 0), .int 1), (.goto 4, 3, (33, 0), .null)] (G := True) (c' := (33, [some (.ref 7), some (.int a1)], [.int 1], M)) (by decide +kernel) rfl trivial ?_
        exact WP.ret (.ireturn, 1, (0, 0), .null) (rk := 2) (by decide +kernel) (by decide +kernel) rfl (by decide) (hΦ _ h)
  · refine Ct.go (n := 2) (E := [some (.ref 13), some (.int a1)]) (by decide +kernel) (by simp [Value.category]) rfl ?_
    refine WP.blk [(.aload_n 0, 1, (0, 0), .null), (.aload_n 0, 1, (0, 0), .null), (.getfield 31, 3, (1, 6), .null), (.iload_n 1, 1, (0, 0), .null), (.iadd, 1, (0, 0), .null)] (G := True) (c' := (7, [some (.ref 13), some (.int a1)], [.int ((M 13 6) + a1), .ref 13], M)) (by decide +kernel) rfl trivial ?_
    refine WP.call (.invokevirtual 70, 3, (50, 2), .null) (by decide +kernel) rfl (sp_Bike_hasCog (d := d + 0) (by decide) h (fun r1 h => ?_))
    show WP (Ct (d + 2)) 61 Post (10, [some (.ref 13), some (.int a1)], [.int r1], M)
    refine WP.br (.ifCond .eq 22, 3, (32, 0), .null) (by decide +kernel) rfl (fun c2 => ?_) (fun c2 => ?_)
    · replace h := h.1 c2
      refine WP.blk [(.iconst 0, 1, (0, 0), .int 0)] (G := True) (c' := (33, [some (.ref 13), some (.int a1)], [.int 0], M)) (by decide +kernel) rfl trivial ?_
      exact WP.ret (.ireturn, 1, (0, 0), .null) (rk := 2) (by decide +kernel) (by decide +kernel) rfl (by decide) (hΦ _ h)
    · replace h := h.2 c2
      refine WP.blk [(.aload_n 0, 1, (0, 0), .null), (.aload_n 0, 1, (0, 0), .null), (.getfield 31, 3, (1, 6), .null), (.aload_n 0, 1, (0, 0), .null), (.getfield 34, 3, (1, 7), .null)] (G := True) (c' := (22, [some (.ref 13), some (.int a1)], [.int (M 13 7), .int (M 13 6), .ref 13], M)) (by decide +kernel) rfl trivial ?_
      refine WP.call (.invokevirtual 115, 3, (62, 3), .null) (by decide +kernel) rfl (sp_Bike_mayLeave (d := d + 1) (by decide) h (fun r3 h => ?_))
      show WP (Ct (d + 2)) 61 Post (25, [some (.ref 13), some (.int a1)], [.int r3], M)
      refine WP.br (.ifCond .eq 7, 3, (32, 0), .null) (by decide +kernel) rfl (fun c4 => ?_) (fun c4 => ?_)
      · replace h := h.1 c4
        refine WP.blk [(.iconst 0, 1, (0, 0), .int 0)] (G := True) (c' := (33, [some (.ref 13), some (.int a1)], [.int 0], M)) (by decide +kernel) rfl trivial ?_
        exact WP.ret (.ireturn, 1, (0, 0), .null) (rk := 2) (by decide +kernel) (by decide +kernel) rfl (by decide) (hΦ _ h)
      · replace h := h.2 c4
        refine WP.blk [(.iconst 1, 1, (0, 0), .int 1), (.goto 4, 3, (33, 0), .null)] (G := True) (c' := (33, [some (.ref 13), some (.int a1)], [.int 1], M)) (by decide +kernel) rfl trivial ?_
        exact WP.ret (.ireturn, 1, (0, 0), .null) (rk := 2) (by decide +kernel) (by decide +kernel) rfl (by decide) (hΦ _ h)
/-- GearRoad$Bike.turnsOnto(I)I -/
def S_Bike_turnsOnto (k : Nat) (M : Mm) (a1 : Int32) (Φ : Int32 → Prop) : Prop := vp_in a1 6 ∧ (((M (k + 2) (Int32.toNatClampNeg a1)) = 3 → Φ 1) ∧ (¬ ((M (k + 2) (Int32.toNatClampNeg a1)) = 3) → Φ 3))
set_option maxRecDepth 100000 in
set_option maxHeartbeats 4000000 in
theorem sp_Bike_turnsOnto {d : Nat} {Post : Option Value → Mm → Prop} {k : Nat} {M : Mm} {a1 : Int32} {Φ : Int32 → Prop} (hk : k = 7 ∨ k = 13) (h : S_Bike_turnsOnto k M a1 Φ) (hΦ : ∀ r, Φ r → Post (some (.int r)) M) : Ct (d + 1) 64 [.ref k, .int a1] M Post := by
  rcases hk with rfl | rfl
  · refine Ct.go (n := 2) (E := [some (.ref 7), some (.int a1)]) (by decide +kernel) (by simp [Value.category]) rfl ?_
    refine WP.blk [(.aload_n 0, 1, (0, 0), .null), (.getfield 44, 3, (1, 10), .null), (.iload_n 1, 1, (0, 0), .null), (.iaload, 1, (0, 0), .null), (.iconst 3, 1, (0, 0), .int 3)] (G := vp_in a1 6 ∧ True) (c' := (7, [some (.ref 7), some (.int a1)], [.int 3, .int (M 9 (Int32.toNatClampNeg a1))], M)) (by decide +kernel) rfl ⟨h.1, trivial⟩ ?_
    replace h := h.2
    refine WP.br (.if_icmp .ne 7, 3, (14, 0), .null) (by decide +kernel) rfl (fun c1 => ?_) (fun c1 => ?_)
    · replace h := h.2 c1
      refine WP.blk [(.iconst 3, 1, (0, 0), .int 3)] (G := True) (c' := (15, [some (.ref 7), some (.int a1)], [.int 3], M)) (by decide +kernel) rfl trivial ?_
      exact WP.ret (.ireturn, 1, (0, 0), .null) (rk := 1) (by decide +kernel) (by decide +kernel) rfl trivial (hΦ _ h)
    · replace h := h.1 (Classical.not_not.mp c1)
      refine WP.blk [(.iconst 1, 1, (0, 0), .int 1), (.goto 4, 3, (15, 0), .null)] (G := True) (c' := (15, [some (.ref 7), some (.int a1)], [.int 1], M)) (by decide +kernel) rfl trivial ?_
      exact WP.ret (.ireturn, 1, (0, 0), .null) (rk := 1) (by decide +kernel) (by decide +kernel) rfl trivial (hΦ _ h)
  · refine Ct.go (n := 2) (E := [some (.ref 13), some (.int a1)]) (by decide +kernel) (by simp [Value.category]) rfl ?_
    refine WP.blk [(.aload_n 0, 1, (0, 0), .null), (.getfield 44, 3, (1, 10), .null), (.iload_n 1, 1, (0, 0), .null), (.iaload, 1, (0, 0), .null), (.iconst 3, 1, (0, 0), .int 3)] (G := vp_in a1 6 ∧ True) (c' := (7, [some (.ref 13), some (.int a1)], [.int 3, .int (M 15 (Int32.toNatClampNeg a1))], M)) (by decide +kernel) rfl ⟨h.1, trivial⟩ ?_
    replace h := h.2
    refine WP.br (.if_icmp .ne 7, 3, (14, 0), .null) (by decide +kernel) rfl (fun c1 => ?_) (fun c1 => ?_)
    · replace h := h.2 c1
      refine WP.blk [(.iconst 3, 1, (0, 0), .int 3)] (G := True) (c' := (15, [some (.ref 13), some (.int a1)], [.int 3], M)) (by decide +kernel) rfl trivial ?_
      exact WP.ret (.ireturn, 1, (0, 0), .null) (rk := 1) (by decide +kernel) (by decide +kernel) rfl trivial (hΦ _ h)
    · replace h := h.1 (Classical.not_not.mp c1)
      refine WP.blk [(.iconst 1, 1, (0, 0), .int 1), (.goto 4, 3, (15, 0), .null)] (G := True) (c' := (15, [some (.ref 13), some (.int a1)], [.int 1], M)) (by decide +kernel) rfl trivial ?_
      exact WP.ret (.ireturn, 1, (0, 0), .null) (rk := 1) (by decide +kernel) (by decide +kernel) rfl trivial (hΦ _ h)
/-- GearRoad$Bike.shiftCog(I)V -/
def S_Bike_shiftCog (k : Nat) (M : Mm) (a1 : Int32) (Φ : Mm → Prop) : Prop := S_Bike_turnsOnto k (mu M k 6 ((M k 6) + a1)) ((mu M k 6 ((M k 6) + a1)) k 6) (fun r1 => S_Bike_turn k (mu M k 6 ((M k 6) + a1)) r1 (fun M2 => S_Bike_turnsOnto k M2 (M2 k 6) (fun r3 => S_Bike_turnOnCog k M2 r3 (fun M4 => Φ M4))))
set_option maxRecDepth 100000 in
set_option maxHeartbeats 4000000 in
theorem sp_Bike_shiftCog {d : Nat} {Post : Option Value → Mm → Prop} {k : Nat} {M : Mm} {a1 : Int32} {Φ : Mm → Prop} (hk : k = 7 ∨ k = 13) (h : S_Bike_shiftCog k M a1 Φ) (hΦ : ∀ M1, Φ M1 → Post none M1) : Ct (d + 3) 63 [.ref k, .int a1] M Post := by
  rcases hk with rfl | rfl
  · refine Ct.go (n := 2) (E := [some (.ref 7), some (.int a1)]) (by decide +kernel) (by simp [Value.category]) rfl ?_
    refine WP.blk [(.aload_n 0, 1, (0, 0), .null), (.dup, 1, (0, 0), .null), (.getfield 31, 3, (1, 6), .null), (.iload_n 1, 1, (0, 0), .null), (.iadd, 1, (0, 0), .null), (.putfield 31, 3, (1, 6), .null), (.aload_n 0, 1, (0, 0), .null), (.aload_n 0, 1, (0, 0), .null), (.aload_n 0, 1, (0, 0), .null), (.getfield 31, 3, (1, 6), .null)] (G := True) (c' := (16, [some (.ref 7), some (.int a1)], [.int ((mu M 7 6 ((M 7 6) + a1)) 7 6), .ref 7, .ref 7], (mu M 7 6 ((M 7 6) + a1)))) (by decide +kernel) rfl trivial ?_
    refine WP.call (.invokevirtual 118, 3, (64, 2), .null) (by decide +kernel) rfl (sp_Bike_turnsOnto (d := d + 1) (by decide) h (fun r1 h => ?_))
    show WP (Ct (d + 2)) 63 Post (19, [some (.ref 7), some (.int a1)], [.int r1, .ref 7], (mu M 7 6 ((M 7 6) + a1)))
    refine WP.call (.invokevirtual 108, 3, (58, 2), .null) (by decide +kernel) rfl (sp_Bike_turn (d := d + 0) (by decide) h (fun M2 h => ?_))
    show WP (Ct (d + 2)) 63 Post (22, [some (.ref 7), some (.int a1)], [], M2)
    refine WP.blk [(.aload_n 0, 1, (0, 0), .null), (.aload_n 0, 1, (0, 0), .null), (.aload_n 0, 1, (0, 0), .null), (.getfield 31, 3, (1, 6), .null)] (G := True) (c' := (28, [some (.ref 7), some (.int a1)], [.int (M2 7 6), .ref 7, .ref 7], M2)) (by decide +kernel) rfl trivial ?_
    refine WP.call (.invokevirtual 118, 3, (64, 2), .null) (by decide +kernel) rfl (sp_Bike_turnsOnto (d := d + 1) (by decide) h (fun r3 h => ?_))
    show WP (Ct (d + 2)) 63 Post (31, [some (.ref 7), some (.int a1)], [.int r3, .ref 7], M2)
    refine WP.call (.invokevirtual 112, 3, (59, 2), .null) (by decide +kernel) rfl (sp_Bike_turnOnCog (d := d + 0) (by decide) h (fun M4 h => ?_))
    show WP (Ct (d + 2)) 63 Post (34, [some (.ref 7), some (.int a1)], [], M4)
    exact WP.ret (.return_, 1, (0, 0), .null) (rk := 0) (by decide +kernel) (by decide +kernel) rfl trivial (hΦ _ h)
  · refine Ct.go (n := 2) (E := [some (.ref 13), some (.int a1)]) (by decide +kernel) (by simp [Value.category]) rfl ?_
    refine WP.blk [(.aload_n 0, 1, (0, 0), .null), (.dup, 1, (0, 0), .null), (.getfield 31, 3, (1, 6), .null), (.iload_n 1, 1, (0, 0), .null), (.iadd, 1, (0, 0), .null), (.putfield 31, 3, (1, 6), .null), (.aload_n 0, 1, (0, 0), .null), (.aload_n 0, 1, (0, 0), .null), (.aload_n 0, 1, (0, 0), .null), (.getfield 31, 3, (1, 6), .null)] (G := True) (c' := (16, [some (.ref 13), some (.int a1)], [.int ((mu M 13 6 ((M 13 6) + a1)) 13 6), .ref 13, .ref 13], (mu M 13 6 ((M 13 6) + a1)))) (by decide +kernel) rfl trivial ?_
    refine WP.call (.invokevirtual 118, 3, (64, 2), .null) (by decide +kernel) rfl (sp_Bike_turnsOnto (d := d + 1) (by decide) h (fun r1 h => ?_))
    show WP (Ct (d + 2)) 63 Post (19, [some (.ref 13), some (.int a1)], [.int r1, .ref 13], (mu M 13 6 ((M 13 6) + a1)))
    refine WP.call (.invokevirtual 108, 3, (58, 2), .null) (by decide +kernel) rfl (sp_Bike_turn (d := d + 0) (by decide) h (fun M2 h => ?_))
    show WP (Ct (d + 2)) 63 Post (22, [some (.ref 13), some (.int a1)], [], M2)
    refine WP.blk [(.aload_n 0, 1, (0, 0), .null), (.aload_n 0, 1, (0, 0), .null), (.aload_n 0, 1, (0, 0), .null), (.getfield 31, 3, (1, 6), .null)] (G := True) (c' := (28, [some (.ref 13), some (.int a1)], [.int (M2 13 6), .ref 13, .ref 13], M2)) (by decide +kernel) rfl trivial ?_
    refine WP.call (.invokevirtual 118, 3, (64, 2), .null) (by decide +kernel) rfl (sp_Bike_turnsOnto (d := d + 1) (by decide) h (fun r3 h => ?_))
    show WP (Ct (d + 2)) 63 Post (31, [some (.ref 13), some (.int a1)], [.int r3, .ref 13], M2)
    refine WP.call (.invokevirtual 112, 3, (59, 2), .null) (by decide +kernel) rfl (sp_Bike_turnOnCog (d := d + 0) (by decide) h (fun M4 h => ?_))
    show WP (Ct (d + 2)) 63 Post (34, [some (.ref 13), some (.int a1)], [], M4)
    exact WP.ret (.return_, 1, (0, 0), .null) (rk := 0) (by decide +kernel) (by decide +kernel) rfl trivial (hΦ _ h)
/-- GearRoad$Bike.shiftRing(I)V -/
def S_Bike_shiftRing (k : Nat) (M : Mm) (a1 : Int32) (Φ : Mm → Prop) : Prop := S_Bike_turn k (mu M k 5 a1) 5 (fun M1 => Φ M1)
set_option maxRecDepth 100000 in
set_option maxHeartbeats 4000000 in
theorem sp_Bike_shiftRing {d : Nat} {Post : Option Value → Mm → Prop} {k : Nat} {M : Mm} {a1 : Int32} {Φ : Mm → Prop} (hk : k = 7 ∨ k = 13) (h : S_Bike_shiftRing k M a1 Φ) (hΦ : ∀ M1, Φ M1 → Post none M1) : Ct (d + 3) 66 [.ref k, .int a1] M Post := by
  rcases hk with rfl | rfl
  · refine Ct.go (n := 2) (E := [some (.ref 7), some (.int a1)]) (by decide +kernel) (by simp [Value.category]) rfl ?_
    refine WP.blk [(.aload_n 0, 1, (0, 0), .null), (.iload_n 1, 1, (0, 0), .null), (.putfield 28, 3, (1, 5), .null), (.aload_n 0, 1, (0, 0), .null), (.iconst 5, 1, (0, 0), .int 5)] (G := True) (c' := (7, [some (.ref 7), some (.int a1)], [.int 5, .ref 7], (mu M 7 5 a1))) (by decide +kernel) rfl trivial ?_
    refine WP.call (.invokevirtual 108, 3, (58, 2), .null) (by decide +kernel) rfl (sp_Bike_turn (d := d + 0) (by decide) h (fun M1 h => ?_))
    show WP (Ct (d + 2)) 66 Post (10, [some (.ref 7), some (.int a1)], [], M1)
    exact WP.ret (.return_, 1, (0, 0), .null) (rk := 0) (by decide +kernel) (by decide +kernel) rfl trivial (hΦ _ h)
  · refine Ct.go (n := 2) (E := [some (.ref 13), some (.int a1)]) (by decide +kernel) (by simp [Value.category]) rfl ?_
    refine WP.blk [(.aload_n 0, 1, (0, 0), .null), (.iload_n 1, 1, (0, 0), .null), (.putfield 28, 3, (1, 5), .null), (.aload_n 0, 1, (0, 0), .null), (.iconst 5, 1, (0, 0), .int 5)] (G := True) (c' := (7, [some (.ref 13), some (.int a1)], [.int 5, .ref 13], (mu M 13 5 a1))) (by decide +kernel) rfl trivial ?_
    refine WP.call (.invokevirtual 108, 3, (58, 2), .null) (by decide +kernel) rfl (sp_Bike_turn (d := d + 0) (by decide) h (fun M1 h => ?_))
    show WP (Ct (d + 2)) 66 Post (10, [some (.ref 13), some (.int a1)], [], M1)
    exact WP.ret (.return_, 1, (0, 0), .null) (rk := 0) (by decide +kernel) (by decide +kernel) rfl trivial (hΦ _ h)
/-- GearRoad$Bike.turnAbout()V -/
def D_Bike_turnAbout_9 (k : Nat) (Φ : Mm → Prop) (rec_9 : Int32 × Int32 × Mm → Prop) : Int32 × Int32 × Mm → Prop
  | (x1, x2, M) => ((x2 < x1 → Φ (mu M k 7 ((M k 3) - (M k 7)))) ∧ (¬ (x2 < x1) → vp_in x1 6 ∧ vp_in x2 6 ∧ vp_in x1 6 ∧ vp_in x2 6 ∧ rec_9 ((x1 + 1), (x2 + (-1)), (mu (mu M (k + 5) (Int32.toNatClampNeg x1) (9 - (M (k + 5) (Int32.toNatClampNeg x2)))) (k + 5) (Int32.toNatClampNeg x2) (9 - (M (k + 5) (Int32.toNatClampNeg x1)))))))
def S_Bike_turnAbout (k : Nat) (M : Mm) (Φ : Mm → Prop) : Prop := ∃ n, lp (D_Bike_turnAbout_9 k Φ) n (0, ((M k 3) - 1), M)
set_option maxRecDepth 100000 in
set_option maxHeartbeats 4000000 in
theorem L_Bike_turnAbout_9 {d : Nat} {Post : Option Value → Mm → Prop} {k : Nat} {rec_9 : Int32 × Int32 × Mm → Prop} {Φ : Mm → Prop} (hk : k = 7 ∨ k = 13) (hΦ : ∀ M1, Φ M1 → Post none M1) (hrec_9 : ∀ (x1 : Int32) (x2 : Int32) (M : Mm), rec_9 (x1, x2, M) → WP (Ct (d + 0)) 68 Post (9, [some (.ref k), some (.int x1), some (.int x2), none], [], M)) : ∀ (x1 : Int32) (x2 : Int32) (M : Mm), D_Bike_turnAbout_9 k Φ rec_9 (x1, x2, M) → WP (Ct (d + 0)) 68 Post (9, [some (.ref k), some (.int x1), some (.int x2), none], [], M) := by
  rcases hk with rfl | rfl
  · intro x1 x2 M h
    refine WP.blk [(.iload_n 1, 1, (0, 0), .null), (.iload_n 2, 1, (0, 0), .null)] (G := True) (c' := (11, [some (.ref 7), some (.int x1), some (.int x2), none], [.int x2, .int x1], M)) (by decide +kernel) rfl trivial ?_
    refine WP.br (.if_icmp .gt 44, 3, (55, 0), .null) (by decide +kernel) rfl (fun c3 => ?_) (fun c3 => ?_)
    · replace h := h.1 c3
      refine WP.blk [(.aload_n 0, 1, (0, 0), .null), (.aload_n 0, 1, (0, 0), .null), (.getfield 22, 3, (1, 3), .null), (.aload_n 0, 1, (0, 0), .null), (.getfield 34, 3, (1, 7), .null), (.isub, 1, (0, 0), .null), (.putfield 34, 3, (1, 7), .null)] (G := True) (c' := (68, [some (.ref 7), some (.int x1), some (.int x2), none], [], (mu M 7 7 ((M 7 3) - (M 7 7))))) (by decide +kernel) rfl trivial ?_
      exact WP.ret (.return_, 1, (0, 0), .null) (rk := 0) (by decide +kernel) (by decide +kernel) rfl trivial (hΦ _ h)
    · replace h := h.2 c3
      refine WP.blk [(.aload_n 0, 1, (0, 0), .null), (.getfield 53, 3, (1, 13), .null), (.iload_n 1, 1, (0, 0), .null), (.iaload, 1, (0, 0), .null), (.istore_n 3, 1, (0, 0), .null), (.aload_n 0, 1, (0, 0), .null), (.getfield 53, 3, (1, 13), .null), (.iload_n 1, 1, (0, 0), .null), (.bipush 9, 2, (0, 0), .int 9), (.aload_n 0, 1, (0, 0), .null), (.getfield 53, 3, (1, 13), .null), (.iload_n 2, 1, (0, 0), .null), (.iaload, 1, (0, 0), .null), (.isub, 1, (0, 0), .null), (.iastore, 1, (0, 0), .null), (.aload_n 0, 1, (0, 0), .null), (.getfield 53, 3, (1, 13), .null), (.iload_n 2, 1, (0, 0), .null), (.bipush 9, 2, (0, 0), .int 9), (.iload_n 3, 1, (0, 0), .null), (.isub, 1, (0, 0), .null), (.iastore, 1, (0, 0), .null), (.iinc 1 1, 3, (0, 0), .int 1), (.iinc 2 (-1), 3, (0, 0), .int (-1)), (.goto (-43), 3, (9, 0), .null)] (G := vp_in x1 6 ∧ vp_in x2 6 ∧ vp_in x1 6 ∧ vp_in x2 6 ∧ True) (c' := (9, [some (.ref 7), some (.int (x1 + 1)), some (.int (x2 + (-1))), some (.int (M 12 (Int32.toNatClampNeg x1)))], [], (mu (mu M 12 (Int32.toNatClampNeg x1) (9 - (M 12 (Int32.toNatClampNeg x2)))) 12 (Int32.toNatClampNeg x2) (9 - (M 12 (Int32.toNatClampNeg x1)))))) (by decide +kernel) rfl ⟨h.1, h.2.1, h.2.2.1, h.2.2.2.1, trivial⟩ ?_
      replace h := h.2.2.2.2
      refine WP.fgt [some (.ref 7), some (.int (x1 + 1)), some (.int (x2 + (-1))), none] (by simp [fgt]) ?_
      exact hrec_9 _ _ _ h
  · intro x1 x2 M h
    refine WP.blk [(.iload_n 1, 1, (0, 0), .null), (.iload_n 2, 1, (0, 0), .null)] (G := True) (c' := (11, [some (.ref 13), some (.int x1), some (.int x2), none], [.int x2, .int x1], M)) (by decide +kernel) rfl trivial ?_
    refine WP.br (.if_icmp .gt 44, 3, (55, 0), .null) (by decide +kernel) rfl (fun c3 => ?_) (fun c3 => ?_)
    · replace h := h.1 c3
      refine WP.blk [(.aload_n 0, 1, (0, 0), .null), (.aload_n 0, 1, (0, 0), .null), (.getfield 22, 3, (1, 3), .null), (.aload_n 0, 1, (0, 0), .null), (.getfield 34, 3, (1, 7), .null), (.isub, 1, (0, 0), .null), (.putfield 34, 3, (1, 7), .null)] (G := True) (c' := (68, [some (.ref 13), some (.int x1), some (.int x2), none], [], (mu M 13 7 ((M 13 3) - (M 13 7))))) (by decide +kernel) rfl trivial ?_
      exact WP.ret (.return_, 1, (0, 0), .null) (rk := 0) (by decide +kernel) (by decide +kernel) rfl trivial (hΦ _ h)
    · replace h := h.2 c3
      refine WP.blk [(.aload_n 0, 1, (0, 0), .null), (.getfield 53, 3, (1, 13), .null), (.iload_n 1, 1, (0, 0), .null), (.iaload, 1, (0, 0), .null), (.istore_n 3, 1, (0, 0), .null), (.aload_n 0, 1, (0, 0), .null), (.getfield 53, 3, (1, 13), .null), (.iload_n 1, 1, (0, 0), .null), (.bipush 9, 2, (0, 0), .int 9), (.aload_n 0, 1, (0, 0), .null), (.getfield 53, 3, (1, 13), .null), (.iload_n 2, 1, (0, 0), .null), (.iaload, 1, (0, 0), .null), (.isub, 1, (0, 0), .null), (.iastore, 1, (0, 0), .null), (.aload_n 0, 1, (0, 0), .null), (.getfield 53, 3, (1, 13), .null), (.iload_n 2, 1, (0, 0), .null), (.bipush 9, 2, (0, 0), .int 9), (.iload_n 3, 1, (0, 0), .null), (.isub, 1, (0, 0), .null), (.iastore, 1, (0, 0), .null), (.iinc 1 1, 3, (0, 0), .int 1), (.iinc 2 (-1), 3, (0, 0), .int (-1)), (.goto (-43), 3, (9, 0), .null)] (G := vp_in x1 6 ∧ vp_in x2 6 ∧ vp_in x1 6 ∧ vp_in x2 6 ∧ True) (c' := (9, [some (.ref 13), some (.int (x1 + 1)), some (.int (x2 + (-1))), some (.int (M 18 (Int32.toNatClampNeg x1)))], [], (mu (mu M 18 (Int32.toNatClampNeg x1) (9 - (M 18 (Int32.toNatClampNeg x2)))) 18 (Int32.toNatClampNeg x2) (9 - (M 18 (Int32.toNatClampNeg x1)))))) (by decide +kernel) rfl ⟨h.1, h.2.1, h.2.2.1, h.2.2.2.1, trivial⟩ ?_
      replace h := h.2.2.2.2
      refine WP.fgt [some (.ref 13), some (.int (x1 + 1)), some (.int (x2 + (-1))), none] (by simp [fgt]) ?_
      exact hrec_9 _ _ _ h
theorem P_Bike_turnAbout_9 {d : Nat} {Post : Option Value → Mm → Prop} {k : Nat} {Φ : Mm → Prop} (hk : k = 7 ∨ k = 13) (hΦ : ∀ M1, Φ M1 → Post none M1) : ∀ (n : Nat) (x1 : Int32) (x2 : Int32) (M : Mm), lp (D_Bike_turnAbout_9 k Φ) n (x1, x2, M) → WP (Ct (d + 0)) 68 Post (9, [some (.ref k), some (.int x1), some (.int x2), none], [], M)
  | 0, x1, x2, M, h => absurd h (by simp [lp])
  | n + 1, x1, x2, M, h => L_Bike_turnAbout_9 hk hΦ (P_Bike_turnAbout_9 hk hΦ n) x1 x2 M h
set_option maxRecDepth 100000 in
set_option maxHeartbeats 4000000 in
theorem sp_Bike_turnAbout {d : Nat} {Post : Option Value → Mm → Prop} {k : Nat} {M : Mm} {Φ : Mm → Prop} (hk : k = 7 ∨ k = 13) (h : S_Bike_turnAbout k M Φ) (hΦ : ∀ M1, Φ M1 → Post none M1) : Ct (d + 1) 68 [.ref k] M Post := by
  rcases hk with rfl | rfl
  · refine Ct.go (n := 4) (E := [some (.ref 7), none, none, none]) (by decide +kernel) (by simp [Value.category]) rfl ?_
    refine WP.blk [(.iconst 0, 1, (0, 0), .int 0), (.istore_n 1, 1, (0, 0), .null), (.aload_n 0, 1, (0, 0), .null), (.getfield 22, 3, (1, 3), .null), (.iconst 1, 1, (0, 0), .int 1), (.isub, 1, (0, 0), .null), (.istore_n 2, 1, (0, 0), .null)] (G := True) (c' := (9, [some (.ref 7), some (.int 0), some (.int ((M 7 3) - 1)), none], [], M)) (by decide +kernel) rfl trivial ?_
    obtain ⟨n, h⟩ := h
    exact P_Bike_turnAbout_9 (by decide) hΦ n _ _ _ h
  · refine Ct.go (n := 4) (E := [some (.ref 13), none, none, none]) (by decide +kernel) (by simp [Value.category]) rfl ?_
    refine WP.blk [(.iconst 0, 1, (0, 0), .int 0), (.istore_n 1, 1, (0, 0), .null), (.aload_n 0, 1, (0, 0), .null), (.getfield 22, 3, (1, 3), .null), (.iconst 1, 1, (0, 0), .int 1), (.isub, 1, (0, 0), .null), (.istore_n 2, 1, (0, 0), .null)] (G := True) (c' := (9, [some (.ref 13), some (.int 0), some (.int ((M 13 3) - 1)), none], [], M)) (by decide +kernel) rfl trivial ?_
    obtain ⟨n, h⟩ := h
    exact P_Bike_turnAbout_9 (by decide) hΦ n _ _ _ h
end
