section
-- ===== PART A: goes FIRST, ahead of the names: the tables' words, and 'selects' of the private methods out of them =====
/-- a private method of a class that the tables say can be made, by its rows of tables_1 -/
def lw_okq (q : MethodName × Nat) : Prop := (q.1.cls ≠ "java/lang/invoke/MethodHandle" ∧ q.1.cls ≠ "java/lang/invoke/VarHandle") ∧ Cond.instantiable q.1.cls q.2 ∈ tables_1 ∧ Cond.privateMethod q.1 ∈ tables_1 ∧ Cond.instanceMethod q.1 ∈ tables_1
theorem lw_p0 : lw_okq (⟨"RoofLent", "found", "(I)I"⟩, 12) := ⟨⟨by decide +kernel, by decide +kernel⟩, List.mem_of_getElem? (i := 12) (by decide +kernel), List.mem_of_getElem? (i := 176) (by decide +kernel), List.mem_of_getElem? (i := 177) (by decide +kernel)⟩
theorem lw_p1 : lw_okq (⟨"RoofLent", "readAside", "(I)I"⟩, 12) := ⟨⟨by decide +kernel, by decide +kernel⟩, List.mem_of_getElem? (i := 12) (by decide +kernel), List.mem_of_getElem? (i := 261) (by decide +kernel), List.mem_of_getElem? (i := 262) (by decide +kernel)⟩
theorem lw_p2 : lw_okq (⟨"RoofLent", "isNoPlace", "(II)Z"⟩, 12) := ⟨⟨by decide +kernel, by decide +kernel⟩, List.mem_of_getElem? (i := 12) (by decide +kernel), List.mem_of_getElem? (i := 351) (by decide +kernel), List.mem_of_getElem? (i := 352) (by decide +kernel)⟩
theorem lw_p3 : lw_okq (⟨"RoofLent$Ledger", "reckonHouse", "(LRoofLent$Rock;III)V"⟩, 8) := ⟨⟨by decide +kernel, by decide +kernel⟩, List.mem_of_getElem? (i := 83) (by decide +kernel), List.mem_of_getElem? (i := 369) (by decide +kernel), List.mem_of_getElem? (i := 370) (by decide +kernel)⟩
theorem lw_p4 : lw_okq (⟨"RoofLent$Ledger", "isNumber", "(I)Z"⟩, 8) := ⟨⟨by decide +kernel, by decide +kernel⟩, List.mem_of_getElem? (i := 83) (by decide +kernel), List.mem_of_getElem? (i := 373) (by decide +kernel), List.mem_of_getElem? (i := 374) (by decide +kernel)⟩
theorem lw_p5 : lw_okq (⟨"RoofLent$Ledger", "charge", "(III)V"⟩, 8) := ⟨⟨by decide +kernel, by decide +kernel⟩, List.mem_of_getElem? (i := 83) (by decide +kernel), List.mem_of_getElem? (i := 400) (by decide +kernel), List.mem_of_getElem? (i := 401) (by decide +kernel)⟩
theorem lw_p6 : lw_okq (⟨"RoofLent", "toldOf", "(III)I"⟩, 12) := ⟨⟨by decide +kernel, by decide +kernel⟩, List.mem_of_getElem? (i := 12) (by decide +kernel), List.mem_of_getElem? (i := 404) (by decide +kernel), List.mem_of_getElem? (i := 405) (by decide +kernel)⟩
theorem lw_p7 : lw_okq (⟨"RoofLent$Rock", "weightInOwnTower", "(II)I"⟩, 4) := ⟨⟨by decide +kernel, by decide +kernel⟩, List.mem_of_getElem? (i := 49) (by decide +kernel), List.mem_of_getElem? (i := 415) (by decide +kernel), List.mem_of_getElem? (i := 416) (by decide +kernel)⟩
theorem lw_p8 : lw_okq (⟨"RoofLent", "markOf", "(III)I"⟩, 12) := ⟨⟨by decide +kernel, by decide +kernel⟩, List.mem_of_getElem? (i := 12) (by decide +kernel), List.mem_of_getElem? (i := 451) (by decide +kernel), List.mem_of_getElem? (i := 452) (by decide +kernel)⟩
theorem lw_p9 : lw_okq (⟨"RoofLent", "hoursTakenIfHouse", "(II)I"⟩, 12) := ⟨⟨by decide +kernel, by decide +kernel⟩, List.mem_of_getElem? (i := 12) (by decide +kernel), List.mem_of_getElem? (i := 455) (by decide +kernel), List.mem_of_getElem? (i := 456) (by decide +kernel)⟩
theorem lw_p10 : lw_okq (⟨"RoofLent", "lightenedBelow", "(II)I"⟩, 12) := ⟨⟨by decide +kernel, by decide +kernel⟩, List.mem_of_getElem? (i := 12) (by decide +kernel), List.mem_of_getElem? (i := 471) (by decide +kernel), List.mem_of_getElem? (i := 472) (by decide +kernel)⟩
theorem lw_p11 : lw_okq (⟨"RoofLent$Rock", "housesIn", "(I)I"⟩, 4) := ⟨⟨by decide +kernel, by decide +kernel⟩, List.mem_of_getElem? (i := 49) (by decide +kernel), List.mem_of_getElem? (i := 518) (by decide +kernel), List.mem_of_getElem? (i := 519) (by decide +kernel)⟩
theorem lw_p12 : lw_okq (⟨"RoofLent", "keptAt", "(I)LRoofLent$Story;"⟩, 12) := ⟨⟨by decide +kernel, by decide +kernel⟩, List.mem_of_getElem? (i := 12) (by decide +kernel), List.mem_of_getElem? (i := 526) (by decide +kernel), List.mem_of_getElem? (i := 527) (by decide +kernel)⟩
theorem lw_p13 : lw_okq (⟨"RoofLent", "lampsWhereSteady", "(LRoofLent$Rock;)I"⟩, 12) := ⟨⟨by decide +kernel, by decide +kernel⟩, List.mem_of_getElem? (i := 12) (by decide +kernel), List.mem_of_getElem? (i := 601) (by decide +kernel), List.mem_of_getElem? (i := 602) (by decide +kernel)⟩
theorem lw_p14 : lw_okq (⟨"RoofLent$Settling", "mostGroups", "(I)I"⟩, 3) := ⟨⟨by decide +kernel, by decide +kernel⟩, List.mem_of_getElem? (i := 115) (by decide +kernel), List.mem_of_getElem? (i := 648) (by decide +kernel), List.mem_of_getElem? (i := 649) (by decide +kernel)⟩
theorem lw_p15 : lw_okq (⟨"RoofLent$Ledger", "owedBy", "(I)I"⟩, 8) := ⟨⟨by decide +kernel, by decide +kernel⟩, List.mem_of_getElem? (i := 83) (by decide +kernel), List.mem_of_getElem? (i := 666) (by decide +kernel), List.mem_of_getElem? (i := 667) (by decide +kernel)⟩
def lw_privs_1 : List (MethodName × Nat) := [(⟨"RoofLent", "found", "(I)I"⟩, 12), (⟨"RoofLent", "readAside", "(I)I"⟩, 12), (⟨"RoofLent", "isNoPlace", "(II)Z"⟩, 12), (⟨"RoofLent$Ledger", "reckonHouse", "(LRoofLent$Rock;III)V"⟩, 8), (⟨"RoofLent$Ledger", "isNumber", "(I)Z"⟩, 8), (⟨"RoofLent$Ledger", "charge", "(III)V"⟩, 8), (⟨"RoofLent", "toldOf", "(III)I"⟩, 12), (⟨"RoofLent$Rock", "weightInOwnTower", "(II)I"⟩, 4), (⟨"RoofLent", "markOf", "(III)I"⟩, 12), (⟨"RoofLent", "hoursTakenIfHouse", "(II)I"⟩, 12), (⟨"RoofLent", "lightenedBelow", "(II)I"⟩, 12), (⟨"RoofLent$Rock", "housesIn", "(I)I"⟩, 4), (⟨"RoofLent", "keptAt", "(I)LRoofLent$Story;"⟩, 12), (⟨"RoofLent", "lampsWhereSteady", "(LRoofLent$Rock;)I"⟩, 12), (⟨"RoofLent$Settling", "mostGroups", "(I)I"⟩, 3), (⟨"RoofLent$Ledger", "owedBy", "(I)I"⟩, 8)]
theorem lw_r1 : ∀ q ∈ lw_privs_1, lw_okq q := List.forall_mem_cons.mpr ⟨lw_p0, List.forall_mem_cons.mpr ⟨lw_p1, List.forall_mem_cons.mpr ⟨lw_p2, List.forall_mem_cons.mpr ⟨lw_p3, List.forall_mem_cons.mpr ⟨lw_p4, List.forall_mem_cons.mpr ⟨lw_p5, List.forall_mem_cons.mpr ⟨lw_p6, List.forall_mem_cons.mpr ⟨lw_p7, List.forall_mem_cons.mpr ⟨lw_p8, List.forall_mem_cons.mpr ⟨lw_p9, List.forall_mem_cons.mpr ⟨lw_p10, List.forall_mem_cons.mpr ⟨lw_p11, List.forall_mem_cons.mpr ⟨lw_p12, List.forall_mem_cons.mpr ⟨lw_p13, List.forall_mem_cons.mpr ⟨lw_p14, List.forall_mem_cons.mpr ⟨lw_p15, fun _ h => absurd h List.not_mem_nil⟩⟩⟩⟩⟩⟩⟩⟩⟩⟩⟩⟩⟩⟩⟩⟩
theorem lw_p16 : lw_okq (⟨"RoofLent", "isLightAsIn", "(II)Z"⟩, 12) := ⟨⟨by decide +kernel, by decide +kernel⟩, List.mem_of_getElem? (i := 12) (by decide +kernel), List.mem_of_getElem? (i := 685) (by decide +kernel), List.mem_of_getElem? (i := 686) (by decide +kernel)⟩
theorem lw_p17 : lw_okq (⟨"RoofLent", "keptCount", "()I"⟩, 12) := ⟨⟨by decide +kernel, by decide +kernel⟩, List.mem_of_getElem? (i := 12) (by decide +kernel), List.mem_of_getElem? (i := 741) (by decide +kernel), List.mem_of_getElem? (i := 742) (by decide +kernel)⟩
theorem lw_p18 : lw_okq (⟨"RoofLent", "digestHouses", "(J)J"⟩, 12) := ⟨⟨by decide +kernel, by decide +kernel⟩, List.mem_of_getElem? (i := 12) (by decide +kernel), List.mem_of_getElem? (i := 760) (by decide +kernel), List.mem_of_getElem? (i := 761) (by decide +kernel)⟩
theorem lw_p19 : lw_okq (⟨"RoofLentModel", "found", "(I)I"⟩, 19) := ⟨⟨by decide +kernel, by decide +kernel⟩, List.mem_of_getElem? (i := 769) (by decide +kernel), List.mem_of_getElem? (i := 845) (by decide +kernel), List.mem_of_getElem? (i := 846) (by decide +kernel)⟩
theorem lw_p20 : lw_okq (⟨"RoofLentModel", "tells", "(II)I"⟩, 19) := ⟨⟨by decide +kernel, by decide +kernel⟩, List.mem_of_getElem? (i := 769) (by decide +kernel), List.mem_of_getElem? (i := 857) (by decide +kernel), List.mem_of_getElem? (i := 858) (by decide +kernel)⟩
theorem lw_p21 : lw_okq (⟨"RoofLentModel", "faultOf", "(I)I"⟩, 19) := ⟨⟨by decide +kernel, by decide +kernel⟩, List.mem_of_getElem? (i := 769) (by decide +kernel), List.mem_of_getElem? (i := 893) (by decide +kernel), List.mem_of_getElem? (i := 894) (by decide +kernel)⟩
theorem lw_p22 : lw_okq (⟨"RoofLentModel", "byteAt", "(II)I"⟩, 19) := ⟨⟨by decide +kernel, by decide +kernel⟩, List.mem_of_getElem? (i := 769) (by decide +kernel), List.mem_of_getElem? (i := 897) (by decide +kernel), List.mem_of_getElem? (i := 898) (by decide +kernel)⟩
theorem lw_p23 : lw_okq (⟨"RoofLentModel", "housesOf", "(I)I"⟩, 19) := ⟨⟨by decide +kernel, by decide +kernel⟩, List.mem_of_getElem? (i := 769) (by decide +kernel), List.mem_of_getElem? (i := 904) (by decide +kernel), List.mem_of_getElem? (i := 905) (by decide +kernel)⟩
theorem lw_p24 : lw_okq (⟨"RoofLentModel", "adds", "(IIII)V"⟩, 19) := ⟨⟨by decide +kernel, by decide +kernel⟩, List.mem_of_getElem? (i := 769) (by decide +kernel), List.mem_of_getElem? (i := 910) (by decide +kernel), List.mem_of_getElem? (i := 911) (by decide +kernel)⟩
theorem lw_p25 : lw_okq (⟨"RoofLentModel", "copyAll", "(III)V"⟩, 19) := ⟨⟨by decide +kernel, by decide +kernel⟩, List.mem_of_getElem? (i := 769) (by decide +kernel), List.mem_of_getElem? (i := 918) (by decide +kernel), List.mem_of_getElem? (i := 919) (by decide +kernel)⟩
theorem lw_p26 : lw_okq (⟨"RoofLentModel", "isTower", "(I)Z"⟩, 19) := ⟨⟨by decide +kernel, by decide +kernel⟩, List.mem_of_getElem? (i := 769) (by decide +kernel), List.mem_of_getElem? (i := 926) (by decide +kernel), List.mem_of_getElem? (i := 927) (by decide +kernel)⟩
theorem lw_p27 : lw_okq (⟨"RoofLentModel", "isTold", "(II)Z"⟩, 19) := ⟨⟨by decide +kernel, by decide +kernel⟩, List.mem_of_getElem? (i := 769) (by decide +kernel), List.mem_of_getElem? (i := 934) (by decide +kernel), List.mem_of_getElem? (i := 935) (by decide +kernel)⟩
theorem lw_p28 : lw_okq (⟨"RoofLentModel", "isThere", "(II)Z"⟩, 19) := ⟨⟨by decide +kernel, by decide +kernel⟩, List.mem_of_getElem? (i := 769) (by decide +kernel), List.mem_of_getElem? (i := 939) (by decide +kernel), List.mem_of_getElem? (i := 940) (by decide +kernel)⟩
theorem lw_p29 : lw_okq (⟨"RoofLentModel", "layLamps", "()V"⟩, 19) := ⟨⟨by decide +kernel, by decide +kernel⟩, List.mem_of_getElem? (i := 769) (by decide +kernel), List.mem_of_getElem? (i := 943) (by decide +kernel), List.mem_of_getElem? (i := 944) (by decide +kernel)⟩
theorem lw_p30 : lw_okq (⟨"RoofLentModel", "houses", "()I"⟩, 19) := ⟨⟨by decide +kernel, by decide +kernel⟩, List.mem_of_getElem? (i := 769) (by decide +kernel), List.mem_of_getElem? (i := 947) (by decide +kernel), List.mem_of_getElem? (i := 948) (by decide +kernel)⟩
theorem lw_p31 : lw_okq (⟨"RoofLentModel", "towerOf", "(I)I"⟩, 19) := ⟨⟨by decide +kernel, by decide +kernel⟩, List.mem_of_getElem? (i := 769) (by decide +kernel), List.mem_of_getElem? (i := 951) (by decide +kernel), List.mem_of_getElem? (i := 952) (by decide +kernel)⟩
def lw_privs_2 : List (MethodName × Nat) := [(⟨"RoofLent", "isLightAsIn", "(II)Z"⟩, 12), (⟨"RoofLent", "keptCount", "()I"⟩, 12), (⟨"RoofLent", "digestHouses", "(J)J"⟩, 12), (⟨"RoofLentModel", "found", "(I)I"⟩, 19), (⟨"RoofLentModel", "tells", "(II)I"⟩, 19), (⟨"RoofLentModel", "faultOf", "(I)I"⟩, 19), (⟨"RoofLentModel", "byteAt", "(II)I"⟩, 19), (⟨"RoofLentModel", "housesOf", "(I)I"⟩, 19), (⟨"RoofLentModel", "adds", "(IIII)V"⟩, 19), (⟨"RoofLentModel", "copyAll", "(III)V"⟩, 19), (⟨"RoofLentModel", "isTower", "(I)Z"⟩, 19), (⟨"RoofLentModel", "isTold", "(II)Z"⟩, 19), (⟨"RoofLentModel", "isThere", "(II)Z"⟩, 19), (⟨"RoofLentModel", "layLamps", "()V"⟩, 19), (⟨"RoofLentModel", "houses", "()I"⟩, 19), (⟨"RoofLentModel", "towerOf", "(I)I"⟩, 19)]
theorem lw_r2 : ∀ q ∈ lw_privs_2, lw_okq q := List.forall_mem_cons.mpr ⟨lw_p16, List.forall_mem_cons.mpr ⟨lw_p17, List.forall_mem_cons.mpr ⟨lw_p18, List.forall_mem_cons.mpr ⟨lw_p19, List.forall_mem_cons.mpr ⟨lw_p20, List.forall_mem_cons.mpr ⟨lw_p21, List.forall_mem_cons.mpr ⟨lw_p22, List.forall_mem_cons.mpr ⟨lw_p23, List.forall_mem_cons.mpr ⟨lw_p24, List.forall_mem_cons.mpr ⟨lw_p25, List.forall_mem_cons.mpr ⟨lw_p26, List.forall_mem_cons.mpr ⟨lw_p27, List.forall_mem_cons.mpr ⟨lw_p28, List.forall_mem_cons.mpr ⟨lw_p29, List.forall_mem_cons.mpr ⟨lw_p30, List.forall_mem_cons.mpr ⟨lw_p31, fun _ h => absurd h List.not_mem_nil⟩⟩⟩⟩⟩⟩⟩⟩⟩⟩⟩⟩⟩⟩⟩⟩
theorem lw_p32 : lw_okq (⟨"RoofLentModel", "storeyOf", "(I)I"⟩, 19) := ⟨⟨by decide +kernel, by decide +kernel⟩, List.mem_of_getElem? (i := 769) (by decide +kernel), List.mem_of_getElem? (i := 955) (by decide +kernel), List.mem_of_getElem? (i := 956) (by decide +kernel)⟩
theorem lw_p33 : lw_okq (⟨"RoofLentModel", "numberOf", "(II)I"⟩, 19) := ⟨⟨by decide +kernel, by decide +kernel⟩, List.mem_of_getElem? (i := 769) (by decide +kernel), List.mem_of_getElem? (i := 959) (by decide +kernel), List.mem_of_getElem? (i := 960) (by decide +kernel)⟩
theorem lw_p34 : lw_okq (⟨"RoofLentModel", "kindAt", "(II)I"⟩, 19) := ⟨⟨by decide +kernel, by decide +kernel⟩, List.mem_of_getElem? (i := 769) (by decide +kernel), List.mem_of_getElem? (i := 963) (by decide +kernel), List.mem_of_getElem? (i := 964) (by decide +kernel)⟩
theorem lw_p35 : lw_okq (⟨"RoofLentModel", "shader", "(III)I"⟩, 19) := ⟨⟨by decide +kernel, by decide +kernel⟩, List.mem_of_getElem? (i := 769) (by decide +kernel), List.mem_of_getElem? (i := 967) (by decide +kernel), List.mem_of_getElem? (i := 968) (by decide +kernel)⟩
theorem lw_p36 : lw_okq (⟨"RoofLentModel", "houseTells", "(III)I"⟩, 19) := ⟨⟨by decide +kernel, by decide +kernel⟩, List.mem_of_getElem? (i := 769) (by decide +kernel), List.mem_of_getElem? (i := 980) (by decide +kernel), List.mem_of_getElem? (i := 981) (by decide +kernel)⟩
theorem lw_p37 : lw_okq (⟨"RoofLentModel", "bearsAt", "(II)I"⟩, 19) := ⟨⟨by decide +kernel, by decide +kernel⟩, List.mem_of_getElem? (i := 769) (by decide +kernel), List.mem_of_getElem? (i := 984) (by decide +kernel), List.mem_of_getElem? (i := 985) (by decide +kernel)⟩
theorem lw_p38 : lw_okq (⟨"RoofLentModel", "weighsOn", "(II)I"⟩, 19) := ⟨⟨by decide +kernel, by decide +kernel⟩, List.mem_of_getElem? (i := 769) (by decide +kernel), List.mem_of_getElem? (i := 988) (by decide +kernel), List.mem_of_getElem? (i := 989) (by decide +kernel)⟩
theorem lw_p39 : lw_okq (⟨"RoofLentModel", "weightIn", "(II)I"⟩, 19) := ⟨⟨by decide +kernel, by decide +kernel⟩, List.mem_of_getElem? (i := 769) (by decide +kernel), List.mem_of_getElem? (i := 992) (by decide +kernel), List.mem_of_getElem? (i := 993) (by decide +kernel)⟩
theorem lw_p40 : lw_okq (⟨"RoofLentModel", "lightOf", "(I)I"⟩, 19) := ⟨⟨by decide +kernel, by decide +kernel⟩, List.mem_of_getElem? (i := 769) (by decide +kernel), List.mem_of_getElem? (i := 999) (by decide +kernel), List.mem_of_getElem? (i := 1000) (by decide +kernel)⟩
theorem lw_p41 : lw_okq (⟨"RoofLentModel", "lightBy", "(III)I"⟩, 19) := ⟨⟨by decide +kernel, by decide +kernel⟩, List.mem_of_getElem? (i := 769) (by decide +kernel), List.mem_of_getElem? (i := 1003) (by decide +kernel), List.mem_of_getElem? (i := 1004) (by decide +kernel)⟩
theorem lw_p42 : lw_okq (⟨"RoofLentModel", "hoursOf", "(II)I"⟩, 19) := ⟨⟨by decide +kernel, by decide +kernel⟩, List.mem_of_getElem? (i := 769) (by decide +kernel), List.mem_of_getElem? (i := 1007) (by decide +kernel), List.mem_of_getElem? (i := 1008) (by decide +kernel)⟩
theorem lw_p43 : lw_okq (⟨"RoofLentModel", "lampsOver", "(II)I"⟩, 19) := ⟨⟨by decide +kernel, by decide +kernel⟩, List.mem_of_getElem? (i := 769) (by decide +kernel), List.mem_of_getElem? (i := 1014) (by decide +kernel), List.mem_of_getElem? (i := 1015) (by decide +kernel)⟩
theorem lw_p44 : lw_okq (⟨"RoofLentModel", "owesAll", "(I)I"⟩, 19) := ⟨⟨by decide +kernel, by decide +kernel⟩, List.mem_of_getElem? (i := 769) (by decide +kernel), List.mem_of_getElem? (i := 1021) (by decide +kernel), List.mem_of_getElem? (i := 1022) (by decide +kernel)⟩
theorem lw_p45 : lw_okq (⟨"RoofLentModel", "owedAll", "(I)I"⟩, 19) := ⟨⟨by decide +kernel, by decide +kernel⟩, List.mem_of_getElem? (i := 769) (by decide +kernel), List.mem_of_getElem? (i := 1025) (by decide +kernel), List.mem_of_getElem? (i := 1026) (by decide +kernel)⟩
theorem lw_p46 : lw_okq (⟨"RoofLentModel", "couldShade", "(II)I"⟩, 19) := ⟨⟨by decide +kernel, by decide +kernel⟩, List.mem_of_getElem? (i := 769) (by decide +kernel), List.mem_of_getElem? (i := 1036) (by decide +kernel), List.mem_of_getElem? (i := 1037) (by decide +kernel)⟩
theorem lw_p47 : lw_okq (⟨"RoofLentModel", "lightened", "(II)I"⟩, 19) := ⟨⟨by decide +kernel, by decide +kernel⟩, List.mem_of_getElem? (i := 769) (by decide +kernel), List.mem_of_getElem? (i := 1043) (by decide +kernel), List.mem_of_getElem? (i := 1044) (by decide +kernel)⟩
def lw_privs_3 : List (MethodName × Nat) := [(⟨"RoofLentModel", "storeyOf", "(I)I"⟩, 19), (⟨"RoofLentModel", "numberOf", "(II)I"⟩, 19), (⟨"RoofLentModel", "kindAt", "(II)I"⟩, 19), (⟨"RoofLentModel", "shader", "(III)I"⟩, 19), (⟨"RoofLentModel", "houseTells", "(III)I"⟩, 19), (⟨"RoofLentModel", "bearsAt", "(II)I"⟩, 19), (⟨"RoofLentModel", "weighsOn", "(II)I"⟩, 19), (⟨"RoofLentModel", "weightIn", "(II)I"⟩, 19), (⟨"RoofLentModel", "lightOf", "(I)I"⟩, 19), (⟨"RoofLentModel", "lightBy", "(III)I"⟩, 19), (⟨"RoofLentModel", "hoursOf", "(II)I"⟩, 19), (⟨"RoofLentModel", "lampsOver", "(II)I"⟩, 19), (⟨"RoofLentModel", "owesAll", "(I)I"⟩, 19), (⟨"RoofLentModel", "owedAll", "(I)I"⟩, 19), (⟨"RoofLentModel", "couldShade", "(II)I"⟩, 19), (⟨"RoofLentModel", "lightened", "(II)I"⟩, 19)]
theorem lw_r3 : ∀ q ∈ lw_privs_3, lw_okq q := List.forall_mem_cons.mpr ⟨lw_p32, List.forall_mem_cons.mpr ⟨lw_p33, List.forall_mem_cons.mpr ⟨lw_p34, List.forall_mem_cons.mpr ⟨lw_p35, List.forall_mem_cons.mpr ⟨lw_p36, List.forall_mem_cons.mpr ⟨lw_p37, List.forall_mem_cons.mpr ⟨lw_p38, List.forall_mem_cons.mpr ⟨lw_p39, List.forall_mem_cons.mpr ⟨lw_p40, List.forall_mem_cons.mpr ⟨lw_p41, List.forall_mem_cons.mpr ⟨lw_p42, List.forall_mem_cons.mpr ⟨lw_p43, List.forall_mem_cons.mpr ⟨lw_p44, List.forall_mem_cons.mpr ⟨lw_p45, List.forall_mem_cons.mpr ⟨lw_p46, List.forall_mem_cons.mpr ⟨lw_p47, fun _ h => absurd h List.not_mem_nil⟩⟩⟩⟩⟩⟩⟩⟩⟩⟩⟩⟩⟩⟩⟩⟩
theorem lw_p48 : lw_okq (⟨"RoofLentModel", "hasRoom", "(I)Z"⟩, 19) := ⟨⟨by decide +kernel, by decide +kernel⟩, List.mem_of_getElem? (i := 769) (by decide +kernel), List.mem_of_getElem? (i := 1056) (by decide +kernel), List.mem_of_getElem? (i := 1057) (by decide +kernel)⟩
theorem lw_p49 : lw_okq (⟨"RoofLentModel", "minds", "()V"⟩, 19) := ⟨⟨by decide +kernel, by decide +kernel⟩, List.mem_of_getElem? (i := 769) (by decide +kernel), List.mem_of_getElem? (i := 1060) (by decide +kernel), List.mem_of_getElem? (i := 1061) (by decide +kernel)⟩
theorem lw_p50 : lw_okq (⟨"RoofLentModel", "goes", "(II)V"⟩, 19) := ⟨⟨by decide +kernel, by decide +kernel⟩, List.mem_of_getElem? (i := 769) (by decide +kernel), List.mem_of_getElem? (i := 1068) (by decide +kernel), List.mem_of_getElem? (i := 1069) (by decide +kernel)⟩
theorem lw_p51 : lw_okq (⟨"RoofLentModel", "isNone", "()Z"⟩, 19) := ⟨⟨by decide +kernel, by decide +kernel⟩, List.mem_of_getElem? (i := 769) (by decide +kernel), List.mem_of_getElem? (i := 1081) (by decide +kernel), List.mem_of_getElem? (i := 1082) (by decide +kernel)⟩
theorem lw_p52 : lw_okq (⟨"RoofLentModel", "isHouse", "(I)Z"⟩, 19) := ⟨⟨by decide +kernel, by decide +kernel⟩, List.mem_of_getElem? (i := 769) (by decide +kernel), List.mem_of_getElem? (i := 1102) (by decide +kernel), List.mem_of_getElem? (i := 1103) (by decide +kernel)⟩
theorem lw_p53 : lw_okq (⟨"RoofLentModel", "allLamps", "()I"⟩, 19) := ⟨⟨by decide +kernel, by decide +kernel⟩, List.mem_of_getElem? (i := 769) (by decide +kernel), List.mem_of_getElem? (i := 1114) (by decide +kernel), List.mem_of_getElem? (i := 1115) (by decide +kernel)⟩
theorem lw_p54 : lw_okq (⟨"RoofLentModel", "allLight", "()I"⟩, 19) := ⟨⟨by decide +kernel, by decide +kernel⟩, List.mem_of_getElem? (i := 769) (by decide +kernel), List.mem_of_getElem? (i := 1118) (by decide +kernel), List.mem_of_getElem? (i := 1119) (by decide +kernel)⟩
theorem lw_p55 : lw_okq (⟨"RoofLentModel", "swaying", "()I"⟩, 19) := ⟨⟨by decide +kernel, by decide +kernel⟩, List.mem_of_getElem? (i := 769) (by decide +kernel), List.mem_of_getElem? (i := 1130) (by decide +kernel), List.mem_of_getElem? (i := 1131) (by decide +kernel)⟩
theorem lw_p56 : lw_okq (⟨"RoofLentModel", "firstOf", "(I)I"⟩, 19) := ⟨⟨by decide +kernel, by decide +kernel⟩, List.mem_of_getElem? (i := 769) (by decide +kernel), List.mem_of_getElem? (i := 1134) (by decide +kernel), List.mem_of_getElem? (i := 1135) (by decide +kernel)⟩
theorem lw_p57 : lw_okq (⟨"RoofLentModel", "lays", "()V"⟩, 19) := ⟨⟨by decide +kernel, by decide +kernel⟩, List.mem_of_getElem? (i := 769) (by decide +kernel), List.mem_of_getElem? (i := 1149) (by decide +kernel), List.mem_of_getElem? (i := 1150) (by decide +kernel)⟩
theorem lw_p58 : lw_okq (⟨"RoofLentModel", "putsBack", "()V"⟩, 19) := ⟨⟨by decide +kernel, by decide +kernel⟩, List.mem_of_getElem? (i := 769) (by decide +kernel), List.mem_of_getElem? (i := 1153) (by decide +kernel), List.mem_of_getElem? (i := 1154) (by decide +kernel)⟩
theorem lw_p59 : lw_okq (⟨"RoofLentModel", "leaveAll", "(I)V"⟩, 19) := ⟨⟨by decide +kernel, by decide +kernel⟩, List.mem_of_getElem? (i := 769) (by decide +kernel), List.mem_of_getElem? (i := 1165) (by decide +kernel), List.mem_of_getElem? (i := 1166) (by decide +kernel)⟩
theorem lw_p60 : lw_okq (⟨"RoofLentModel", "isGame", "(II)Z"⟩, 19) := ⟨⟨by decide +kernel, by decide +kernel⟩, List.mem_of_getElem? (i := 769) (by decide +kernel), List.mem_of_getElem? (i := 1190) (by decide +kernel), List.mem_of_getElem? (i := 1191) (by decide +kernel)⟩
theorem lw_p61 : lw_okq (⟨"RoofLentModel", "winsBy", "(II)Z"⟩, 19) := ⟨⟨by decide +kernel, by decide +kernel⟩, List.mem_of_getElem? (i := 769) (by decide +kernel), List.mem_of_getElem? (i := 1194) (by decide +kernel), List.mem_of_getElem? (i := 1195) (by decide +kernel)⟩
theorem lw_p62 : lw_okq (⟨"RoofLentModel", "isBuilt", "(II)Z"⟩, 19) := ⟨⟨by decide +kernel, by decide +kernel⟩, List.mem_of_getElem? (i := 769) (by decide +kernel), List.mem_of_getElem? (i := 1198) (by decide +kernel), List.mem_of_getElem? (i := 1199) (by decide +kernel)⟩
theorem lw_p63 : lw_okq (⟨"RoofLentModel", "isSeen", "(II)Z"⟩, 19) := ⟨⟨by decide +kernel, by decide +kernel⟩, List.mem_of_getElem? (i := 769) (by decide +kernel), List.mem_of_getElem? (i := 1210) (by decide +kernel), List.mem_of_getElem? (i := 1211) (by decide +kernel)⟩
def lw_privs_4 : List (MethodName × Nat) := [(⟨"RoofLentModel", "hasRoom", "(I)Z"⟩, 19), (⟨"RoofLentModel", "minds", "()V"⟩, 19), (⟨"RoofLentModel", "goes", "(II)V"⟩, 19), (⟨"RoofLentModel", "isNone", "()Z"⟩, 19), (⟨"RoofLentModel", "isHouse", "(I)Z"⟩, 19), (⟨"RoofLentModel", "allLamps", "()I"⟩, 19), (⟨"RoofLentModel", "allLight", "()I"⟩, 19), (⟨"RoofLentModel", "swaying", "()I"⟩, 19), (⟨"RoofLentModel", "firstOf", "(I)I"⟩, 19), (⟨"RoofLentModel", "lays", "()V"⟩, 19), (⟨"RoofLentModel", "putsBack", "()V"⟩, 19), (⟨"RoofLentModel", "leaveAll", "(I)V"⟩, 19), (⟨"RoofLentModel", "isGame", "(II)Z"⟩, 19), (⟨"RoofLentModel", "winsBy", "(II)Z"⟩, 19), (⟨"RoofLentModel", "isBuilt", "(II)Z"⟩, 19), (⟨"RoofLentModel", "isSeen", "(II)Z"⟩, 19)]
theorem lw_r4 : ∀ q ∈ lw_privs_4, lw_okq q := List.forall_mem_cons.mpr ⟨lw_p48, List.forall_mem_cons.mpr ⟨lw_p49, List.forall_mem_cons.mpr ⟨lw_p50, List.forall_mem_cons.mpr ⟨lw_p51, List.forall_mem_cons.mpr ⟨lw_p52, List.forall_mem_cons.mpr ⟨lw_p53, List.forall_mem_cons.mpr ⟨lw_p54, List.forall_mem_cons.mpr ⟨lw_p55, List.forall_mem_cons.mpr ⟨lw_p56, List.forall_mem_cons.mpr ⟨lw_p57, List.forall_mem_cons.mpr ⟨lw_p58, List.forall_mem_cons.mpr ⟨lw_p59, List.forall_mem_cons.mpr ⟨lw_p60, List.forall_mem_cons.mpr ⟨lw_p61, List.forall_mem_cons.mpr ⟨lw_p62, List.forall_mem_cons.mpr ⟨lw_p63, fun _ h => absurd h List.not_mem_nil⟩⟩⟩⟩⟩⟩⟩⟩⟩⟩⟩⟩⟩⟩⟩⟩
theorem lw_p64 : lw_okq (⟨"RoofLentModel", "highest", "()I"⟩, 19) := ⟨⟨by decide +kernel, by decide +kernel⟩, List.mem_of_getElem? (i := 769) (by decide +kernel), List.mem_of_getElem? (i := 1249) (by decide +kernel), List.mem_of_getElem? (i := 1250) (by decide +kernel)⟩
theorem lw_p65 : lw_okq (⟨"RoofLentModel", "kindsMany", "(Z)I"⟩, 19) := ⟨⟨by decide +kernel, by decide +kernel⟩, List.mem_of_getElem? (i := 769) (by decide +kernel), List.mem_of_getElem? (i := 1253) (by decide +kernel), List.mem_of_getElem? (i := 1254) (by decide +kernel)⟩
theorem lw_p66 : lw_okq (⟨"RoofLentModel", "mix", "(J)V"⟩, 19) := ⟨⟨by decide +kernel, by decide +kernel⟩, List.mem_of_getElem? (i := 769) (by decide +kernel), List.mem_of_getElem? (i := 1274) (by decide +kernel), List.mem_of_getElem? (i := 1275) (by decide +kernel)⟩
def lw_privs_5 : List (MethodName × Nat) := [(⟨"RoofLentModel", "highest", "()I"⟩, 19), (⟨"RoofLentModel", "kindsMany", "(Z)I"⟩, 19), (⟨"RoofLentModel", "mix", "(J)V"⟩, 19)]
theorem lw_r5 : ∀ q ∈ lw_privs_5, lw_okq q := List.forall_mem_cons.mpr ⟨lw_p64, List.forall_mem_cons.mpr ⟨lw_p65, List.forall_mem_cons.mpr ⟨lw_p66, fun _ h => absurd h List.not_mem_nil⟩⟩⟩
def lw_privs : List (MethodName × Nat) := lw_privs_1 ++ (lw_privs_2 ++ (lw_privs_3 ++ (lw_privs_4 ++ (lw_privs_5))))
def lw_tbl : List Cond := k2_sels lw_privs ++ tables_1
theorem lw_privs_ok : ∀ q ∈ lw_privs, lw_okq q := by
  show ∀ q ∈ lw_privs_1 ++ (lw_privs_2 ++ (lw_privs_3 ++ (lw_privs_4 ++ (lw_privs_5)))), lw_okq q
  exact List.forall_mem_append.mpr ⟨lw_r1, List.forall_mem_append.mpr ⟨lw_r2, List.forall_mem_append.mpr ⟨lw_r3, List.forall_mem_append.mpr ⟨lw_r4, lw_r5⟩⟩⟩⟩
end
section

/-! ===== BEGIN printed: names, fields, word lists, decode rows ===== -/
def RX0 : String := "RoofLent$Ledger"
def TX0 : u_T := fun k => match k with
  | 0 => ("RoofLent$Ledger", "houses", "I", false)
  | 1 => ("RoofLent$Ledger", "allLamps", "I", false)
  | 2 => ("RoofLent$Ledger", "seen", "[I", true)
  | 3 => ("RoofLent$Ledger", "lamped", "[I", true)
  | 4 => ("RoofLent$Ledger", "owing", "[I", true)
  | 5 => ("RoofLent$Ledger", "owed", "[I", true)
  | 6 => ("RoofLent$Ledger", "lamps", "[I", true)
  | _ => ("RoofLent$Ledger", "owedInTheEnd", "[I", true)
def tyX0 : Nat → FieldType := fun k => match k with
  | 0 => .int
  | 1 => .int
  | 2 => .array .int
  | 3 => .array .int
  | 4 => .array .int
  | 5 => .array .int
  | 6 => .array .int
  | _ => .array .int
abbrev wsX00 : List Cond := u_ws RX0 TX0 8
theorem nmX0 : ∀ a, a < 8 → ∀ b, b < 8 → a ≠ b → (TX0 a).2.1 ≠ (TX0 b).2.1 := by decide +kernel
theorem tyX0_ok : ∀ k, k < 8 → parseFieldDescriptor (TX0 k).2.2.1 = some (tyX0 k) := by decide +kernel
abbrev cX0_init : ByteArray := prog_2_method_1_code
def yX0_init : MethodName := ⟨RX0, "<init>", "()V"⟩
abbrev cX0_reckon : ByteArray := prog_2_method_2_code
def yX0_reckon : MethodName := ⟨RX0, "reckon", "(LRoofLent$Rock;)V"⟩
abbrev cX0_reckonHouse : ByteArray := prog_2_method_3_code
def yX0_reckonHouse : MethodName := ⟨RX0, "reckonHouse", "(LRoofLent$Rock;III)V"⟩
abbrev cX0_lampsAnHour : ByteArray := prog_2_method_4_code
def yX0_lampsAnHour : MethodName := ⟨RX0, "lampsAnHour", "(I)I"⟩
abbrev cX0_charge : ByteArray := prog_2_method_5_code
def yX0_charge : MethodName := ⟨RX0, "charge", "(III)V"⟩
abbrev cX0_isNumber : ByteArray := prog_2_method_6_code
def yX0_isNumber : MethodName := ⟨RX0, "isNumber", "(I)Z"⟩
abbrev cX0_lampsFromTo : ByteArray := prog_2_method_7_code
def yX0_lampsFromTo : MethodName := ⟨RX0, "lampsFromTo", "(II)I"⟩
abbrev cX0_owingOf : ByteArray := prog_2_method_8_code
def yX0_owingOf : MethodName := ⟨RX0, "owingOf", "(I)I"⟩
abbrev cX0_owedOf : ByteArray := prog_2_method_9_code
def yX0_owedOf : MethodName := ⟨RX0, "owedOf", "(I)I"⟩
abbrev cX0_debtOf : ByteArray := prog_2_method_10_code
def yX0_debtOf : MethodName := ⟨RX0, "debtOf", "(I)I"⟩
abbrev cX0_lightOf : ByteArray := prog_2_method_11_code
def yX0_lightOf : MethodName := ⟨RX0, "lightOf", "(I)I"⟩
abbrev cX0_lightIn : ByteArray := prog_2_method_12_code
def yX0_lightIn : MethodName := ⟨RX0, "lightIn", "(II)I"⟩
abbrev cX0_allLight : ByteArray := prog_2_method_13_code
def yX0_allLight : MethodName := ⟨RX0, "allLight", "()I"⟩
abbrev cX0_mutualPairs : ByteArray := prog_2_method_14_code
def yX0_mutualPairs : MethodName := ⟨RX0, "mutualPairs", "()I"⟩
abbrev cX0_ringed : ByteArray := prog_2_method_15_code
def yX0_ringed : MethodName := ⟨RX0, "ringed", "()I"⟩
abbrev cX0_owedBy : ByteArray := prog_2_method_16_code
def yX0_owedBy : MethodName := ⟨RX0, "owedBy", "(I)I"⟩
def RX1 : String := "RoofLent$Rock"
def TX1 : u_T := fun k => match k with
  | 0 => ("RoofLent$Rock", "towers", "I", false)
  | 1 => ("RoofLent$Rock", "houses", "I", false)
  | 2 => ("RoofLent$Rock", "heights", "[I", true)
  | _ => ("RoofLent$Rock", "cells", "[I", true)
def tyX1 : Nat → FieldType := fun k => match k with
  | 0 => .int
  | 1 => .int
  | 2 => .array .int
  | _ => .array .int
abbrev wsX10 : List Cond := u_ws RX1 TX1 4
theorem nmX1 : ∀ a, a < 4 → ∀ b, b < 4 → a ≠ b → (TX1 a).2.1 ≠ (TX1 b).2.1 := by decide +kernel
theorem tyX1_ok : ∀ k, k < 4 → parseFieldDescriptor (TX1 k).2.2.1 = some (tyX1 k) := by decide +kernel
abbrev cX1_init : ByteArray := prog_3_method_1_code
def yX1_init : MethodName := ⟨RX1, "<init>", "()V"⟩
abbrev cX1_clear : ByteArray := prog_3_method_2_code
def yX1_clear : MethodName := ⟨RX1, "clear", "()V"⟩
abbrev cX1_addTower : ByteArray := prog_3_method_3_code
def yX1_addTower : MethodName := ⟨RX1, "addTower", "()Z"⟩
abbrev cX1_towerCount : ByteArray := prog_3_method_4_code
def yX1_towerCount : MethodName := ⟨RX1, "towerCount", "()I"⟩
abbrev cX1_houseCount : ByteArray := prog_3_method_5_code
def yX1_houseCount : MethodName := ⟨RX1, "houseCount", "()I"⟩
abbrev cX1_isTower : ByteArray := prog_3_method_6_code
def yX1_isTower : MethodName := ⟨RX1, "isTower", "(I)Z"⟩
abbrev cX1_isNumber : ByteArray := prog_3_method_7_code
def yX1_isNumber : MethodName := ⟨RX1, "isNumber", "(I)Z"⟩
abbrev cX1_heightOf : ByteArray := prog_3_method_8_code
def yX1_heightOf : MethodName := ⟨RX1, "heightOf", "(I)I"⟩
abbrev cX1_has : ByteArray := prog_3_method_9_code
def yX1_has : MethodName := ⟨RX1, "has", "(II)Z"⟩
abbrev cX1_hasRoom : ByteArray := prog_3_method_10_code
def yX1_hasRoom : MethodName := ⟨RX1, "hasRoom", "(I)Z"⟩
abbrev cX1_kindAt : ByteArray := prog_3_method_11_code
def yX1_kindAt : MethodName := ⟨RX1, "kindAt", "(II)I"⟩
abbrev cX1_borneAt : ByteArray := prog_3_method_12_code
def yX1_borneAt : MethodName := ⟨RX1, "borneAt", "(II)I"⟩
abbrev cX1_change : ByteArray := prog_3_method_13_code
def yX1_change : MethodName := ⟨RX1, "change", "(IIII)V"⟩
abbrev cX1_push : ByteArray := prog_3_method_14_code
def yX1_push : MethodName := ⟨RX1, "push", "(III)Z"⟩
abbrev cX1_pop : ByteArray := prog_3_method_15_code
def yX1_pop : MethodName := ⟨RX1, "pop", "(I)V"⟩
abbrev cX1_remove : ByteArray := prog_3_method_16_code
def yX1_remove : MethodName := ⟨RX1, "remove", "(II)V"⟩
abbrev cX1_takeFrom : ByteArray := prog_3_method_17_code
def yX1_takeFrom : MethodName := ⟨RX1, "takeFrom", "(LRoofLent$Rock;)V"⟩
abbrev cX1_takeWithout : ByteArray := prog_3_method_18_code
def yX1_takeWithout : MethodName := ⟨RX1, "takeWithout", "(LRoofLent$Rock;I)V"⟩
abbrev cX1_saveTo : ByteArray := prog_3_method_19_code
def yX1_saveTo : MethodName := ⟨RX1, "saveTo", "([II)V"⟩
abbrev cX1_loadFrom : ByteArray := prog_3_method_20_code
def yX1_loadFrom : MethodName := ⟨RX1, "loadFrom", "([II)V"⟩
abbrev cX1_housesIn : ByteArray := prog_3_method_21_code
def yX1_housesIn : MethodName := ⟨RX1, "housesIn", "(I)I"⟩
abbrev cX1_numberOf : ByteArray := prog_3_method_22_code
def yX1_numberOf : MethodName := ⟨RX1, "numberOf", "(II)I"⟩
abbrev cX1_mostStoreys : ByteArray := prog_3_method_23_code
def yX1_mostStoreys : MethodName := ⟨RX1, "mostStoreys", "()I"⟩
abbrev cX1_countOf : ByteArray := prog_3_method_24_code
def yX1_countOf : MethodName := ⟨RX1, "countOf", "(I)I"⟩
abbrev cX1_weightOn : ByteArray := prog_3_method_25_code
def yX1_weightOn : MethodName := ⟨RX1, "weightOn", "(II)I"⟩
abbrev cX1_weightInOwnTower : ByteArray := prog_3_method_26_code
def yX1_weightInOwnTower : MethodName := ⟨RX1, "weightInOwnTower", "(II)I"⟩
abbrev cX1_isSwaying : ByteArray := prog_3_method_27_code
def yX1_isSwaying : MethodName := ⟨RX1, "isSwaying", "(II)Z"⟩
abbrev cX1_isSteady : ByteArray := prog_3_method_28_code
def yX1_isSteady : MethodName := ⟨RX1, "isSteady", "()Z"⟩
abbrev cX1_shaderOf : ByteArray := prog_3_method_29_code
def yX1_shaderOf : MethodName := ⟨RX1, "shaderOf", "(III)I"⟩
abbrev cX1_hoursSeen : ByteArray := prog_3_method_30_code
def yX1_hoursSeen : MethodName := ⟨RX1, "hoursSeen", "(II)I"⟩
abbrev cX1_lampedAbove : ByteArray := prog_3_method_31_code
def yX1_lampedAbove : MethodName := ⟨RX1, "lampedAbove", "(II)I"⟩
def RX2 : String := "RoofLent$Settling"
def TX2 : u_T := fun k => match k with
  | 0 => ("RoofLent$Settling", "count", "I", false)
  | 1 => ("RoofLent$Settling", "debts", "[I", true)
  | _ => ("RoofLent$Settling", "groups", "[I", true)
def tyX2 : Nat → FieldType := fun k => match k with
  | 0 => .int
  | 1 => .array .int
  | _ => .array .int
abbrev wsX20 : List Cond := u_ws RX2 TX2 3
theorem nmX2 : ∀ a, a < 3 → ∀ b, b < 3 → a ≠ b → (TX2 a).2.1 ≠ (TX2 b).2.1 := by decide +kernel
theorem tyX2_ok : ∀ k, k < 3 → parseFieldDescriptor (TX2 k).2.2.1 = some (tyX2 k) := by decide +kernel
abbrev cX2_init : ByteArray := prog_4_method_1_code
def yX2_init : MethodName := ⟨RX2, "<init>", "()V"⟩
abbrev cX2_clear : ByteArray := prog_4_method_2_code
def yX2_clear : MethodName := ⟨RX2, "clear", "()V"⟩
abbrev cX2_add : ByteArray := prog_4_method_3_code
def yX2_add : MethodName := ⟨RX2, "add", "(I)V"⟩
abbrev cX2_fewestPayments : ByteArray := prog_4_method_4_code
def yX2_fewestPayments : MethodName := ⟨RX2, "fewestPayments", "()I"⟩
abbrev cX2_mostGroups : ByteArray := prog_4_method_5_code
def yX2_mostGroups : MethodName := ⟨RX2, "mostGroups", "(I)I"⟩
def RX3 : String := "RoofLent$Shelf"
def TX3 : u_T := fun k => match k with
  | 0 => ("RoofLent$Shelf", "most", "I", true)
  | 1 => ("RoofLent$Shelf", "blank", "I", true)
  | 2 => ("RoofLent$Shelf", "sizes", "[I", true)
  | _ => ("RoofLent$Shelf", "places", "[I", true)
def tyX3 : Nat → FieldType := fun k => match k with
  | 0 => .int
  | 1 => .int
  | 2 => .array .int
  | _ => .array .int
abbrev wsX30 : List Cond := u_ws RX3 TX3 4
theorem nmX3 : ∀ a, a < 4 → ∀ b, b < 4 → a ≠ b → (TX3 a).2.1 ≠ (TX3 b).2.1 := by decide +kernel
theorem tyX3_ok : ∀ k, k < 4 → parseFieldDescriptor (TX3 k).2.2.1 = some (tyX3 k) := by decide +kernel
abbrev cX3_init : ByteArray := prog_5_method_1_code
def yX3_init : MethodName := ⟨RX3, "<init>", "(III)V"⟩
abbrev cX3_knows : ByteArray := prog_5_method_2_code
def yX3_knows : MethodName := ⟨RX3, "knows", "(I)Z"⟩
abbrev cX3_sizeOf : ByteArray := prog_5_method_3_code
def yX3_sizeOf : MethodName := ⟨RX3, "sizeOf", "(I)I"⟩
abbrev cX3_isThere : ByteArray := prog_5_method_4_code
def yX3_isThere : MethodName := ⟨RX3, "isThere", "(I)Z"⟩
abbrev cX3_has : ByteArray := prog_5_method_5_code
def yX3_has : MethodName := ⟨RX3, "has", "(II)Z"⟩
abbrev cX3_hasSpan : ByteArray := prog_5_method_6_code
def yX3_hasSpan : MethodName := ⟨RX3, "hasSpan", "(III)Z"⟩
abbrev cX3_get : ByteArray := prog_5_method_7_code
def yX3_get : MethodName := ⟨RX3, "get", "(II)I"⟩
abbrev cX3_set : ByteArray := prog_5_method_8_code
def yX3_set : MethodName := ⟨RX3, "set", "(III)V"⟩
abbrev cX3_make : ByteArray := prog_5_method_9_code
def yX3_make : MethodName := ⟨RX3, "make", "(II)V"⟩
abbrev cX3_drop : ByteArray := prog_5_method_10_code
def yX3_drop : MethodName := ⟨RX3, "drop", "(I)V"⟩
abbrev cX3_move : ByteArray := prog_5_method_11_code
def yX3_move : MethodName := ⟨RX3, "move", "(IIIII)V"⟩
abbrev cX3_sumOf : ByteArray := prog_5_method_12_code
def yX3_sumOf : MethodName := ⟨RX3, "sumOf", "(I)J"⟩
abbrev cX3_thereCount : ByteArray := prog_5_method_13_code
def yX3_thereCount : MethodName := ⟨RX3, "thereCount", "()I"⟩
abbrev cX3_digestAll : ByteArray := prog_5_method_14_code
def yX3_digestAll : MethodName := ⟨RX3, "digestAll", "(J)J"⟩
def RX4 : String := "RoofLent$Story"
def TX4 : u_T := fun k => match k with
  | 0 => ("RoofLent$Story", "rock", "LRoofLent$Rock;", true)
  | 1 => ("RoofLent$Story", "ahead", "[I", true)
  | _ => ("RoofLent$Story", "deeds", "I", false)
def tyX4 : Nat → FieldType := fun k => match k with
  | 0 => .object "RoofLent$Rock"
  | 1 => .array .int
  | _ => .int
abbrev wsX40 : List Cond := u_ws RX4 TX4 3
theorem nmX4 : ∀ a, a < 3 → ∀ b, b < 3 → a ≠ b → (TX4 a).2.1 ≠ (TX4 b).2.1 := by decide +kernel
theorem tyX4_ok : ∀ k, k < 3 → parseFieldDescriptor (TX4 k).2.2.1 = some (tyX4 k) := by decide +kernel
abbrev cX4_init : ByteArray := prog_6_method_1_code
def yX4_init : MethodName := ⟨RX4, "<init>", "(I)V"⟩
abbrev cX4_isThere : ByteArray := prog_6_method_2_code
def yX4_isThere : MethodName := ⟨RX4, "isThere", "()Z"⟩
abbrev cX4_forget : ByteArray := prog_6_method_3_code
def yX4_forget : MethodName := ⟨RX4, "forget", "()V"⟩
abbrev cX4_startWith : ByteArray := prog_6_method_4_code
def yX4_startWith : MethodName := ⟨RX4, "startWith", "(LRoofLent$Rock;)V"⟩
abbrev cX4_hasRoomFor : ByteArray := prog_6_method_5_code
def yX4_hasRoomFor : MethodName := ⟨RX4, "hasRoomFor", "(I)Z"⟩
abbrev cX4_noteDeed : ByteArray := prog_6_method_6_code
def yX4_noteDeed : MethodName := ⟨RX4, "noteDeed", "()V"⟩
abbrev cX4_goBackTo : ByteArray := prog_6_method_7_code
def yX4_goBackTo : MethodName := ⟨RX4, "goBackTo", "(I)V"⟩
abbrev cX4_takeFrom : ByteArray := prog_6_method_8_code
def yX4_takeFrom : MethodName := ⟨RX4, "takeFrom", "(LRoofLent$Story;)V"⟩
def RX5 : String := "RoofLent"
def TX5 : u_T := fun k => match k with
  | 0 => ("RoofLent", "rows", "LRoofLent$Shelf;", true)
  | 1 => ("RoofLent", "texts", "LRoofLent$Shelf;", true)
  | 2 => ("RoofLent", "now", "LRoofLent$Story;", true)
  | 3 => ("RoofLent", "kept", "[LRoofLent$Story;", true)
  | 4 => ("RoofLent", "aside", "LRoofLent$Rock;", true)
  | 5 => ("RoofLent", "ledger", "LRoofLent$Ledger;", true)
  | 6 => ("RoofLent", "settling", "LRoofLent$Settling;", true)
  | 7 => ("RoofLent", "findingCounts", "[I", true)
  | 8 => ("RoofLent", "latestFinding", "I", false)
  | 9 => ("RoofLent", "latestAsked", "I", false)
  | 10 => ("RoofLent", "latestUpper", "J", false)
  | _ => ("RoofLent", "latestLower", "J", false)
def tyX5 : Nat → FieldType := fun k => match k with
  | 0 => .object "RoofLent$Shelf"
  | 1 => .object "RoofLent$Shelf"
  | 2 => .object "RoofLent$Story"
  | 3 => .array (.object "RoofLent$Story")
  | 4 => .object "RoofLent$Rock"
  | 5 => .object "RoofLent$Ledger"
  | 6 => .object "RoofLent$Settling"
  | 7 => .array .int
  | 8 => .int
  | 9 => .int
  | 10 => .long
  | _ => .long
abbrev wsX50 : List Cond := u_ws RX5 TX5 12
theorem nmX5 : ∀ a, a < 12 → ∀ b, b < 12 → a ≠ b → (TX5 a).2.1 ≠ (TX5 b).2.1 := by decide +kernel
theorem tyX5_ok : ∀ k, k < 12 → parseFieldDescriptor (TX5 k).2.2.1 = some (tyX5 k) := by decide +kernel
abbrev cX5_init : ByteArray := prog_1_method_1_code
def yX5_init : MethodName := ⟨RX5, "<init>", "()V"⟩
abbrev cX5_row : ByteArray := prog_1_method_2_code
def yX5_row : MethodName := ⟨RX5, "row", "(II)I"⟩
abbrev cX5_lay : ByteArray := prog_1_method_3_code
def yX5_lay : MethodName := ⟨RX5, "lay", "(III)I"⟩
abbrev cX5_at : ByteArray := prog_1_method_4_code
def yX5_at : MethodName := ⟨RX5, "at", "(II)I"⟩
abbrev cX5_tear : ByteArray := prog_1_method_5_code
def yX5_tear : MethodName := ⟨RX5, "tear", "(I)I"⟩
abbrev cX5_copy : ByteArray := prog_1_method_6_code
def yX5_copy : MethodName := ⟨RX5, "copy", "(IIIII)I"⟩
abbrev cX5_mean : ByteArray := prog_1_method_7_code
def yX5_mean : MethodName := ⟨RX5, "mean", "(I)I"⟩
abbrev cX5_text : ByteArray := prog_1_method_8_code
def yX5_text : MethodName := ⟨RX5, "text", "(II)I"⟩
abbrev cX5_put : ByteArray := prog_1_method_9_code
def yX5_put : MethodName := ⟨RX5, "put", "(III)I"⟩
abbrev cX5_fault : ByteArray := prog_1_method_10_code
def yX5_fault : MethodName := ⟨RX5, "fault", "(I)I"⟩
abbrev cX5_rock : ByteArray := prog_1_method_11_code
def yX5_rock : MethodName := ⟨RX5, "rock", "(I)I"⟩
abbrev cX5_tower : ByteArray := prog_1_method_12_code
def yX5_tower : MethodName := ⟨RX5, "tower", "(I)I"⟩
abbrev cX5_house : ByteArray := prog_1_method_13_code
def yX5_house : MethodName := ⟨RX5, "house", "(III)I"⟩
abbrev cX5_mark : ByteArray := prog_1_method_14_code
def yX5_mark : MethodName := ⟨RX5, "mark", "(III)I"⟩
abbrev cX5_bear : ByteArray := prog_1_method_15_code
def yX5_bear : MethodName := ⟨RX5, "bear", "(III)I"⟩
abbrev cX5_build : ByteArray := prog_1_method_16_code
def yX5_build : MethodName := ⟨RX5, "build", "(III)I"⟩
abbrev cX5_leave : ByteArray := prog_1_method_17_code
def yX5_leave : MethodName := ⟨RX5, "leave", "(II)I"⟩
abbrev cX5_undo : ByteArray := prog_1_method_18_code
def yX5_undo : MethodName := ⟨RX5, "undo", "(I)I"⟩
abbrev cX5_keep : ByteArray := prog_1_method_19_code
def yX5_keep : MethodName := ⟨RX5, "keep", "(I)I"⟩
abbrev cX5_on : ByteArray := prog_1_method_20_code
def yX5_on : MethodName := ⟨RX5, "on", "(I)I"⟩
abbrev cX5_shades : ByteArray := prog_1_method_21_code
def yX5_shades : MethodName := ⟨RX5, "shades", "(III)I"⟩
abbrev cX5_sees : ByteArray := prog_1_method_22_code
def yX5_sees : MethodName := ⟨RX5, "sees", "(II)I"⟩
abbrev cX5_owes : ByteArray := prog_1_method_23_code
def yX5_owes : MethodName := ⟨RX5, "owes", "(II)I"⟩
abbrev cX5_debt : ByteArray := prog_1_method_24_code
def yX5_debt : MethodName := ⟨RX5, "debt", "(I)I"⟩
abbrev cX5_light : ByteArray := prog_1_method_25_code
def yX5_light : MethodName := ⟨RX5, "light", "()I"⟩
abbrev cX5_ruined : ByteArray := prog_1_method_26_code
def yX5_ruined : MethodName := ⟨RX5, "ruined", "()I"⟩
abbrev cX5_sways : ByteArray := prog_1_method_27_code
def yX5_sways : MethodName := ⟨RX5, "sways", "()I"⟩
abbrev cX5_best : ByteArray := prog_1_method_28_code
def yX5_best : MethodName := ⟨RX5, "best", "(II)I"⟩
abbrev cX5_both : ByteArray := prog_1_method_29_code
def yX5_both : MethodName := ⟨RX5, "both", "(III)I"⟩
abbrev cX5_fewest : ByteArray := prog_1_method_30_code
def yX5_fewest : MethodName := ⟨RX5, "fewest", "()I"⟩
abbrev cX5_relief : ByteArray := prog_1_method_31_code
def yX5_relief : MethodName := ⟨RX5, "relief", "()I"⟩
abbrev cX5_high : ByteArray := prog_1_method_32_code
def yX5_high : MethodName := ⟨RX5, "high", "(II)I"⟩
abbrev cX5_settle : ByteArray := prog_1_method_33_code
def yX5_settle : MethodName := ⟨RX5, "settle", "()I"⟩
abbrev cX5_rings : ByteArray := prog_1_method_34_code
def yX5_rings : MethodName := ⟨RX5, "rings", "()I"⟩
abbrev cX5_game : ByteArray := prog_1_method_35_code
def yX5_game : MethodName := ⟨RX5, "game", "(II)I"⟩
abbrev cX5_begin : ByteArray := prog_1_method_36_code
def yX5_begin : MethodName := ⟨RX5, "begin", "(II)I"⟩
abbrev cX5_fog : ByteArray := prog_1_method_37_code
def yX5_fog : MethodName := ⟨RX5, "fog", "(I)I"⟩
abbrev cX5_kinds : ByteArray := prog_1_method_38_code
def yX5_kinds : MethodName := ⟨RX5, "kinds", "(III)I"⟩
abbrev cX5_odds : ByteArray := prog_1_method_39_code
def yX5_odds : MethodName := ⟨RX5, "odds", "(II)I"⟩
abbrev cX5_lots : ByteArray := prog_1_method_40_code
def yX5_lots : MethodName := ⟨RX5, "lots", "(II)I"⟩
abbrev cX5_asked : ByteArray := prog_1_method_41_code
def yX5_asked : MethodName := ⟨RX5, "asked", "()I"⟩
abbrev cX5_upper : ByteArray := prog_1_method_42_code
def yX5_upper : MethodName := ⟨RX5, "upper", "()J"⟩
abbrev cX5_lower : ByteArray := prog_1_method_43_code
def yX5_lower : MethodName := ⟨RX5, "lower", "()J"⟩
abbrev cX5_count : ByteArray := prog_1_method_44_code
def yX5_count : MethodName := ⟨RX5, "count", "(I)I"⟩
abbrev cX5_finding : ByteArray := prog_1_method_45_code
def yX5_finding : MethodName := ⟨RX5, "finding", "()I"⟩
abbrev cX5_findings : ByteArray := prog_1_method_46_code
def yX5_findings : MethodName := ⟨RX5, "findings", "(I)I"⟩
abbrev cX5_digest : ByteArray := prog_1_method_47_code
def yX5_digest : MethodName := ⟨RX5, "digest", "()J"⟩
abbrev cX5_found : ByteArray := prog_1_method_48_code
def yX5_found : MethodName := ⟨RX5, "found", "(I)I"⟩
abbrev cX5_isNoPlace : ByteArray := prog_1_method_49_code
def yX5_isNoPlace : MethodName := ⟨RX5, "isNoPlace", "(II)Z"⟩
abbrev cX5_isKind : ByteArray := prog_1_method_50_code
def yX5_isKind : MethodName := ⟨RX5, "isKind", "(I)Z"⟩
abbrev cX5_isBorne : ByteArray := prog_1_method_51_code
def yX5_isBorne : MethodName := ⟨RX5, "isBorne", "(I)Z"⟩
abbrev cX5_isOf : ByteArray := prog_1_method_52_code
def yX5_isOf : MethodName := ⟨RX5, "isOf", "(II)Z"⟩
abbrev cX5_kindOfLetter : ByteArray := prog_1_method_53_code
def yX5_kindOfLetter : MethodName := ⟨RX5, "kindOfLetter", "(I)I"⟩
abbrev cX5_readAside : ByteArray := prog_1_method_54_code
def yX5_readAside : MethodName := ⟨RX5, "readAside", "(I)I"⟩
abbrev cX5_toldOf : ByteArray := prog_1_method_55_code
def yX5_toldOf : MethodName := ⟨RX5, "toldOf", "(III)I"⟩
abbrev cX5_markOf : ByteArray := prog_1_method_56_code
def yX5_markOf : MethodName := ⟨RX5, "markOf", "(III)I"⟩
abbrev cX5_hoursTakenIfHouse : ByteArray := prog_1_method_57_code
def yX5_hoursTakenIfHouse : MethodName := ⟨RX5, "hoursTakenIfHouse", "(II)I"⟩
abbrev cX5_hoursSeenInAll : ByteArray := prog_1_method_58_code
def yX5_hoursSeenInAll : MethodName := ⟨RX5, "hoursSeenInAll", "(LRoofLent$Rock;)I"⟩
abbrev cX5_lightenedBelow : ByteArray := prog_1_method_59_code
def yX5_lightenedBelow : MethodName := ⟨RX5, "lightenedBelow", "(II)I"⟩
abbrev cX5_keptAt : ByteArray := prog_1_method_60_code
def yX5_keptAt : MethodName := ⟨RX5, "keptAt", "(I)LRoofLent$Story;"⟩
abbrev cX5_keptCount : ByteArray := prog_1_method_61_code
def yX5_keptCount : MethodName := ⟨RX5, "keptCount", "()I"⟩
abbrev cX5_lampsWhereSteady : ByteArray := prog_1_method_62_code
def yX5_lampsWhereSteady : MethodName := ⟨RX5, "lampsWhereSteady", "(LRoofLent$Rock;)I"⟩
abbrev cX5_winningTower : ByteArray := prog_1_method_63_code
def yX5_winningTower : MethodName := ⟨RX5, "winningTower", "(LRoofLent$Rock;II)I"⟩
abbrev cX5_isLightAsIn : ByteArray := prog_1_method_64_code
def yX5_isLightAsIn : MethodName := ⟨RX5, "isLightAsIn", "(II)Z"⟩
abbrev cX5_digestHouses : ByteArray := prog_1_method_65_code
def yX5_digestHouses : MethodName := ⟨RX5, "digestHouses", "(J)J"⟩
def RX6 : String := "RoofLentModel"
def TX6 : u_T := fun k => match k with
  | 0 => ("RoofLentModel", "w", "[I", true)
  | 1 => ("RoofLentModel", "deeds", "I", false)
  | 2 => ("RoofLentModel", "keptDeeds", "[I", true)
  | 3 => ("RoofLentModel", "rows", "[I", true)
  | 4 => ("RoofLentModel", "rowSize", "[I", true)
  | 5 => ("RoofLentModel", "texts", "[I", true)
  | 6 => ("RoofLentModel", "textSize", "[I", true)
  | 7 => ("RoofLentModel", "held", "[I", true)
  | 8 => ("RoofLentModel", "finding", "I", false)
  | 9 => ("RoofLentModel", "findings", "[I", true)
  | 10 => ("RoofLentModel", "asked", "I", false)
  | 11 => ("RoofLentModel", "upper", "J", false)
  | 12 => ("RoofLentModel", "lower", "J", false)
  | 13 => ("RoofLentModel", "lamps", "[I", true)
  | 14 => ("RoofLentModel", "sums", "[I", true)
  | 15 => ("RoofLentModel", "parts", "[I", true)
  | 16 => ("RoofLentModel", "turn", "[I", true)
  | 17 => ("RoofLentModel", "wins", "[Z", true)
  | _ => ("RoofLentModel", "h", "J", false)
def tyX6 : Nat → FieldType := fun k => match k with
  | 0 => .array .int
  | 1 => .int
  | 2 => .array .int
  | 3 => .array .int
  | 4 => .array .int
  | 5 => .array .int
  | 6 => .array .int
  | 7 => .array .int
  | 8 => .int
  | 9 => .array .int
  | 10 => .int
  | 11 => .long
  | 12 => .long
  | 13 => .array .int
  | 14 => .array .int
  | 15 => .array .int
  | 16 => .array .int
  | 17 => .array .boolean
  | _ => .long
abbrev wsX60 : List Cond := u_ws RX6 TX6 19
theorem nmX6 : ∀ a, a < 19 → ∀ b, b < 19 → a ≠ b → (TX6 a).2.1 ≠ (TX6 b).2.1 := by decide +kernel
theorem tyX6_ok : ∀ k, k < 19 → parseFieldDescriptor (TX6 k).2.2.1 = some (tyX6 k) := by decide +kernel
abbrev cX6_init : ByteArray := prog_8_method_1_code
def yX6_init : MethodName := ⟨RX6, "<init>", "()V"⟩
abbrev cX6_in : ByteArray := prog_8_method_3_code
def yX6_in : MethodName := ⟨RX6, "in", "(JJJ)Z"⟩
abbrev cX6_has : ByteArray := prog_8_method_4_code
def yX6_has : MethodName := ⟨RX6, "has", "(II)Z"⟩
abbrev cX6_ones : ByteArray := prog_8_method_5_code
def yX6_ones : MethodName := ⟨RX6, "ones", "(I)I"⟩
abbrev cX6_found : ByteArray := prog_8_method_6_code
def yX6_found : MethodName := ⟨RX6, "found", "(I)I"⟩
abbrev cX6_tells : ByteArray := prog_8_method_7_code
def yX6_tells : MethodName := ⟨RX6, "tells", "(II)I"⟩
abbrev cX6_copyAll : ByteArray := prog_8_method_8_code
def yX6_copyAll : MethodName := ⟨RX6, "copyAll", "(III)V"⟩
abbrev cX6_isRow : ByteArray := prog_8_method_9_code
def yX6_isRow : MethodName := ⟨RX6, "isRow", "(I)Z"⟩
abbrev cX6_isText : ByteArray := prog_8_method_10_code
def yX6_isText : MethodName := ⟨RX6, "isText", "(I)Z"⟩
abbrev cX6_row : ByteArray := prog_8_method_11_code
def yX6_row : MethodName := ⟨RX6, "row", "(II)I"⟩
abbrev cX6_lay : ByteArray := prog_8_method_12_code
def yX6_lay : MethodName := ⟨RX6, "lay", "(III)I"⟩
abbrev cX6_at : ByteArray := prog_8_method_13_code
def yX6_at : MethodName := ⟨RX6, "at", "(II)I"⟩
abbrev cX6_tear : ByteArray := prog_8_method_14_code
def yX6_tear : MethodName := ⟨RX6, "tear", "(I)I"⟩
abbrev cX6_fits : ByteArray := prog_8_method_15_code
def yX6_fits : MethodName := ⟨RX6, "fits", "(III)Z"⟩
abbrev cX6_copy : ByteArray := prog_8_method_16_code
def yX6_copy : MethodName := ⟨RX6, "copy", "(IIIII)I"⟩
abbrev cX6_mean : ByteArray := prog_8_method_17_code
def yX6_mean : MethodName := ⟨RX6, "mean", "(I)I"⟩
abbrev cX6_text : ByteArray := prog_8_method_18_code
def yX6_text : MethodName := ⟨RX6, "text", "(II)I"⟩
abbrev cX6_put : ByteArray := prog_8_method_19_code
def yX6_put : MethodName := ⟨RX6, "put", "(III)I"⟩
abbrev cX6_kindOf : ByteArray := prog_8_method_20_code
def yX6_kindOf : MethodName := ⟨RX6, "kindOf", "(I)I"⟩
abbrev cX6_housesOf : ByteArray := prog_8_method_21_code
def yX6_housesOf : MethodName := ⟨RX6, "housesOf", "(I)I"⟩
abbrev cX6_byteAt : ByteArray := prog_8_method_22_code
def yX6_byteAt : MethodName := ⟨RX6, "byteAt", "(II)I"⟩
abbrev cX6_faultOf : ByteArray := prog_8_method_23_code
def yX6_faultOf : MethodName := ⟨RX6, "faultOf", "(I)I"⟩
abbrev cX6_fault : ByteArray := prog_8_method_24_code
def yX6_fault : MethodName := ⟨RX6, "fault", "(I)I"⟩
abbrev cX6_rock : ByteArray := prog_8_method_25_code
def yX6_rock : MethodName := ⟨RX6, "rock", "(I)I"⟩
abbrev cX6_isTower : ByteArray := prog_8_method_26_code
def yX6_isTower : MethodName := ⟨RX6, "isTower", "(I)Z"⟩
abbrev cX6_isNone : ByteArray := prog_8_method_27_code
def yX6_isNone : MethodName := ⟨RX6, "isNone", "()Z"⟩
abbrev cX6_houses : ByteArray := prog_8_method_28_code
def yX6_houses : MethodName := ⟨RX6, "houses", "()I"⟩
abbrev cX6_isTold : ByteArray := prog_8_method_29_code
def yX6_isTold : MethodName := ⟨RX6, "isTold", "(II)Z"⟩
abbrev cX6_isThere : ByteArray := prog_8_method_30_code
def yX6_isThere : MethodName := ⟨RX6, "isThere", "(II)Z"⟩
abbrev cX6_kindAt : ByteArray := prog_8_method_31_code
def yX6_kindAt : MethodName := ⟨RX6, "kindAt", "(II)I"⟩
abbrev cX6_bearsAt : ByteArray := prog_8_method_32_code
def yX6_bearsAt : MethodName := ⟨RX6, "bearsAt", "(II)I"⟩
abbrev cX6_adds : ByteArray := prog_8_method_33_code
def yX6_adds : MethodName := ⟨RX6, "adds", "(IIII)V"⟩
abbrev cX6_goes : ByteArray := prog_8_method_34_code
def yX6_goes : MethodName := ⟨RX6, "goes", "(II)V"⟩
abbrev cX6_numberOf : ByteArray := prog_8_method_35_code
def yX6_numberOf : MethodName := ⟨RX6, "numberOf", "(II)I"⟩
abbrev cX6_towerOf : ByteArray := prog_8_method_36_code
def yX6_towerOf : MethodName := ⟨RX6, "towerOf", "(I)I"⟩
abbrev cX6_storeyOf : ByteArray := prog_8_method_37_code
def yX6_storeyOf : MethodName := ⟨RX6, "storeyOf", "(I)I"⟩
abbrev cX6_tower : ByteArray := prog_8_method_38_code
def yX6_tower : MethodName := ⟨RX6, "tower", "(I)I"⟩
abbrev cX6_isGlass : ByteArray := prog_8_method_39_code
def yX6_isGlass : MethodName := ⟨RX6, "isGlass", "(I)Z"⟩
abbrev cX6_isLeaning : ByteArray := prog_8_method_40_code
def yX6_isLeaning : MethodName := ⟨RX6, "isLeaning", "(I)Z"⟩
abbrev cX6_weightIn : ByteArray := prog_8_method_41_code
def yX6_weightIn : MethodName := ⟨RX6, "weightIn", "(II)I"⟩
abbrev cX6_weighsOn : ByteArray := prog_8_method_42_code
def yX6_weighsOn : MethodName := ⟨RX6, "weighsOn", "(II)I"⟩
abbrev cX6_swaying : ByteArray := prog_8_method_43_code
def yX6_swaying : MethodName := ⟨RX6, "swaying", "()I"⟩
abbrev cX6_eastIn : ByteArray := prog_8_method_44_code
def yX6_eastIn : MethodName := ⟨RX6, "eastIn", "(I)I"⟩
abbrev cX6_upIn : ByteArray := prog_8_method_45_code
def yX6_upIn : MethodName := ⟨RX6, "upIn", "(I)I"⟩
abbrev cX6_shader : ByteArray := prog_8_method_46_code
def yX6_shader : MethodName := ⟨RX6, "shader", "(III)I"⟩
abbrev cX6_hoursOf : ByteArray := prog_8_method_47_code
def yX6_hoursOf : MethodName := ⟨RX6, "hoursOf", "(II)I"⟩
abbrev cX6_lampsOver : ByteArray := prog_8_method_48_code
def yX6_lampsOver : MethodName := ⟨RX6, "lampsOver", "(II)I"⟩
abbrev cX6_lesser : ByteArray := prog_8_method_49_code
def yX6_lesser : MethodName := ⟨RX6, "lesser", "(II)I"⟩
abbrev cX6_lightBy : ByteArray := prog_8_method_50_code
def yX6_lightBy : MethodName := ⟨RX6, "lightBy", "(III)I"⟩
abbrev cX6_lightOf : ByteArray := prog_8_method_51_code
def yX6_lightOf : MethodName := ⟨RX6, "lightOf", "(I)I"⟩
abbrev cX6_allLight : ByteArray := prog_8_method_52_code
def yX6_allLight : MethodName := ⟨RX6, "allLight", "()I"⟩
abbrev cX6_layLamps : ByteArray := prog_8_method_53_code
def yX6_layLamps : MethodName := ⟨RX6, "layLamps", "()V"⟩
abbrev cX6_owesAll : ByteArray := prog_8_method_54_code
def yX6_owesAll : MethodName := ⟨RX6, "owesAll", "(I)I"⟩
abbrev cX6_owedAll : ByteArray := prog_8_method_55_code
def yX6_owedAll : MethodName := ⟨RX6, "owedAll", "(I)I"⟩
abbrev cX6_allLamps : ByteArray := prog_8_method_56_code
def yX6_allLamps : MethodName := ⟨RX6, "allLamps", "()I"⟩
abbrev cX6_houseTells : ByteArray := prog_8_method_57_code
def yX6_houseTells : MethodName := ⟨RX6, "houseTells", "(III)I"⟩
abbrev cX6_house : ByteArray := prog_8_method_58_code
def yX6_house : MethodName := ⟨RX6, "house", "(III)I"⟩
abbrev cX6_isOf : ByteArray := prog_8_method_59_code
def yX6_isOf : MethodName := ⟨RX6, "isOf", "(II)Z"⟩
abbrev cX6_isOnWay : ByteArray := prog_8_method_60_code
def yX6_isOnWay : MethodName := ⟨RX6, "isOnWay", "(IIIII)Z"⟩
abbrev cX6_couldShade : ByteArray := prog_8_method_61_code
def yX6_couldShade : MethodName := ⟨RX6, "couldShade", "(II)I"⟩
abbrev cX6_lightened : ByteArray := prog_8_method_62_code
def yX6_lightened : MethodName := ⟨RX6, "lightened", "(II)I"⟩
abbrev cX6_mark : ByteArray := prog_8_method_63_code
def yX6_mark : MethodName := ⟨RX6, "mark", "(III)I"⟩
abbrev cX6_bear : ByteArray := prog_8_method_64_code
def yX6_bear : MethodName := ⟨RX6, "bear", "(III)I"⟩
abbrev cX6_minds : ByteArray := prog_8_method_65_code
def yX6_minds : MethodName := ⟨RX6, "minds", "()V"⟩
abbrev cX6_hasRoom : ByteArray := prog_8_method_66_code
def yX6_hasRoom : MethodName := ⟨RX6, "hasRoom", "(I)Z"⟩
abbrev cX6_build : ByteArray := prog_8_method_67_code
def yX6_build : MethodName := ⟨RX6, "build", "(III)I"⟩
abbrev cX6_leave : ByteArray := prog_8_method_68_code
def yX6_leave : MethodName := ⟨RX6, "leave", "(II)I"⟩
abbrev cX6_undo : ByteArray := prog_8_method_69_code
def yX6_undo : MethodName := ⟨RX6, "undo", "(I)I"⟩
abbrev cX6_keep : ByteArray := prog_8_method_70_code
def yX6_keep : MethodName := ⟨RX6, "keep", "(I)I"⟩
abbrev cX6_on : ByteArray := prog_8_method_71_code
def yX6_on : MethodName := ⟨RX6, "on", "(I)I"⟩
abbrev cX6_shades : ByteArray := prog_8_method_72_code
def yX6_shades : MethodName := ⟨RX6, "shades", "(III)I"⟩
abbrev cX6_sees : ByteArray := prog_8_method_73_code
def yX6_sees : MethodName := ⟨RX6, "sees", "(II)I"⟩
abbrev cX6_isHouse : ByteArray := prog_8_method_74_code
def yX6_isHouse : MethodName := ⟨RX6, "isHouse", "(I)Z"⟩
abbrev cX6_owes : ByteArray := prog_8_method_75_code
def yX6_owes : MethodName := ⟨RX6, "owes", "(II)I"⟩
abbrev cX6_debt : ByteArray := prog_8_method_76_code
def yX6_debt : MethodName := ⟨RX6, "debt", "(I)I"⟩
abbrev cX6_light : ByteArray := prog_8_method_77_code
def yX6_light : MethodName := ⟨RX6, "light", "()I"⟩
abbrev cX6_ruined : ByteArray := prog_8_method_78_code
def yX6_ruined : MethodName := ⟨RX6, "ruined", "()I"⟩
abbrev cX6_firstOf : ByteArray := prog_8_method_79_code
def yX6_firstOf : MethodName := ⟨RX6, "firstOf", "(I)I"⟩
abbrev cX6_sways : ByteArray := prog_8_method_80_code
def yX6_sways : MethodName := ⟨RX6, "sways", "()I"⟩
abbrev cX6_lays : ByteArray := prog_8_method_81_code
def yX6_lays : MethodName := ⟨RX6, "lays", "()V"⟩
abbrev cX6_putsBack : ByteArray := prog_8_method_82_code
def yX6_putsBack : MethodName := ⟨RX6, "putsBack", "()V"⟩
abbrev cX6_isKind : ByteArray := prog_8_method_83_code
def yX6_isKind : MethodName := ⟨RX6, "isKind", "(I)Z"⟩
abbrev cX6_best : ByteArray := prog_8_method_84_code
def yX6_best : MethodName := ⟨RX6, "best", "(II)I"⟩
abbrev cX6_both : ByteArray := prog_8_method_85_code
def yX6_both : MethodName := ⟨RX6, "both", "(III)I"⟩
abbrev cX6_leaveAll : ByteArray := prog_8_method_86_code
def yX6_leaveAll : MethodName := ⟨RX6, "leaveAll", "(I)V"⟩
abbrev cX6_fewest : ByteArray := prog_8_method_87_code
def yX6_fewest : MethodName := ⟨RX6, "fewest", "()I"⟩
abbrev cX6_relief : ByteArray := prog_8_method_88_code
def yX6_relief : MethodName := ⟨RX6, "relief", "()I"⟩
abbrev cX6_high : ByteArray := prog_8_method_89_code
def yX6_high : MethodName := ⟨RX6, "high", "(II)I"⟩
abbrev cX6_settle : ByteArray := prog_8_method_90_code
def yX6_settle : MethodName := ⟨RX6, "settle", "()I"⟩
abbrev cX6_rings : ByteArray := prog_8_method_91_code
def yX6_rings : MethodName := ⟨RX6, "rings", "()I"⟩
abbrev cX6_isBuilt : ByteArray := prog_8_method_92_code
def yX6_isBuilt : MethodName := ⟨RX6, "isBuilt", "(II)Z"⟩
abbrev cX6_winsBy : ByteArray := prog_8_method_93_code
def yX6_winsBy : MethodName := ⟨RX6, "winsBy", "(II)Z"⟩
abbrev cX6_isGame : ByteArray := prog_8_method_94_code
def yX6_isGame : MethodName := ⟨RX6, "isGame", "(II)Z"⟩
abbrev cX6_game : ByteArray := prog_8_method_95_code
def yX6_game : MethodName := ⟨RX6, "game", "(II)I"⟩
abbrev cX6_begin : ByteArray := prog_8_method_96_code
def yX6_begin : MethodName := ⟨RX6, "begin", "(II)I"⟩
abbrev cX6_isSeen : ByteArray := prog_8_method_97_code
def yX6_isSeen : MethodName := ⟨RX6, "isSeen", "(II)Z"⟩
abbrev cX6_fog : ByteArray := prog_8_method_98_code
def yX6_fog : MethodName := ⟨RX6, "fog", "(I)I"⟩
abbrev cX6_kinds : ByteArray := prog_8_method_99_code
def yX6_kinds : MethodName := ⟨RX6, "kinds", "(III)I"⟩
abbrev cX6_odds : ByteArray := prog_8_method_100_code
def yX6_odds : MethodName := ⟨RX6, "odds", "(II)I"⟩
abbrev cX6_lots : ByteArray := prog_8_method_101_code
def yX6_lots : MethodName := ⟨RX6, "lots", "(II)I"⟩
abbrev cX6_asked : ByteArray := prog_8_method_102_code
def yX6_asked : MethodName := ⟨RX6, "asked", "()I"⟩
abbrev cX6_upper : ByteArray := prog_8_method_103_code
def yX6_upper : MethodName := ⟨RX6, "upper", "()J"⟩
abbrev cX6_lower : ByteArray := prog_8_method_104_code
def yX6_lower : MethodName := ⟨RX6, "lower", "()J"⟩
abbrev cX6_kindsMany : ByteArray := prog_8_method_105_code
def yX6_kindsMany : MethodName := ⟨RX6, "kindsMany", "(Z)I"⟩
abbrev cX6_thereOf : ByteArray := prog_8_method_106_code
def yX6_thereOf : MethodName := ⟨RX6, "thereOf", "([II)I"⟩
abbrev cX6_highest : ByteArray := prog_8_method_107_code
def yX6_highest : MethodName := ⟨RX6, "highest", "()I"⟩
abbrev cX6_count : ByteArray := prog_8_method_108_code
def yX6_count : MethodName := ⟨RX6, "count", "(I)I"⟩
abbrev cX6_finding : ByteArray := prog_8_method_109_code
def yX6_finding : MethodName := ⟨RX6, "finding", "()I"⟩
abbrev cX6_findings : ByteArray := prog_8_method_110_code
def yX6_findings : MethodName := ⟨RX6, "findings", "(I)I"⟩
abbrev cX6_mix : ByteArray := prog_8_method_111_code
def yX6_mix : MethodName := ⟨RX6, "mix", "(J)V"⟩
abbrev cX6_digest : ByteArray := prog_8_method_112_code
def yX6_digest : MethodName := ⟨RX6, "digest", "()J"⟩
def RJ6 : String := "java/lang/Integer"
def TJ6 : u_T := fun k => match k with
  | _ => ("", "", "", false)
def tyJ6 : Nat → FieldType := fun k => match k with
  | _ => .int
abbrev wsJ60 : List Cond := u_ws RJ6 TJ6 0
theorem nmJ6 : ∀ a, a < 0 → ∀ b, b < 0 → a ≠ b → (TJ6 a).2.1 ≠ (TJ6 b).2.1 := by decide +kernel
theorem tyJ6_ok : ∀ k, k < 0 → parseFieldDescriptor (TJ6 k).2.2.1 = some (tyJ6 k) := by decide +kernel
abbrev cJ6_bitCount_0f7a4 : ByteArray := prog_9_method_49_code
def yJ6_bitCount_0f7a4 : MethodName := ⟨RJ6, "bitCount", "(I)I"⟩
def RJ9 : String := "java/lang/Math"
def TJ9 : u_T := fun k => match k with
  | _ => ("", "", "", false)
def tyJ9 : Nat → FieldType := fun k => match k with
  | _ => .int
abbrev wsJ90 : List Cond := u_ws RJ9 TJ9 0
theorem nmJ9 : ∀ a, a < 0 → ∀ b, b < 0 → a ≠ b → (TJ9 a).2.1 ≠ (TJ9 b).2.1 := by decide +kernel
theorem tyJ9_ok : ∀ k, k < 0 → parseFieldDescriptor (TJ9 k).2.2.1 = some (tyJ9 k) := by decide +kernel
abbrev cJ9_max_7cf53 : ByteArray := prog_10_method_65_code
def yJ9_max_7cf53 : MethodName := ⟨RJ9, "max", "(II)I"⟩
abbrev cJ9_min_7cf53 : ByteArray := prog_10_method_69_code
def yJ9_min_7cf53 : MethodName := ⟨RJ9, "min", "(II)I"⟩
def RJ10 : String := "java/lang/System"
def TJ10 : u_T := fun k => match k with
  | _ => ("", "", "", false)
def tyJ10 : Nat → FieldType := fun k => match k with
  | _ => .int
abbrev wsJ100 : List Cond := u_ws RJ10 TJ10 0
theorem nmJ10 : ∀ a, a < 0 → ∀ b, b < 0 → a ≠ b → (TJ10 a).2.1 ≠ (TJ10 b).2.1 := by decide +kernel
theorem tyJ10_ok : ∀ k, k < 0 → parseFieldDescriptor (TJ10 k).2.2.1 = some (tyJ10 k) := by decide +kernel
def RL : String := "RoofLentLaw"
abbrev cL_law : ByteArray := code
def yL_law : MethodName := ⟨RL, "law", "([I)Z"⟩
end
section
theorem dX0_init_0 : decode cX0_init 0 = .ok (.aload_n 0, 1) := by decide +kernel
theorem dX0_init_1 : decode cX0_init 1 = .ok (.invokespecial 3, 3) := by decide +kernel
theorem dX0_init_4 : decode cX0_init 4 = .ok (.aload_n 0, 1) := by decide +kernel
theorem dX0_init_5 : decode cX0_init 5 = .ok (.bipush 12, 2) := by decide +kernel
theorem dX0_init_7 : decode cX0_init 7 = .ok (.newarray .int, 2) := by decide +kernel
theorem dX0_init_9 : decode cX0_init 9 = .ok (.putfield 9, 3) := by decide +kernel
theorem dX0_init_12 : decode cX0_init 12 = .ok (.aload_n 0, 1) := by decide +kernel
theorem dX0_init_13 : decode cX0_init 13 = .ok (.bipush 12, 2) := by decide +kernel
theorem dX0_init_15 : decode cX0_init 15 = .ok (.newarray .int, 2) := by decide +kernel
theorem dX0_init_17 : decode cX0_init 17 = .ok (.putfield 15, 3) := by decide +kernel
theorem dX0_init_20 : decode cX0_init 20 = .ok (.aload_n 0, 1) := by decide +kernel
theorem dX0_init_21 : decode cX0_init 21 = .ok (.bipush 12, 2) := by decide +kernel
theorem dX0_init_23 : decode cX0_init 23 = .ok (.newarray .int, 2) := by decide +kernel
theorem dX0_init_25 : decode cX0_init 25 = .ok (.putfield 18, 3) := by decide +kernel
theorem dX0_init_28 : decode cX0_init 28 = .ok (.aload_n 0, 1) := by decide +kernel
theorem dX0_init_29 : decode cX0_init 29 = .ok (.bipush 12, 2) := by decide +kernel
theorem dX0_init_31 : decode cX0_init 31 = .ok (.newarray .int, 2) := by decide +kernel
theorem dX0_init_33 : decode cX0_init 33 = .ok (.putfield 21, 3) := by decide +kernel
theorem dX0_init_36 : decode cX0_init 36 = .ok (.aload_n 0, 1) := by decide +kernel
theorem dX0_init_37 : decode cX0_init 37 = .ok (.sipush 144, 3) := by decide +kernel
theorem dX0_init_40 : decode cX0_init 40 = .ok (.newarray .int, 2) := by decide +kernel
theorem dX0_init_42 : decode cX0_init 42 = .ok (.putfield 24, 3) := by decide +kernel
theorem dX0_init_45 : decode cX0_init 45 = .ok (.aload_n 0, 1) := by decide +kernel
theorem dX0_init_46 : decode cX0_init 46 = .ok (.bipush 12, 2) := by decide +kernel
theorem dX0_init_48 : decode cX0_init 48 = .ok (.newarray .int, 2) := by decide +kernel
theorem dX0_init_50 : decode cX0_init 50 = .ok (.putfield 27, 3) := by decide +kernel
theorem dX0_init_53 : decode cX0_init 53 = .ok (.return_, 1) := by decide +kernel
theorem dX0_reckon_0 : decode cX0_reckon 0 = .ok (.aload_n 0, 1) := by decide +kernel
theorem dX0_reckon_1 : decode cX0_reckon 1 = .ok (.aload_n 1, 1) := by decide +kernel
theorem dX0_reckon_2 : decode cX0_reckon 2 = .ok (.invokevirtual 30, 3) := by decide +kernel
theorem dX0_reckon_5 : decode cX0_reckon 5 = .ok (.bipush 12, 2) := by decide +kernel
theorem dX0_reckon_7 : decode cX0_reckon 7 = .ok (.invokestatic 36, 3) := by decide +kernel
theorem dX0_reckon_10 : decode cX0_reckon 10 = .ok (.putfield 42, 3) := by decide +kernel
theorem dX0_reckon_13 : decode cX0_reckon 13 = .ok (.aload_n 0, 1) := by decide +kernel
theorem dX0_reckon_14 : decode cX0_reckon 14 = .ok (.iconst 0, 1) := by decide +kernel
theorem dX0_reckon_15 : decode cX0_reckon 15 = .ok (.putfield 46, 3) := by decide +kernel
theorem dX0_reckon_18 : decode cX0_reckon 18 = .ok (.iconst 0, 1) := by decide +kernel
theorem dX0_reckon_19 : decode cX0_reckon 19 = .ok (.istore_n 2, 1) := by decide +kernel
theorem dX0_reckon_20 : decode cX0_reckon 20 = .ok (.iload_n 2, 1) := by decide +kernel
theorem dX0_reckon_21 : decode cX0_reckon 21 = .ok (.bipush 12, 2) := by decide +kernel
theorem dX0_reckon_23 : decode cX0_reckon 23 = .ok (.if_icmp .ge 23, 3) := by decide +kernel
theorem dX0_reckon_26 : decode cX0_reckon 26 = .ok (.aload_n 0, 1) := by decide +kernel
theorem dX0_reckon_27 : decode cX0_reckon 27 = .ok (.getfield 18, 3) := by decide +kernel
theorem dX0_reckon_30 : decode cX0_reckon 30 = .ok (.iload_n 2, 1) := by decide +kernel
theorem dX0_reckon_31 : decode cX0_reckon 31 = .ok (.iconst 0, 1) := by decide +kernel
theorem dX0_reckon_32 : decode cX0_reckon 32 = .ok (.iastore, 1) := by decide +kernel
theorem dX0_reckon_33 : decode cX0_reckon 33 = .ok (.aload_n 0, 1) := by decide +kernel
theorem dX0_reckon_34 : decode cX0_reckon 34 = .ok (.getfield 21, 3) := by decide +kernel
theorem dX0_reckon_37 : decode cX0_reckon 37 = .ok (.iload_n 2, 1) := by decide +kernel
theorem dX0_reckon_38 : decode cX0_reckon 38 = .ok (.iconst 0, 1) := by decide +kernel
theorem dX0_reckon_39 : decode cX0_reckon 39 = .ok (.iastore, 1) := by decide +kernel
theorem dX0_reckon_40 : decode cX0_reckon 40 = .ok (.iinc 2 1, 3) := by decide +kernel
theorem dX0_reckon_43 : decode cX0_reckon 43 = .ok (.goto (-23), 3) := by decide +kernel
theorem dX0_reckon_46 : decode cX0_reckon 46 = .ok (.iconst 0, 1) := by decide +kernel
theorem dX0_reckon_47 : decode cX0_reckon 47 = .ok (.istore_n 2, 1) := by decide +kernel
theorem dX0_reckon_48 : decode cX0_reckon 48 = .ok (.iload_n 2, 1) := by decide +kernel
theorem dX0_reckon_49 : decode cX0_reckon 49 = .ok (.aload_n 0, 1) := by decide +kernel
theorem dX0_reckon_50 : decode cX0_reckon 50 = .ok (.getfield 24, 3) := by decide +kernel
theorem dX0_reckon_53 : decode cX0_reckon 53 = .ok (.arraylength, 1) := by decide +kernel
theorem dX0_reckon_54 : decode cX0_reckon 54 = .ok (.if_icmp .ge 16, 3) := by decide +kernel
theorem dX0_reckon_57 : decode cX0_reckon 57 = .ok (.aload_n 0, 1) := by decide +kernel
theorem dX0_reckon_58 : decode cX0_reckon 58 = .ok (.getfield 24, 3) := by decide +kernel
theorem dX0_reckon_61 : decode cX0_reckon 61 = .ok (.iload_n 2, 1) := by decide +kernel
theorem dX0_reckon_62 : decode cX0_reckon 62 = .ok (.iconst 0, 1) := by decide +kernel
theorem dX0_reckon_63 : decode cX0_reckon 63 = .ok (.iastore, 1) := by decide +kernel
theorem dX0_reckon_64 : decode cX0_reckon 64 = .ok (.iinc 2 1, 3) := by decide +kernel
theorem dX0_reckon_67 : decode cX0_reckon 67 = .ok (.goto (-19), 3) := by decide +kernel
theorem dX0_reckon_70 : decode cX0_reckon 70 = .ok (.iconst 0, 1) := by decide +kernel
theorem dX0_reckon_71 : decode cX0_reckon 71 = .ok (.istore_n 2, 1) := by decide +kernel
theorem dX0_reckon_72 : decode cX0_reckon 72 = .ok (.iconst 0, 1) := by decide +kernel
theorem dX0_reckon_73 : decode cX0_reckon 73 = .ok (.istore_n 3, 1) := by decide +kernel
theorem dX0_reckon_74 : decode cX0_reckon 74 = .ok (.iload_n 3, 1) := by decide +kernel
theorem dX0_reckon_75 : decode cX0_reckon 75 = .ok (.aload_n 1, 1) := by decide +kernel
theorem dX0_reckon_76 : decode cX0_reckon 76 = .ok (.invokevirtual 49, 3) := by decide +kernel
theorem dX0_reckon_79 : decode cX0_reckon 79 = .ok (.if_icmp .ge 40, 3) := by decide +kernel
theorem dX0_reckon_82 : decode cX0_reckon 82 = .ok (.iconst 0, 1) := by decide +kernel
theorem dX0_reckon_83 : decode cX0_reckon 83 = .ok (.istore 4, 2) := by decide +kernel
theorem dX0_reckon_85 : decode cX0_reckon 85 = .ok (.iload 4, 2) := by decide +kernel
theorem dX0_reckon_87 : decode cX0_reckon 87 = .ok (.aload_n 1, 1) := by decide +kernel
theorem dX0_reckon_88 : decode cX0_reckon 88 = .ok (.iload_n 3, 1) := by decide +kernel
theorem dX0_reckon_89 : decode cX0_reckon 89 = .ok (.invokevirtual 52, 3) := by decide +kernel
theorem dX0_reckon_92 : decode cX0_reckon 92 = .ok (.if_icmp .ge 21, 3) := by decide +kernel
theorem dX0_reckon_95 : decode cX0_reckon 95 = .ok (.aload_n 0, 1) := by decide +kernel
theorem dX0_reckon_96 : decode cX0_reckon 96 = .ok (.aload_n 1, 1) := by decide +kernel
theorem dX0_reckon_97 : decode cX0_reckon 97 = .ok (.iload_n 3, 1) := by decide +kernel
theorem dX0_reckon_98 : decode cX0_reckon 98 = .ok (.iload 4, 2) := by decide +kernel
theorem dX0_reckon_100 : decode cX0_reckon 100 = .ok (.iload_n 2, 1) := by decide +kernel
theorem dX0_reckon_101 : decode cX0_reckon 101 = .ok (.invokevirtual 56, 3) := by decide +kernel
theorem dX0_reckon_104 : decode cX0_reckon 104 = .ok (.iinc 2 1, 3) := by decide +kernel
theorem dX0_reckon_107 : decode cX0_reckon 107 = .ok (.iinc 4 1, 3) := by decide +kernel
theorem dX0_reckon_110 : decode cX0_reckon 110 = .ok (.goto (-25), 3) := by decide +kernel
theorem dX0_reckon_113 : decode cX0_reckon 113 = .ok (.iinc 3 1, 3) := by decide +kernel
theorem dX0_reckon_116 : decode cX0_reckon 116 = .ok (.goto (-42), 3) := by decide +kernel
theorem dX0_reckon_119 : decode cX0_reckon 119 = .ok (.return_, 1) := by decide +kernel
theorem dX0_reckonHouse_0 : decode cX0_reckonHouse 0 = .ok (.aload_n 0, 1) := by decide +kernel
theorem dX0_reckonHouse_1 : decode cX0_reckonHouse 1 = .ok (.iload 4, 2) := by decide +kernel
theorem dX0_reckonHouse_3 : decode cX0_reckonHouse 3 = .ok (.invokevirtual 60, 3) := by decide +kernel
theorem dX0_reckonHouse_6 : decode cX0_reckonHouse 6 = .ok (.ifCond .ne 4, 3) := by decide +kernel
theorem dX0_reckonHouse_9 : decode cX0_reckonHouse 9 = .ok (.return_, 1) := by decide +kernel
theorem dX0_reckonHouse_10 : decode cX0_reckonHouse 10 = .ok (.aload_n 0, 1) := by decide +kernel
theorem dX0_reckonHouse_11 : decode cX0_reckonHouse 11 = .ok (.getfield 15, 3) := by decide +kernel
theorem dX0_reckonHouse_14 : decode cX0_reckonHouse 14 = .ok (.iload 4, 2) := by decide +kernel
theorem dX0_reckonHouse_16 : decode cX0_reckonHouse 16 = .ok (.aload_n 1, 1) := by decide +kernel
theorem dX0_reckonHouse_17 : decode cX0_reckonHouse 17 = .ok (.iload_n 2, 1) := by decide +kernel
theorem dX0_reckonHouse_18 : decode cX0_reckonHouse 18 = .ok (.iload_n 3, 1) := by decide +kernel
theorem dX0_reckonHouse_19 : decode cX0_reckonHouse 19 = .ok (.invokevirtual 64, 3) := by decide +kernel
theorem dX0_reckonHouse_22 : decode cX0_reckonHouse 22 = .ok (.iastore, 1) := by decide +kernel
theorem dX0_reckonHouse_23 : decode cX0_reckonHouse 23 = .ok (.aload_n 0, 1) := by decide +kernel
theorem dX0_reckonHouse_24 : decode cX0_reckonHouse 24 = .ok (.getfield 9, 3) := by decide +kernel
theorem dX0_reckonHouse_27 : decode cX0_reckonHouse 27 = .ok (.iload 4, 2) := by decide +kernel
theorem dX0_reckonHouse_29 : decode cX0_reckonHouse 29 = .ok (.iconst 0, 1) := by decide +kernel
theorem dX0_reckonHouse_30 : decode cX0_reckonHouse 30 = .ok (.iastore, 1) := by decide +kernel
theorem dX0_reckonHouse_31 : decode cX0_reckonHouse 31 = .ok (.aload_n 1, 1) := by decide +kernel
theorem dX0_reckonHouse_32 : decode cX0_reckonHouse 32 = .ok (.iload_n 2, 1) := by decide +kernel
theorem dX0_reckonHouse_33 : decode cX0_reckonHouse 33 = .ok (.iload_n 3, 1) := by decide +kernel
theorem dX0_reckonHouse_34 : decode cX0_reckonHouse 34 = .ok (.invokevirtual 67, 3) := by decide +kernel
theorem dX0_reckonHouse_37 : decode cX0_reckonHouse 37 = .ok (.invokestatic 70, 3) := by decide +kernel
theorem dX0_reckonHouse_40 : decode cX0_reckonHouse 40 = .ok (.istore 5, 2) := by decide +kernel
theorem dX0_reckonHouse_42 : decode cX0_reckonHouse 42 = .ok (.iconst 0, 1) := by decide +kernel
theorem dX0_reckonHouse_43 : decode cX0_reckonHouse 43 = .ok (.istore 6, 2) := by decide +kernel
theorem dX0_reckonHouse_45 : decode cX0_reckonHouse 45 = .ok (.iload 6, 2) := by decide +kernel
theorem dX0_reckonHouse_47 : decode cX0_reckonHouse 47 = .ok (.iconst 5, 1) := by decide +kernel
theorem dX0_reckonHouse_48 : decode cX0_reckonHouse 48 = .ok (.if_icmp .ge 53, 3) := by decide +kernel
theorem dX0_reckonHouse_51 : decode cX0_reckonHouse 51 = .ok (.aload_n 1, 1) := by decide +kernel
theorem dX0_reckonHouse_52 : decode cX0_reckonHouse 52 = .ok (.iload_n 2, 1) := by decide +kernel
theorem dX0_reckonHouse_53 : decode cX0_reckonHouse 53 = .ok (.iload_n 3, 1) := by decide +kernel
theorem dX0_reckonHouse_54 : decode cX0_reckonHouse 54 = .ok (.iload 6, 2) := by decide +kernel
theorem dX0_reckonHouse_56 : decode cX0_reckonHouse 56 = .ok (.invokevirtual 73, 3) := by decide +kernel
theorem dX0_reckonHouse_59 : decode cX0_reckonHouse 59 = .ok (.istore 7, 2) := by decide +kernel
theorem dX0_reckonHouse_61 : decode cX0_reckonHouse 61 = .ok (.iload 7, 2) := by decide +kernel
theorem dX0_reckonHouse_63 : decode cX0_reckonHouse 63 = .ok (.bipush (-9), 2) := by decide +kernel
theorem dX0_reckonHouse_65 : decode cX0_reckonHouse 65 = .ok (.if_icmp .ne 20, 3) := by decide +kernel
theorem dX0_reckonHouse_68 : decode cX0_reckonHouse 68 = .ok (.aload_n 0, 1) := by decide +kernel
theorem dX0_reckonHouse_69 : decode cX0_reckonHouse 69 = .ok (.getfield 9, 3) := by decide +kernel
theorem dX0_reckonHouse_72 : decode cX0_reckonHouse 72 = .ok (.iload 4, 2) := by decide +kernel
theorem dX0_reckonHouse_74 : decode cX0_reckonHouse 74 = .ok (.dup2, 1) := by decide +kernel
theorem dX0_reckonHouse_75 : decode cX0_reckonHouse 75 = .ok (.iaload, 1) := by decide +kernel
theorem dX0_reckonHouse_76 : decode cX0_reckonHouse 76 = .ok (.iconst 1, 1) := by decide +kernel
theorem dX0_reckonHouse_77 : decode cX0_reckonHouse 77 = .ok (.iload 6, 2) := by decide +kernel
theorem dX0_reckonHouse_79 : decode cX0_reckonHouse 79 = .ok (.ishl, 1) := by decide +kernel
theorem dX0_reckonHouse_80 : decode cX0_reckonHouse 80 = .ok (.ior, 1) := by decide +kernel
theorem dX0_reckonHouse_81 : decode cX0_reckonHouse 81 = .ok (.iastore, 1) := by decide +kernel
theorem dX0_reckonHouse_82 : decode cX0_reckonHouse 82 = .ok (.goto 13, 3) := by decide +kernel
theorem dX0_reckonHouse_85 : decode cX0_reckonHouse 85 = .ok (.aload_n 0, 1) := by decide +kernel
theorem dX0_reckonHouse_86 : decode cX0_reckonHouse 86 = .ok (.iload 7, 2) := by decide +kernel
theorem dX0_reckonHouse_88 : decode cX0_reckonHouse 88 = .ok (.iload 4, 2) := by decide +kernel
theorem dX0_reckonHouse_90 : decode cX0_reckonHouse 90 = .ok (.iload 5, 2) := by decide +kernel
theorem dX0_reckonHouse_92 : decode cX0_reckonHouse 92 = .ok (.invokevirtual 77, 3) := by decide +kernel
theorem dX0_reckonHouse_95 : decode cX0_reckonHouse 95 = .ok (.iinc 6 1, 3) := by decide +kernel
theorem dX0_reckonHouse_98 : decode cX0_reckonHouse 98 = .ok (.goto (-53), 3) := by decide +kernel
theorem dX0_reckonHouse_101 : decode cX0_reckonHouse 101 = .ok (.return_, 1) := by decide +kernel
theorem dX0_lampsAnHour_0 : decode cX0_lampsAnHour 0 = .ok (.iload_n 0, 1) := by decide +kernel
theorem dX0_lampsAnHour_1 : decode cX0_lampsAnHour 1 = .ok (.iconst 4, 1) := by decide +kernel
theorem dX0_lampsAnHour_2 : decode cX0_lampsAnHour 2 = .ok (.if_icmp .ne 7, 3) := by decide +kernel
theorem dX0_lampsAnHour_5 : decode cX0_lampsAnHour 5 = .ok (.iconst 0, 1) := by decide +kernel
theorem dX0_lampsAnHour_6 : decode cX0_lampsAnHour 6 = .ok (.goto 13, 3) := by decide +kernel
theorem dX0_lampsAnHour_9 : decode cX0_lampsAnHour 9 = .ok (.iload_n 0, 1) := by decide +kernel
theorem dX0_lampsAnHour_10 : decode cX0_lampsAnHour 10 = .ok (.iconst 3, 1) := by decide +kernel
theorem dX0_lampsAnHour_11 : decode cX0_lampsAnHour 11 = .ok (.if_icmp .ne 7, 3) := by decide +kernel
theorem dX0_lampsAnHour_14 : decode cX0_lampsAnHour 14 = .ok (.iconst 2, 1) := by decide +kernel
theorem dX0_lampsAnHour_15 : decode cX0_lampsAnHour 15 = .ok (.goto 4, 3) := by decide +kernel
theorem dX0_lampsAnHour_18 : decode cX0_lampsAnHour 18 = .ok (.iconst 1, 1) := by decide +kernel
theorem dX0_lampsAnHour_19 : decode cX0_lampsAnHour 19 = .ok (.ireturn, 1) := by decide +kernel
theorem dX0_charge_0 : decode cX0_charge 0 = .ok (.aload_n 0, 1) := by decide +kernel
theorem dX0_charge_1 : decode cX0_charge 1 = .ok (.iload_n 1, 1) := by decide +kernel
theorem dX0_charge_2 : decode cX0_charge 2 = .ok (.invokevirtual 60, 3) := by decide +kernel
theorem dX0_charge_5 : decode cX0_charge 5 = .ok (.ifCond .eq 56, 3) := by decide +kernel
theorem dX0_charge_8 : decode cX0_charge 8 = .ok (.aload_n 0, 1) := by decide +kernel
theorem dX0_charge_9 : decode cX0_charge 9 = .ok (.iload_n 2, 1) := by decide +kernel
theorem dX0_charge_10 : decode cX0_charge 10 = .ok (.invokevirtual 60, 3) := by decide +kernel
theorem dX0_charge_13 : decode cX0_charge 13 = .ok (.ifCond .eq 48, 3) := by decide +kernel
theorem dX0_charge_16 : decode cX0_charge 16 = .ok (.aload_n 0, 1) := by decide +kernel
theorem dX0_charge_17 : decode cX0_charge 17 = .ok (.getfield 24, 3) := by decide +kernel
theorem dX0_charge_20 : decode cX0_charge 20 = .ok (.iload_n 1, 1) := by decide +kernel
theorem dX0_charge_21 : decode cX0_charge 21 = .ok (.bipush 12, 2) := by decide +kernel
theorem dX0_charge_23 : decode cX0_charge 23 = .ok (.imul, 1) := by decide +kernel
theorem dX0_charge_24 : decode cX0_charge 24 = .ok (.iload_n 2, 1) := by decide +kernel
theorem dX0_charge_25 : decode cX0_charge 25 = .ok (.iadd, 1) := by decide +kernel
theorem dX0_charge_26 : decode cX0_charge 26 = .ok (.dup2, 1) := by decide +kernel
theorem dX0_charge_27 : decode cX0_charge 27 = .ok (.iaload, 1) := by decide +kernel
theorem dX0_charge_28 : decode cX0_charge 28 = .ok (.iload_n 3, 1) := by decide +kernel
theorem dX0_charge_29 : decode cX0_charge 29 = .ok (.iadd, 1) := by decide +kernel
theorem dX0_charge_30 : decode cX0_charge 30 = .ok (.iastore, 1) := by decide +kernel
theorem dX0_charge_31 : decode cX0_charge 31 = .ok (.aload_n 0, 1) := by decide +kernel
theorem dX0_charge_32 : decode cX0_charge 32 = .ok (.getfield 18, 3) := by decide +kernel
theorem dX0_charge_35 : decode cX0_charge 35 = .ok (.iload_n 1, 1) := by decide +kernel
theorem dX0_charge_36 : decode cX0_charge 36 = .ok (.dup2, 1) := by decide +kernel
theorem dX0_charge_37 : decode cX0_charge 37 = .ok (.iaload, 1) := by decide +kernel
theorem dX0_charge_38 : decode cX0_charge 38 = .ok (.iload_n 3, 1) := by decide +kernel
theorem dX0_charge_39 : decode cX0_charge 39 = .ok (.iadd, 1) := by decide +kernel
theorem dX0_charge_40 : decode cX0_charge 40 = .ok (.iastore, 1) := by decide +kernel
theorem dX0_charge_41 : decode cX0_charge 41 = .ok (.aload_n 0, 1) := by decide +kernel
theorem dX0_charge_42 : decode cX0_charge 42 = .ok (.getfield 21, 3) := by decide +kernel
theorem dX0_charge_45 : decode cX0_charge 45 = .ok (.iload_n 2, 1) := by decide +kernel
theorem dX0_charge_46 : decode cX0_charge 46 = .ok (.dup2, 1) := by decide +kernel
theorem dX0_charge_47 : decode cX0_charge 47 = .ok (.iaload, 1) := by decide +kernel
theorem dX0_charge_48 : decode cX0_charge 48 = .ok (.iload_n 3, 1) := by decide +kernel
theorem dX0_charge_49 : decode cX0_charge 49 = .ok (.iadd, 1) := by decide +kernel
theorem dX0_charge_50 : decode cX0_charge 50 = .ok (.iastore, 1) := by decide +kernel
theorem dX0_charge_51 : decode cX0_charge 51 = .ok (.aload_n 0, 1) := by decide +kernel
theorem dX0_charge_52 : decode cX0_charge 52 = .ok (.dup, 1) := by decide +kernel
theorem dX0_charge_53 : decode cX0_charge 53 = .ok (.getfield 46, 3) := by decide +kernel
theorem dX0_charge_56 : decode cX0_charge 56 = .ok (.iload_n 3, 1) := by decide +kernel
theorem dX0_charge_57 : decode cX0_charge 57 = .ok (.iadd, 1) := by decide +kernel
theorem dX0_charge_58 : decode cX0_charge 58 = .ok (.putfield 46, 3) := by decide +kernel
theorem dX0_charge_61 : decode cX0_charge 61 = .ok (.return_, 1) := by decide +kernel
theorem dX0_isNumber_0 : decode cX0_isNumber 0 = .ok (.iload_n 1, 1) := by decide +kernel
theorem dX0_isNumber_1 : decode cX0_isNumber 1 = .ok (.ifCond .lt 15, 3) := by decide +kernel
theorem dX0_isNumber_4 : decode cX0_isNumber 4 = .ok (.iload_n 1, 1) := by decide +kernel
theorem dX0_isNumber_5 : decode cX0_isNumber 5 = .ok (.aload_n 0, 1) := by decide +kernel
theorem dX0_isNumber_6 : decode cX0_isNumber 6 = .ok (.getfield 42, 3) := by decide +kernel
theorem dX0_isNumber_9 : decode cX0_isNumber 9 = .ok (.if_icmp .ge 7, 3) := by decide +kernel
theorem dX0_isNumber_12 : decode cX0_isNumber 12 = .ok (.iconst 1, 1) := by decide +kernel
theorem dX0_isNumber_13 : decode cX0_isNumber 13 = .ok (.goto 4, 3) := by decide +kernel
theorem dX0_isNumber_16 : decode cX0_isNumber 16 = .ok (.iconst 0, 1) := by decide +kernel
theorem dX0_isNumber_17 : decode cX0_isNumber 17 = .ok (.ireturn, 1) := by decide +kernel
theorem dX0_lampsFromTo_0 : decode cX0_lampsFromTo 0 = .ok (.aload_n 0, 1) := by decide +kernel
theorem dX0_lampsFromTo_1 : decode cX0_lampsFromTo 1 = .ok (.iload_n 1, 1) := by decide +kernel
theorem dX0_lampsFromTo_2 : decode cX0_lampsFromTo 2 = .ok (.invokevirtual 60, 3) := by decide +kernel
theorem dX0_lampsFromTo_5 : decode cX0_lampsFromTo 5 = .ok (.ifCond .eq 25, 3) := by decide +kernel
theorem dX0_lampsFromTo_8 : decode cX0_lampsFromTo 8 = .ok (.aload_n 0, 1) := by decide +kernel
theorem dX0_lampsFromTo_9 : decode cX0_lampsFromTo 9 = .ok (.iload_n 2, 1) := by decide +kernel
theorem dX0_lampsFromTo_10 : decode cX0_lampsFromTo 10 = .ok (.invokevirtual 60, 3) := by decide +kernel
theorem dX0_lampsFromTo_13 : decode cX0_lampsFromTo 13 = .ok (.ifCond .eq 17, 3) := by decide +kernel
theorem dX0_lampsFromTo_16 : decode cX0_lampsFromTo 16 = .ok (.aload_n 0, 1) := by decide +kernel
theorem dX0_lampsFromTo_17 : decode cX0_lampsFromTo 17 = .ok (.getfield 24, 3) := by decide +kernel
theorem dX0_lampsFromTo_20 : decode cX0_lampsFromTo 20 = .ok (.iload_n 1, 1) := by decide +kernel
theorem dX0_lampsFromTo_21 : decode cX0_lampsFromTo 21 = .ok (.bipush 12, 2) := by decide +kernel
theorem dX0_lampsFromTo_23 : decode cX0_lampsFromTo 23 = .ok (.imul, 1) := by decide +kernel
theorem dX0_lampsFromTo_24 : decode cX0_lampsFromTo 24 = .ok (.iload_n 2, 1) := by decide +kernel
theorem dX0_lampsFromTo_25 : decode cX0_lampsFromTo 25 = .ok (.iadd, 1) := by decide +kernel
theorem dX0_lampsFromTo_26 : decode cX0_lampsFromTo 26 = .ok (.iaload, 1) := by decide +kernel
theorem dX0_lampsFromTo_27 : decode cX0_lampsFromTo 27 = .ok (.goto 4, 3) := by decide +kernel
theorem dX0_lampsFromTo_30 : decode cX0_lampsFromTo 30 = .ok (.iconst 0, 1) := by decide +kernel
theorem dX0_lampsFromTo_31 : decode cX0_lampsFromTo 31 = .ok (.ireturn, 1) := by decide +kernel
theorem dX0_owingOf_0 : decode cX0_owingOf 0 = .ok (.aload_n 0, 1) := by decide +kernel
theorem dX0_owingOf_1 : decode cX0_owingOf 1 = .ok (.iload_n 1, 1) := by decide +kernel
theorem dX0_owingOf_2 : decode cX0_owingOf 2 = .ok (.invokevirtual 60, 3) := by decide +kernel
theorem dX0_owingOf_5 : decode cX0_owingOf 5 = .ok (.ifCond .eq 12, 3) := by decide +kernel
theorem dX0_owingOf_8 : decode cX0_owingOf 8 = .ok (.aload_n 0, 1) := by decide +kernel
theorem dX0_owingOf_9 : decode cX0_owingOf 9 = .ok (.getfield 18, 3) := by decide +kernel
theorem dX0_owingOf_12 : decode cX0_owingOf 12 = .ok (.iload_n 1, 1) := by decide +kernel
theorem dX0_owingOf_13 : decode cX0_owingOf 13 = .ok (.iaload, 1) := by decide +kernel
theorem dX0_owingOf_14 : decode cX0_owingOf 14 = .ok (.goto 4, 3) := by decide +kernel
theorem dX0_owingOf_17 : decode cX0_owingOf 17 = .ok (.iconst 0, 1) := by decide +kernel
theorem dX0_owingOf_18 : decode cX0_owingOf 18 = .ok (.ireturn, 1) := by decide +kernel
theorem dX0_owedOf_0 : decode cX0_owedOf 0 = .ok (.aload_n 0, 1) := by decide +kernel
theorem dX0_owedOf_1 : decode cX0_owedOf 1 = .ok (.iload_n 1, 1) := by decide +kernel
theorem dX0_owedOf_2 : decode cX0_owedOf 2 = .ok (.invokevirtual 60, 3) := by decide +kernel
theorem dX0_owedOf_5 : decode cX0_owedOf 5 = .ok (.ifCond .eq 12, 3) := by decide +kernel
theorem dX0_owedOf_8 : decode cX0_owedOf 8 = .ok (.aload_n 0, 1) := by decide +kernel
theorem dX0_owedOf_9 : decode cX0_owedOf 9 = .ok (.getfield 21, 3) := by decide +kernel
theorem dX0_owedOf_12 : decode cX0_owedOf 12 = .ok (.iload_n 1, 1) := by decide +kernel
theorem dX0_owedOf_13 : decode cX0_owedOf 13 = .ok (.iaload, 1) := by decide +kernel
theorem dX0_owedOf_14 : decode cX0_owedOf 14 = .ok (.goto 4, 3) := by decide +kernel
theorem dX0_owedOf_17 : decode cX0_owedOf 17 = .ok (.iconst 0, 1) := by decide +kernel
theorem dX0_owedOf_18 : decode cX0_owedOf 18 = .ok (.ireturn, 1) := by decide +kernel
theorem dX0_debtOf_0 : decode cX0_debtOf 0 = .ok (.aload_n 0, 1) := by decide +kernel
theorem dX0_debtOf_1 : decode cX0_debtOf 1 = .ok (.iload_n 1, 1) := by decide +kernel
theorem dX0_debtOf_2 : decode cX0_debtOf 2 = .ok (.invokevirtual 81, 3) := by decide +kernel
theorem dX0_debtOf_5 : decode cX0_debtOf 5 = .ok (.aload_n 0, 1) := by decide +kernel
theorem dX0_debtOf_6 : decode cX0_debtOf 6 = .ok (.iload_n 1, 1) := by decide +kernel
theorem dX0_debtOf_7 : decode cX0_debtOf 7 = .ok (.invokevirtual 84, 3) := by decide +kernel
theorem dX0_debtOf_10 : decode cX0_debtOf 10 = .ok (.isub, 1) := by decide +kernel
theorem dX0_debtOf_11 : decode cX0_debtOf 11 = .ok (.ireturn, 1) := by decide +kernel
theorem dX0_lightOf_0 : decode cX0_lightOf 0 = .ok (.aload_n 0, 1) := by decide +kernel
theorem dX0_lightOf_1 : decode cX0_lightOf 1 = .ok (.iload_n 1, 1) := by decide +kernel
theorem dX0_lightOf_2 : decode cX0_lightOf 2 = .ok (.iconst 0, 1) := by decide +kernel
theorem dX0_lightOf_3 : decode cX0_lightOf 3 = .ok (.invokevirtual 87, 3) := by decide +kernel
theorem dX0_lightOf_6 : decode cX0_lightOf 6 = .ok (.ireturn, 1) := by decide +kernel
theorem dX0_lightIn_0 : decode cX0_lightIn 0 = .ok (.aload_n 0, 1) := by decide +kernel
theorem dX0_lightIn_1 : decode cX0_lightIn 1 = .ok (.iload_n 1, 1) := by decide +kernel
theorem dX0_lightIn_2 : decode cX0_lightIn 2 = .ok (.invokevirtual 60, 3) := by decide +kernel
theorem dX0_lightIn_5 : decode cX0_lightIn 5 = .ok (.ifCond .eq 30, 3) := by decide +kernel
theorem dX0_lightIn_8 : decode cX0_lightIn 8 = .ok (.iconst 5, 1) := by decide +kernel
theorem dX0_lightIn_9 : decode cX0_lightIn 9 = .ok (.aload_n 0, 1) := by decide +kernel
theorem dX0_lightIn_10 : decode cX0_lightIn 10 = .ok (.getfield 9, 3) := by decide +kernel
theorem dX0_lightIn_13 : decode cX0_lightIn 13 = .ok (.iload_n 1, 1) := by decide +kernel
theorem dX0_lightIn_14 : decode cX0_lightIn 14 = .ok (.iaload, 1) := by decide +kernel
theorem dX0_lightIn_15 : decode cX0_lightIn 15 = .ok (.iload_n 2, 1) := by decide +kernel
theorem dX0_lightIn_16 : decode cX0_lightIn 16 = .ok (.iconst (-1), 1) := by decide +kernel
theorem dX0_lightIn_17 : decode cX0_lightIn 17 = .ok (.ixor, 1) := by decide +kernel
theorem dX0_lightIn_18 : decode cX0_lightIn 18 = .ok (.iand, 1) := by decide +kernel
theorem dX0_lightIn_19 : decode cX0_lightIn 19 = .ok (.invokestatic 90, 3) := by decide +kernel
theorem dX0_lightIn_22 : decode cX0_lightIn 22 = .ok (.aload_n 0, 1) := by decide +kernel
theorem dX0_lightIn_23 : decode cX0_lightIn 23 = .ok (.getfield 15, 3) := by decide +kernel
theorem dX0_lightIn_26 : decode cX0_lightIn 26 = .ok (.iload_n 1, 1) := by decide +kernel
theorem dX0_lightIn_27 : decode cX0_lightIn 27 = .ok (.iaload, 1) := by decide +kernel
theorem dX0_lightIn_28 : decode cX0_lightIn 28 = .ok (.iadd, 1) := by decide +kernel
theorem dX0_lightIn_29 : decode cX0_lightIn 29 = .ok (.invokestatic 36, 3) := by decide +kernel
theorem dX0_lightIn_32 : decode cX0_lightIn 32 = .ok (.goto 4, 3) := by decide +kernel
theorem dX0_lightIn_35 : decode cX0_lightIn 35 = .ok (.iconst 0, 1) := by decide +kernel
theorem dX0_lightIn_36 : decode cX0_lightIn 36 = .ok (.ireturn, 1) := by decide +kernel
theorem dX0_allLight_0 : decode cX0_allLight 0 = .ok (.iconst 0, 1) := by decide +kernel
theorem dX0_allLight_1 : decode cX0_allLight 1 = .ok (.istore_n 1, 1) := by decide +kernel
theorem dX0_allLight_2 : decode cX0_allLight 2 = .ok (.iconst 0, 1) := by decide +kernel
theorem dX0_allLight_3 : decode cX0_allLight 3 = .ok (.istore_n 2, 1) := by decide +kernel
theorem dX0_allLight_4 : decode cX0_allLight 4 = .ok (.iload_n 2, 1) := by decide +kernel
theorem dX0_allLight_5 : decode cX0_allLight 5 = .ok (.aload_n 0, 1) := by decide +kernel
theorem dX0_allLight_6 : decode cX0_allLight 6 = .ok (.getfield 42, 3) := by decide +kernel
theorem dX0_allLight_9 : decode cX0_allLight 9 = .ok (.if_icmp .ge 17, 3) := by decide +kernel
theorem dX0_allLight_12 : decode cX0_allLight 12 = .ok (.iload_n 1, 1) := by decide +kernel
theorem dX0_allLight_13 : decode cX0_allLight 13 = .ok (.aload_n 0, 1) := by decide +kernel
theorem dX0_allLight_14 : decode cX0_allLight 14 = .ok (.iload_n 2, 1) := by decide +kernel
theorem dX0_allLight_15 : decode cX0_allLight 15 = .ok (.invokevirtual 95, 3) := by decide +kernel
theorem dX0_allLight_18 : decode cX0_allLight 18 = .ok (.iadd, 1) := by decide +kernel
theorem dX0_allLight_19 : decode cX0_allLight 19 = .ok (.istore_n 1, 1) := by decide +kernel
theorem dX0_allLight_20 : decode cX0_allLight 20 = .ok (.iinc 2 1, 3) := by decide +kernel
theorem dX0_allLight_23 : decode cX0_allLight 23 = .ok (.goto (-19), 3) := by decide +kernel
theorem dX0_allLight_26 : decode cX0_allLight 26 = .ok (.iload_n 1, 1) := by decide +kernel
theorem dX0_allLight_27 : decode cX0_allLight 27 = .ok (.ireturn, 1) := by decide +kernel
theorem dX0_mutualPairs_0 : decode cX0_mutualPairs 0 = .ok (.iconst 0, 1) := by decide +kernel
theorem dX0_mutualPairs_1 : decode cX0_mutualPairs 1 = .ok (.istore_n 1, 1) := by decide +kernel
theorem dX0_mutualPairs_2 : decode cX0_mutualPairs 2 = .ok (.iconst 0, 1) := by decide +kernel
theorem dX0_mutualPairs_3 : decode cX0_mutualPairs 3 = .ok (.istore_n 2, 1) := by decide +kernel
theorem dX0_mutualPairs_4 : decode cX0_mutualPairs 4 = .ok (.iload_n 2, 1) := by decide +kernel
theorem dX0_mutualPairs_5 : decode cX0_mutualPairs 5 = .ok (.aload_n 0, 1) := by decide +kernel
theorem dX0_mutualPairs_6 : decode cX0_mutualPairs 6 = .ok (.getfield 42, 3) := by decide +kernel
theorem dX0_mutualPairs_9 : decode cX0_mutualPairs 9 = .ok (.if_icmp .ge 48, 3) := by decide +kernel
theorem dX0_mutualPairs_12 : decode cX0_mutualPairs 12 = .ok (.iload_n 2, 1) := by decide +kernel
theorem dX0_mutualPairs_13 : decode cX0_mutualPairs 13 = .ok (.iconst 1, 1) := by decide +kernel
theorem dX0_mutualPairs_14 : decode cX0_mutualPairs 14 = .ok (.iadd, 1) := by decide +kernel
theorem dX0_mutualPairs_15 : decode cX0_mutualPairs 15 = .ok (.istore_n 3, 1) := by decide +kernel
theorem dX0_mutualPairs_16 : decode cX0_mutualPairs 16 = .ok (.iload_n 3, 1) := by decide +kernel
theorem dX0_mutualPairs_17 : decode cX0_mutualPairs 17 = .ok (.aload_n 0, 1) := by decide +kernel
theorem dX0_mutualPairs_18 : decode cX0_mutualPairs 18 = .ok (.getfield 42, 3) := by decide +kernel
theorem dX0_mutualPairs_21 : decode cX0_mutualPairs 21 = .ok (.if_icmp .ge 30, 3) := by decide +kernel
theorem dX0_mutualPairs_24 : decode cX0_mutualPairs 24 = .ok (.aload_n 0, 1) := by decide +kernel
theorem dX0_mutualPairs_25 : decode cX0_mutualPairs 25 = .ok (.iload_n 2, 1) := by decide +kernel
theorem dX0_mutualPairs_26 : decode cX0_mutualPairs 26 = .ok (.iload_n 3, 1) := by decide +kernel
theorem dX0_mutualPairs_27 : decode cX0_mutualPairs 27 = .ok (.invokevirtual 98, 3) := by decide +kernel
theorem dX0_mutualPairs_30 : decode cX0_mutualPairs 30 = .ok (.ifCond .le 15, 3) := by decide +kernel
theorem dX0_mutualPairs_33 : decode cX0_mutualPairs 33 = .ok (.aload_n 0, 1) := by decide +kernel
theorem dX0_mutualPairs_34 : decode cX0_mutualPairs 34 = .ok (.iload_n 3, 1) := by decide +kernel
theorem dX0_mutualPairs_35 : decode cX0_mutualPairs 35 = .ok (.iload_n 2, 1) := by decide +kernel
theorem dX0_mutualPairs_36 : decode cX0_mutualPairs 36 = .ok (.invokevirtual 98, 3) := by decide +kernel
theorem dX0_mutualPairs_39 : decode cX0_mutualPairs 39 = .ok (.ifCond .le 6, 3) := by decide +kernel
theorem dX0_mutualPairs_42 : decode cX0_mutualPairs 42 = .ok (.iinc 1 1, 3) := by decide +kernel
theorem dX0_mutualPairs_45 : decode cX0_mutualPairs 45 = .ok (.iinc 3 1, 3) := by decide +kernel
theorem dX0_mutualPairs_48 : decode cX0_mutualPairs 48 = .ok (.goto (-32), 3) := by decide +kernel
theorem dX0_mutualPairs_51 : decode cX0_mutualPairs 51 = .ok (.iinc 2 1, 3) := by decide +kernel
theorem dX0_mutualPairs_54 : decode cX0_mutualPairs 54 = .ok (.goto (-50), 3) := by decide +kernel
theorem dX0_mutualPairs_57 : decode cX0_mutualPairs 57 = .ok (.iload_n 1, 1) := by decide +kernel
theorem dX0_mutualPairs_58 : decode cX0_mutualPairs 58 = .ok (.ireturn, 1) := by decide +kernel
theorem dX0_ringed_0 : decode cX0_ringed 0 = .ok (.iconst 0, 1) := by decide +kernel
theorem dX0_ringed_1 : decode cX0_ringed 1 = .ok (.istore_n 1, 1) := by decide +kernel
theorem dX0_ringed_2 : decode cX0_ringed 2 = .ok (.iload_n 1, 1) := by decide +kernel
theorem dX0_ringed_3 : decode cX0_ringed 3 = .ok (.aload_n 0, 1) := by decide +kernel
theorem dX0_ringed_4 : decode cX0_ringed 4 = .ok (.getfield 42, 3) := by decide +kernel
theorem dX0_ringed_7 : decode cX0_ringed 7 = .ok (.if_icmp .ge 20, 3) := by decide +kernel
theorem dX0_ringed_10 : decode cX0_ringed 10 = .ok (.aload_n 0, 1) := by decide +kernel
theorem dX0_ringed_11 : decode cX0_ringed 11 = .ok (.getfield 27, 3) := by decide +kernel
theorem dX0_ringed_14 : decode cX0_ringed 14 = .ok (.iload_n 1, 1) := by decide +kernel
theorem dX0_ringed_15 : decode cX0_ringed 15 = .ok (.aload_n 0, 1) := by decide +kernel
theorem dX0_ringed_16 : decode cX0_ringed 16 = .ok (.iload_n 1, 1) := by decide +kernel
theorem dX0_ringed_17 : decode cX0_ringed 17 = .ok (.invokevirtual 101, 3) := by decide +kernel
theorem dX0_ringed_20 : decode cX0_ringed 20 = .ok (.iastore, 1) := by decide +kernel
theorem dX0_ringed_21 : decode cX0_ringed 21 = .ok (.iinc 1 1, 3) := by decide +kernel
theorem dX0_ringed_24 : decode cX0_ringed 24 = .ok (.goto (-22), 3) := by decide +kernel
theorem dX0_ringed_27 : decode cX0_ringed 27 = .ok (.iconst 0, 1) := by decide +kernel
theorem dX0_ringed_28 : decode cX0_ringed 28 = .ok (.istore_n 1, 1) := by decide +kernel
theorem dX0_ringed_29 : decode cX0_ringed 29 = .ok (.iload_n 1, 1) := by decide +kernel
theorem dX0_ringed_30 : decode cX0_ringed 30 = .ok (.aload_n 0, 1) := by decide +kernel
theorem dX0_ringed_31 : decode cX0_ringed 31 = .ok (.getfield 42, 3) := by decide +kernel
theorem dX0_ringed_34 : decode cX0_ringed 34 = .ok (.if_icmp .ge 53, 3) := by decide +kernel
theorem dX0_ringed_37 : decode cX0_ringed 37 = .ok (.iconst 0, 1) := by decide +kernel
theorem dX0_ringed_38 : decode cX0_ringed 38 = .ok (.istore_n 2, 1) := by decide +kernel
theorem dX0_ringed_39 : decode cX0_ringed 39 = .ok (.iload_n 2, 1) := by decide +kernel
theorem dX0_ringed_40 : decode cX0_ringed 40 = .ok (.aload_n 0, 1) := by decide +kernel
theorem dX0_ringed_41 : decode cX0_ringed 41 = .ok (.getfield 42, 3) := by decide +kernel
theorem dX0_ringed_44 : decode cX0_ringed 44 = .ok (.if_icmp .ge 37, 3) := by decide +kernel
theorem dX0_ringed_47 : decode cX0_ringed 47 = .ok (.aload_n 0, 1) := by decide +kernel
theorem dX0_ringed_48 : decode cX0_ringed 48 = .ok (.getfield 27, 3) := by decide +kernel
theorem dX0_ringed_51 : decode cX0_ringed 51 = .ok (.iload_n 2, 1) := by decide +kernel
theorem dX0_ringed_52 : decode cX0_ringed 52 = .ok (.iaload, 1) := by decide +kernel
theorem dX0_ringed_53 : decode cX0_ringed 53 = .ok (.iload_n 1, 1) := by decide +kernel
theorem dX0_ringed_54 : decode cX0_ringed 54 = .ok (.ishr, 1) := by decide +kernel
theorem dX0_ringed_55 : decode cX0_ringed 55 = .ok (.iconst 1, 1) := by decide +kernel
theorem dX0_ringed_56 : decode cX0_ringed 56 = .ok (.iand, 1) := by decide +kernel
theorem dX0_ringed_57 : decode cX0_ringed 57 = .ok (.ifCond .eq 18, 3) := by decide +kernel
theorem dX0_ringed_60 : decode cX0_ringed 60 = .ok (.aload_n 0, 1) := by decide +kernel
theorem dX0_ringed_61 : decode cX0_ringed 61 = .ok (.getfield 27, 3) := by decide +kernel
theorem dX0_ringed_64 : decode cX0_ringed 64 = .ok (.iload_n 2, 1) := by decide +kernel
theorem dX0_ringed_65 : decode cX0_ringed 65 = .ok (.dup2, 1) := by decide +kernel
theorem dX0_ringed_66 : decode cX0_ringed 66 = .ok (.iaload, 1) := by decide +kernel
theorem dX0_ringed_67 : decode cX0_ringed 67 = .ok (.aload_n 0, 1) := by decide +kernel
theorem dX0_ringed_68 : decode cX0_ringed 68 = .ok (.getfield 27, 3) := by decide +kernel
theorem dX0_ringed_71 : decode cX0_ringed 71 = .ok (.iload_n 1, 1) := by decide +kernel
theorem dX0_ringed_72 : decode cX0_ringed 72 = .ok (.iaload, 1) := by decide +kernel
theorem dX0_ringed_73 : decode cX0_ringed 73 = .ok (.ior, 1) := by decide +kernel
theorem dX0_ringed_74 : decode cX0_ringed 74 = .ok (.iastore, 1) := by decide +kernel
theorem dX0_ringed_75 : decode cX0_ringed 75 = .ok (.iinc 2 1, 3) := by decide +kernel
theorem dX0_ringed_78 : decode cX0_ringed 78 = .ok (.goto (-39), 3) := by decide +kernel
theorem dX0_ringed_81 : decode cX0_ringed 81 = .ok (.iinc 1 1, 3) := by decide +kernel
theorem dX0_ringed_84 : decode cX0_ringed 84 = .ok (.goto (-55), 3) := by decide +kernel
theorem dX0_ringed_87 : decode cX0_ringed 87 = .ok (.iconst 0, 1) := by decide +kernel
theorem dX0_ringed_88 : decode cX0_ringed 88 = .ok (.istore_n 1, 1) := by decide +kernel
theorem dX0_ringed_89 : decode cX0_ringed 89 = .ok (.iconst 0, 1) := by decide +kernel
theorem dX0_ringed_90 : decode cX0_ringed 90 = .ok (.istore_n 2, 1) := by decide +kernel
theorem dX0_ringed_91 : decode cX0_ringed 91 = .ok (.iload_n 2, 1) := by decide +kernel
theorem dX0_ringed_92 : decode cX0_ringed 92 = .ok (.aload_n 0, 1) := by decide +kernel
theorem dX0_ringed_93 : decode cX0_ringed 93 = .ok (.getfield 42, 3) := by decide +kernel
theorem dX0_ringed_96 : decode cX0_ringed 96 = .ok (.if_icmp .ge 22, 3) := by decide +kernel
theorem dX0_ringed_99 : decode cX0_ringed 99 = .ok (.iload_n 1, 1) := by decide +kernel
theorem dX0_ringed_100 : decode cX0_ringed 100 = .ok (.aload_n 0, 1) := by decide +kernel
theorem dX0_ringed_101 : decode cX0_ringed 101 = .ok (.getfield 27, 3) := by decide +kernel
theorem dX0_ringed_104 : decode cX0_ringed 104 = .ok (.iload_n 2, 1) := by decide +kernel
theorem dX0_ringed_105 : decode cX0_ringed 105 = .ok (.iaload, 1) := by decide +kernel
theorem dX0_ringed_106 : decode cX0_ringed 106 = .ok (.iconst 1, 1) := by decide +kernel
theorem dX0_ringed_107 : decode cX0_ringed 107 = .ok (.iload_n 2, 1) := by decide +kernel
theorem dX0_ringed_108 : decode cX0_ringed 108 = .ok (.ishl, 1) := by decide +kernel
theorem dX0_ringed_109 : decode cX0_ringed 109 = .ok (.iand, 1) := by decide +kernel
theorem dX0_ringed_110 : decode cX0_ringed 110 = .ok (.ior, 1) := by decide +kernel
theorem dX0_ringed_111 : decode cX0_ringed 111 = .ok (.istore_n 1, 1) := by decide +kernel
theorem dX0_ringed_112 : decode cX0_ringed 112 = .ok (.iinc 2 1, 3) := by decide +kernel
theorem dX0_ringed_115 : decode cX0_ringed 115 = .ok (.goto (-24), 3) := by decide +kernel
theorem dX0_ringed_118 : decode cX0_ringed 118 = .ok (.iload_n 1, 1) := by decide +kernel
theorem dX0_ringed_119 : decode cX0_ringed 119 = .ok (.ireturn, 1) := by decide +kernel
theorem dX0_owedBy_0 : decode cX0_owedBy 0 = .ok (.iconst 0, 1) := by decide +kernel
theorem dX0_owedBy_1 : decode cX0_owedBy 1 = .ok (.istore_n 2, 1) := by decide +kernel
theorem dX0_owedBy_2 : decode cX0_owedBy 2 = .ok (.iconst 0, 1) := by decide +kernel
theorem dX0_owedBy_3 : decode cX0_owedBy 3 = .ok (.istore_n 3, 1) := by decide +kernel
theorem dX0_owedBy_4 : decode cX0_owedBy 4 = .ok (.iload_n 3, 1) := by decide +kernel
theorem dX0_owedBy_5 : decode cX0_owedBy 5 = .ok (.aload_n 0, 1) := by decide +kernel
theorem dX0_owedBy_6 : decode cX0_owedBy 6 = .ok (.getfield 42, 3) := by decide +kernel
theorem dX0_owedBy_9 : decode cX0_owedBy 9 = .ok (.if_icmp .ge 24, 3) := by decide +kernel
theorem dX0_owedBy_12 : decode cX0_owedBy 12 = .ok (.aload_n 0, 1) := by decide +kernel
theorem dX0_owedBy_13 : decode cX0_owedBy 13 = .ok (.iload_n 1, 1) := by decide +kernel
theorem dX0_owedBy_14 : decode cX0_owedBy 14 = .ok (.iload_n 3, 1) := by decide +kernel
theorem dX0_owedBy_15 : decode cX0_owedBy 15 = .ok (.invokevirtual 98, 3) := by decide +kernel
theorem dX0_owedBy_18 : decode cX0_owedBy 18 = .ok (.ifCond .le 9, 3) := by decide +kernel
theorem dX0_owedBy_21 : decode cX0_owedBy 21 = .ok (.iload_n 2, 1) := by decide +kernel
theorem dX0_owedBy_22 : decode cX0_owedBy 22 = .ok (.iconst 1, 1) := by decide +kernel
theorem dX0_owedBy_23 : decode cX0_owedBy 23 = .ok (.iload_n 3, 1) := by decide +kernel
theorem dX0_owedBy_24 : decode cX0_owedBy 24 = .ok (.ishl, 1) := by decide +kernel
theorem dX0_owedBy_25 : decode cX0_owedBy 25 = .ok (.ior, 1) := by decide +kernel
theorem dX0_owedBy_26 : decode cX0_owedBy 26 = .ok (.istore_n 2, 1) := by decide +kernel
theorem dX0_owedBy_27 : decode cX0_owedBy 27 = .ok (.iinc 3 1, 3) := by decide +kernel
theorem dX0_owedBy_30 : decode cX0_owedBy 30 = .ok (.goto (-26), 3) := by decide +kernel
theorem dX0_owedBy_33 : decode cX0_owedBy 33 = .ok (.iload_n 2, 1) := by decide +kernel
theorem dX0_owedBy_34 : decode cX0_owedBy 34 = .ok (.ireturn, 1) := by decide +kernel
theorem dX1_init_0 : decode cX1_init 0 = .ok (.aload_n 0, 1) := by decide +kernel
theorem dX1_init_1 : decode cX1_init 1 = .ok (.invokespecial 3, 3) := by decide +kernel
theorem dX1_init_4 : decode cX1_init 4 = .ok (.aload_n 0, 1) := by decide +kernel
theorem dX1_init_5 : decode cX1_init 5 = .ok (.iconst 5, 1) := by decide +kernel
theorem dX1_init_6 : decode cX1_init 6 = .ok (.newarray .int, 2) := by decide +kernel
theorem dX1_init_8 : decode cX1_init 8 = .ok (.putfield 9, 3) := by decide +kernel
theorem dX1_init_11 : decode cX1_init 11 = .ok (.aload_n 0, 1) := by decide +kernel
theorem dX1_init_12 : decode cX1_init 12 = .ok (.bipush 30, 2) := by decide +kernel
theorem dX1_init_14 : decode cX1_init 14 = .ok (.newarray .int, 2) := by decide +kernel
theorem dX1_init_16 : decode cX1_init 16 = .ok (.putfield 15, 3) := by decide +kernel
theorem dX1_init_19 : decode cX1_init 19 = .ok (.return_, 1) := by decide +kernel
theorem dX1_clear_0 : decode cX1_clear 0 = .ok (.aload_n 0, 1) := by decide +kernel
theorem dX1_clear_1 : decode cX1_clear 1 = .ok (.iconst 0, 1) := by decide +kernel
theorem dX1_clear_2 : decode cX1_clear 2 = .ok (.putfield 18, 3) := by decide +kernel
theorem dX1_clear_5 : decode cX1_clear 5 = .ok (.aload_n 0, 1) := by decide +kernel
theorem dX1_clear_6 : decode cX1_clear 6 = .ok (.iconst 0, 1) := by decide +kernel
theorem dX1_clear_7 : decode cX1_clear 7 = .ok (.putfield 22, 3) := by decide +kernel
theorem dX1_clear_10 : decode cX1_clear 10 = .ok (.iconst 0, 1) := by decide +kernel
theorem dX1_clear_11 : decode cX1_clear 11 = .ok (.istore_n 1, 1) := by decide +kernel
theorem dX1_clear_12 : decode cX1_clear 12 = .ok (.iload_n 1, 1) := by decide +kernel
theorem dX1_clear_13 : decode cX1_clear 13 = .ok (.aload_n 0, 1) := by decide +kernel
theorem dX1_clear_14 : decode cX1_clear 14 = .ok (.getfield 9, 3) := by decide +kernel
theorem dX1_clear_17 : decode cX1_clear 17 = .ok (.arraylength, 1) := by decide +kernel
theorem dX1_clear_18 : decode cX1_clear 18 = .ok (.if_icmp .ge 16, 3) := by decide +kernel
theorem dX1_clear_21 : decode cX1_clear 21 = .ok (.aload_n 0, 1) := by decide +kernel
theorem dX1_clear_22 : decode cX1_clear 22 = .ok (.getfield 9, 3) := by decide +kernel
theorem dX1_clear_25 : decode cX1_clear 25 = .ok (.iload_n 1, 1) := by decide +kernel
theorem dX1_clear_26 : decode cX1_clear 26 = .ok (.iconst 0, 1) := by decide +kernel
theorem dX1_clear_27 : decode cX1_clear 27 = .ok (.iastore, 1) := by decide +kernel
theorem dX1_clear_28 : decode cX1_clear 28 = .ok (.iinc 1 1, 3) := by decide +kernel
theorem dX1_clear_31 : decode cX1_clear 31 = .ok (.goto (-19), 3) := by decide +kernel
theorem dX1_clear_34 : decode cX1_clear 34 = .ok (.iconst 0, 1) := by decide +kernel
theorem dX1_clear_35 : decode cX1_clear 35 = .ok (.istore_n 1, 1) := by decide +kernel
theorem dX1_clear_36 : decode cX1_clear 36 = .ok (.iload_n 1, 1) := by decide +kernel
theorem dX1_clear_37 : decode cX1_clear 37 = .ok (.aload_n 0, 1) := by decide +kernel
theorem dX1_clear_38 : decode cX1_clear 38 = .ok (.getfield 15, 3) := by decide +kernel
theorem dX1_clear_41 : decode cX1_clear 41 = .ok (.arraylength, 1) := by decide +kernel
theorem dX1_clear_42 : decode cX1_clear 42 = .ok (.if_icmp .ge 16, 3) := by decide +kernel
theorem dX1_clear_45 : decode cX1_clear 45 = .ok (.aload_n 0, 1) := by decide +kernel
theorem dX1_clear_46 : decode cX1_clear 46 = .ok (.getfield 15, 3) := by decide +kernel
theorem dX1_clear_49 : decode cX1_clear 49 = .ok (.iload_n 1, 1) := by decide +kernel
theorem dX1_clear_50 : decode cX1_clear 50 = .ok (.iconst 0, 1) := by decide +kernel
theorem dX1_clear_51 : decode cX1_clear 51 = .ok (.iastore, 1) := by decide +kernel
theorem dX1_clear_52 : decode cX1_clear 52 = .ok (.iinc 1 1, 3) := by decide +kernel
theorem dX1_clear_55 : decode cX1_clear 55 = .ok (.goto (-19), 3) := by decide +kernel
theorem dX1_clear_58 : decode cX1_clear 58 = .ok (.return_, 1) := by decide +kernel
theorem dX1_addTower_0 : decode cX1_addTower 0 = .ok (.aload_n 0, 1) := by decide +kernel
theorem dX1_addTower_1 : decode cX1_addTower 1 = .ok (.getfield 18, 3) := by decide +kernel
theorem dX1_addTower_4 : decode cX1_addTower 4 = .ok (.iconst 5, 1) := by decide +kernel
theorem dX1_addTower_5 : decode cX1_addTower 5 = .ok (.if_icmp .lt 5, 3) := by decide +kernel
theorem dX1_addTower_8 : decode cX1_addTower 8 = .ok (.iconst 0, 1) := by decide +kernel
theorem dX1_addTower_9 : decode cX1_addTower 9 = .ok (.ireturn, 1) := by decide +kernel
theorem dX1_addTower_10 : decode cX1_addTower 10 = .ok (.aload_n 0, 1) := by decide +kernel
theorem dX1_addTower_11 : decode cX1_addTower 11 = .ok (.dup, 1) := by decide +kernel
theorem dX1_addTower_12 : decode cX1_addTower 12 = .ok (.getfield 18, 3) := by decide +kernel
theorem dX1_addTower_15 : decode cX1_addTower 15 = .ok (.iconst 1, 1) := by decide +kernel
theorem dX1_addTower_16 : decode cX1_addTower 16 = .ok (.iadd, 1) := by decide +kernel
theorem dX1_addTower_17 : decode cX1_addTower 17 = .ok (.putfield 18, 3) := by decide +kernel
theorem dX1_addTower_20 : decode cX1_addTower 20 = .ok (.iconst 1, 1) := by decide +kernel
theorem dX1_addTower_21 : decode cX1_addTower 21 = .ok (.ireturn, 1) := by decide +kernel
theorem dX1_towerCount_0 : decode cX1_towerCount 0 = .ok (.aload_n 0, 1) := by decide +kernel
theorem dX1_towerCount_1 : decode cX1_towerCount 1 = .ok (.getfield 18, 3) := by decide +kernel
theorem dX1_towerCount_4 : decode cX1_towerCount 4 = .ok (.ireturn, 1) := by decide +kernel
theorem dX1_houseCount_0 : decode cX1_houseCount 0 = .ok (.aload_n 0, 1) := by decide +kernel
theorem dX1_houseCount_1 : decode cX1_houseCount 1 = .ok (.getfield 22, 3) := by decide +kernel
theorem dX1_houseCount_4 : decode cX1_houseCount 4 = .ok (.ireturn, 1) := by decide +kernel
theorem dX1_isTower_0 : decode cX1_isTower 0 = .ok (.iload_n 1, 1) := by decide +kernel
theorem dX1_isTower_1 : decode cX1_isTower 1 = .ok (.ifCond .lt 15, 3) := by decide +kernel
theorem dX1_isTower_4 : decode cX1_isTower 4 = .ok (.iload_n 1, 1) := by decide +kernel
theorem dX1_isTower_5 : decode cX1_isTower 5 = .ok (.aload_n 0, 1) := by decide +kernel
theorem dX1_isTower_6 : decode cX1_isTower 6 = .ok (.getfield 18, 3) := by decide +kernel
theorem dX1_isTower_9 : decode cX1_isTower 9 = .ok (.if_icmp .ge 7, 3) := by decide +kernel
theorem dX1_isTower_12 : decode cX1_isTower 12 = .ok (.iconst 1, 1) := by decide +kernel
theorem dX1_isTower_13 : decode cX1_isTower 13 = .ok (.goto 4, 3) := by decide +kernel
theorem dX1_isTower_16 : decode cX1_isTower 16 = .ok (.iconst 0, 1) := by decide +kernel
theorem dX1_isTower_17 : decode cX1_isTower 17 = .ok (.ireturn, 1) := by decide +kernel
theorem dX1_isNumber_0 : decode cX1_isNumber 0 = .ok (.iload_n 1, 1) := by decide +kernel
theorem dX1_isNumber_1 : decode cX1_isNumber 1 = .ok (.ifCond .lt 15, 3) := by decide +kernel
theorem dX1_isNumber_4 : decode cX1_isNumber 4 = .ok (.iload_n 1, 1) := by decide +kernel
theorem dX1_isNumber_5 : decode cX1_isNumber 5 = .ok (.aload_n 0, 1) := by decide +kernel
theorem dX1_isNumber_6 : decode cX1_isNumber 6 = .ok (.getfield 22, 3) := by decide +kernel
theorem dX1_isNumber_9 : decode cX1_isNumber 9 = .ok (.if_icmp .ge 7, 3) := by decide +kernel
theorem dX1_isNumber_12 : decode cX1_isNumber 12 = .ok (.iconst 1, 1) := by decide +kernel
theorem dX1_isNumber_13 : decode cX1_isNumber 13 = .ok (.goto 4, 3) := by decide +kernel
theorem dX1_isNumber_16 : decode cX1_isNumber 16 = .ok (.iconst 0, 1) := by decide +kernel
theorem dX1_isNumber_17 : decode cX1_isNumber 17 = .ok (.ireturn, 1) := by decide +kernel
theorem dX1_heightOf_0 : decode cX1_heightOf 0 = .ok (.iload_n 1, 1) := by decide +kernel
theorem dX1_heightOf_1 : decode cX1_heightOf 1 = .ok (.ifCond .lt 21, 3) := by decide +kernel
theorem dX1_heightOf_4 : decode cX1_heightOf 4 = .ok (.iload_n 1, 1) := by decide +kernel
theorem dX1_heightOf_5 : decode cX1_heightOf 5 = .ok (.aload_n 0, 1) := by decide +kernel
theorem dX1_heightOf_6 : decode cX1_heightOf 6 = .ok (.getfield 9, 3) := by decide +kernel
theorem dX1_heightOf_9 : decode cX1_heightOf 9 = .ok (.arraylength, 1) := by decide +kernel
theorem dX1_heightOf_10 : decode cX1_heightOf 10 = .ok (.if_icmp .ge 12, 3) := by decide +kernel
theorem dX1_heightOf_13 : decode cX1_heightOf 13 = .ok (.aload_n 0, 1) := by decide +kernel
theorem dX1_heightOf_14 : decode cX1_heightOf 14 = .ok (.getfield 9, 3) := by decide +kernel
theorem dX1_heightOf_17 : decode cX1_heightOf 17 = .ok (.iload_n 1, 1) := by decide +kernel
theorem dX1_heightOf_18 : decode cX1_heightOf 18 = .ok (.iaload, 1) := by decide +kernel
theorem dX1_heightOf_19 : decode cX1_heightOf 19 = .ok (.goto 4, 3) := by decide +kernel
theorem dX1_heightOf_22 : decode cX1_heightOf 22 = .ok (.iconst 0, 1) := by decide +kernel
theorem dX1_heightOf_23 : decode cX1_heightOf 23 = .ok (.ireturn, 1) := by decide +kernel
theorem dX1_has_0 : decode cX1_has 0 = .ok (.iload_n 1, 1) := by decide +kernel
theorem dX1_has_1 : decode cX1_has 1 = .ok (.ifCond .lt 30, 3) := by decide +kernel
theorem dX1_has_4 : decode cX1_has 4 = .ok (.iload_n 1, 1) := by decide +kernel
theorem dX1_has_5 : decode cX1_has 5 = .ok (.aload_n 0, 1) := by decide +kernel
theorem dX1_has_6 : decode cX1_has 6 = .ok (.getfield 9, 3) := by decide +kernel
theorem dX1_has_9 : decode cX1_has 9 = .ok (.arraylength, 1) := by decide +kernel
theorem dX1_has_10 : decode cX1_has 10 = .ok (.if_icmp .ge 21, 3) := by decide +kernel
theorem dX1_has_13 : decode cX1_has 13 = .ok (.iload_n 2, 1) := by decide +kernel
theorem dX1_has_14 : decode cX1_has 14 = .ok (.ifCond .lt 17, 3) := by decide +kernel
theorem dX1_has_17 : decode cX1_has 17 = .ok (.iload_n 2, 1) := by decide +kernel
theorem dX1_has_18 : decode cX1_has 18 = .ok (.aload_n 0, 1) := by decide +kernel
theorem dX1_has_19 : decode cX1_has 19 = .ok (.getfield 9, 3) := by decide +kernel
theorem dX1_has_22 : decode cX1_has 22 = .ok (.iload_n 1, 1) := by decide +kernel
theorem dX1_has_23 : decode cX1_has 23 = .ok (.iaload, 1) := by decide +kernel
theorem dX1_has_24 : decode cX1_has 24 = .ok (.if_icmp .ge 7, 3) := by decide +kernel
theorem dX1_has_27 : decode cX1_has 27 = .ok (.iconst 1, 1) := by decide +kernel
theorem dX1_has_28 : decode cX1_has 28 = .ok (.goto 4, 3) := by decide +kernel
theorem dX1_has_31 : decode cX1_has 31 = .ok (.iconst 0, 1) := by decide +kernel
theorem dX1_has_32 : decode cX1_has 32 = .ok (.ireturn, 1) := by decide +kernel
theorem dX1_hasRoom_0 : decode cX1_hasRoom 0 = .ok (.aload_n 0, 1) := by decide +kernel
theorem dX1_hasRoom_1 : decode cX1_hasRoom 1 = .ok (.iload_n 1, 1) := by decide +kernel
theorem dX1_hasRoom_2 : decode cX1_hasRoom 2 = .ok (.invokevirtual 25, 3) := by decide +kernel
theorem dX1_hasRoom_5 : decode cX1_hasRoom 5 = .ok (.ifCond .eq 26, 3) := by decide +kernel
theorem dX1_hasRoom_8 : decode cX1_hasRoom 8 = .ok (.aload_n 0, 1) := by decide +kernel
theorem dX1_hasRoom_9 : decode cX1_hasRoom 9 = .ok (.iload_n 1, 1) := by decide +kernel
theorem dX1_hasRoom_10 : decode cX1_hasRoom 10 = .ok (.invokevirtual 29, 3) := by decide +kernel
theorem dX1_hasRoom_13 : decode cX1_hasRoom 13 = .ok (.bipush 6, 2) := by decide +kernel
theorem dX1_hasRoom_15 : decode cX1_hasRoom 15 = .ok (.if_icmp .ge 16, 3) := by decide +kernel
theorem dX1_hasRoom_18 : decode cX1_hasRoom 18 = .ok (.aload_n 0, 1) := by decide +kernel
theorem dX1_hasRoom_19 : decode cX1_hasRoom 19 = .ok (.getfield 22, 3) := by decide +kernel
theorem dX1_hasRoom_22 : decode cX1_hasRoom 22 = .ok (.bipush 12, 2) := by decide +kernel
theorem dX1_hasRoom_24 : decode cX1_hasRoom 24 = .ok (.if_icmp .ge 7, 3) := by decide +kernel
theorem dX1_hasRoom_27 : decode cX1_hasRoom 27 = .ok (.iconst 1, 1) := by decide +kernel
theorem dX1_hasRoom_28 : decode cX1_hasRoom 28 = .ok (.goto 4, 3) := by decide +kernel
theorem dX1_hasRoom_31 : decode cX1_hasRoom 31 = .ok (.iconst 0, 1) := by decide +kernel
theorem dX1_hasRoom_32 : decode cX1_hasRoom 32 = .ok (.ireturn, 1) := by decide +kernel
theorem dX1_kindAt_0 : decode cX1_kindAt 0 = .ok (.aload_n 0, 1) := by decide +kernel
theorem dX1_kindAt_1 : decode cX1_kindAt 1 = .ok (.iload_n 1, 1) := by decide +kernel
theorem dX1_kindAt_2 : decode cX1_kindAt 2 = .ok (.iload_n 2, 1) := by decide +kernel
theorem dX1_kindAt_3 : decode cX1_kindAt 3 = .ok (.invokevirtual 33, 3) := by decide +kernel
theorem dX1_kindAt_6 : decode cX1_kindAt 6 = .ok (.ifCond .eq 22, 3) := by decide +kernel
theorem dX1_kindAt_9 : decode cX1_kindAt 9 = .ok (.aload_n 0, 1) := by decide +kernel
theorem dX1_kindAt_10 : decode cX1_kindAt 10 = .ok (.getfield 15, 3) := by decide +kernel
theorem dX1_kindAt_13 : decode cX1_kindAt 13 = .ok (.iload_n 1, 1) := by decide +kernel
theorem dX1_kindAt_14 : decode cX1_kindAt 14 = .ok (.bipush 6, 2) := by decide +kernel
theorem dX1_kindAt_16 : decode cX1_kindAt 16 = .ok (.imul, 1) := by decide +kernel
theorem dX1_kindAt_17 : decode cX1_kindAt 17 = .ok (.iload_n 2, 1) := by decide +kernel
theorem dX1_kindAt_18 : decode cX1_kindAt 18 = .ok (.iadd, 1) := by decide +kernel
theorem dX1_kindAt_19 : decode cX1_kindAt 19 = .ok (.iaload, 1) := by decide +kernel
theorem dX1_kindAt_20 : decode cX1_kindAt 20 = .ok (.iconst 1, 1) := by decide +kernel
theorem dX1_kindAt_21 : decode cX1_kindAt 21 = .ok (.isub, 1) := by decide +kernel
theorem dX1_kindAt_22 : decode cX1_kindAt 22 = .ok (.bipush 10, 2) := by decide +kernel
theorem dX1_kindAt_24 : decode cX1_kindAt 24 = .ok (.idiv, 1) := by decide +kernel
theorem dX1_kindAt_25 : decode cX1_kindAt 25 = .ok (.goto 4, 3) := by decide +kernel
theorem dX1_kindAt_28 : decode cX1_kindAt 28 = .ok (.iconst (-1), 1) := by decide +kernel
theorem dX1_kindAt_29 : decode cX1_kindAt 29 = .ok (.ireturn, 1) := by decide +kernel
theorem dX1_borneAt_0 : decode cX1_borneAt 0 = .ok (.aload_n 0, 1) := by decide +kernel
theorem dX1_borneAt_1 : decode cX1_borneAt 1 = .ok (.iload_n 1, 1) := by decide +kernel
theorem dX1_borneAt_2 : decode cX1_borneAt 2 = .ok (.iload_n 2, 1) := by decide +kernel
theorem dX1_borneAt_3 : decode cX1_borneAt 3 = .ok (.invokevirtual 33, 3) := by decide +kernel
theorem dX1_borneAt_6 : decode cX1_borneAt 6 = .ok (.ifCond .eq 22, 3) := by decide +kernel
theorem dX1_borneAt_9 : decode cX1_borneAt 9 = .ok (.aload_n 0, 1) := by decide +kernel
theorem dX1_borneAt_10 : decode cX1_borneAt 10 = .ok (.getfield 15, 3) := by decide +kernel
theorem dX1_borneAt_13 : decode cX1_borneAt 13 = .ok (.iload_n 1, 1) := by decide +kernel
theorem dX1_borneAt_14 : decode cX1_borneAt 14 = .ok (.bipush 6, 2) := by decide +kernel
theorem dX1_borneAt_16 : decode cX1_borneAt 16 = .ok (.imul, 1) := by decide +kernel
theorem dX1_borneAt_17 : decode cX1_borneAt 17 = .ok (.iload_n 2, 1) := by decide +kernel
theorem dX1_borneAt_18 : decode cX1_borneAt 18 = .ok (.iadd, 1) := by decide +kernel
theorem dX1_borneAt_19 : decode cX1_borneAt 19 = .ok (.iaload, 1) := by decide +kernel
theorem dX1_borneAt_20 : decode cX1_borneAt 20 = .ok (.iconst 1, 1) := by decide +kernel
theorem dX1_borneAt_21 : decode cX1_borneAt 21 = .ok (.isub, 1) := by decide +kernel
theorem dX1_borneAt_22 : decode cX1_borneAt 22 = .ok (.bipush 10, 2) := by decide +kernel
theorem dX1_borneAt_24 : decode cX1_borneAt 24 = .ok (.irem, 1) := by decide +kernel
theorem dX1_borneAt_25 : decode cX1_borneAt 25 = .ok (.goto 4, 3) := by decide +kernel
theorem dX1_borneAt_28 : decode cX1_borneAt 28 = .ok (.iconst 0, 1) := by decide +kernel
theorem dX1_borneAt_29 : decode cX1_borneAt 29 = .ok (.ireturn, 1) := by decide +kernel
theorem dX1_change_0 : decode cX1_change 0 = .ok (.aload_n 0, 1) := by decide +kernel
theorem dX1_change_1 : decode cX1_change 1 = .ok (.iload_n 1, 1) := by decide +kernel
theorem dX1_change_2 : decode cX1_change 2 = .ok (.iload_n 2, 1) := by decide +kernel
theorem dX1_change_3 : decode cX1_change 3 = .ok (.invokevirtual 33, 3) := by decide +kernel
theorem dX1_change_6 : decode cX1_change 6 = .ok (.ifCond .eq 23, 3) := by decide +kernel
theorem dX1_change_9 : decode cX1_change 9 = .ok (.aload_n 0, 1) := by decide +kernel
theorem dX1_change_10 : decode cX1_change 10 = .ok (.getfield 15, 3) := by decide +kernel
theorem dX1_change_13 : decode cX1_change 13 = .ok (.iload_n 1, 1) := by decide +kernel
theorem dX1_change_14 : decode cX1_change 14 = .ok (.bipush 6, 2) := by decide +kernel
theorem dX1_change_16 : decode cX1_change 16 = .ok (.imul, 1) := by decide +kernel
theorem dX1_change_17 : decode cX1_change 17 = .ok (.iload_n 2, 1) := by decide +kernel
theorem dX1_change_18 : decode cX1_change 18 = .ok (.iadd, 1) := by decide +kernel
theorem dX1_change_19 : decode cX1_change 19 = .ok (.bipush 10, 2) := by decide +kernel
theorem dX1_change_21 : decode cX1_change 21 = .ok (.iload_n 3, 1) := by decide +kernel
theorem dX1_change_22 : decode cX1_change 22 = .ok (.imul, 1) := by decide +kernel
theorem dX1_change_23 : decode cX1_change 23 = .ok (.iload 4, 2) := by decide +kernel
theorem dX1_change_25 : decode cX1_change 25 = .ok (.iadd, 1) := by decide +kernel
theorem dX1_change_26 : decode cX1_change 26 = .ok (.iconst 1, 1) := by decide +kernel
theorem dX1_change_27 : decode cX1_change 27 = .ok (.iadd, 1) := by decide +kernel
theorem dX1_change_28 : decode cX1_change 28 = .ok (.iastore, 1) := by decide +kernel
theorem dX1_change_29 : decode cX1_change 29 = .ok (.return_, 1) := by decide +kernel
theorem dX1_push_0 : decode cX1_push 0 = .ok (.aload_n 0, 1) := by decide +kernel
theorem dX1_push_1 : decode cX1_push 1 = .ok (.iload_n 1, 1) := by decide +kernel
theorem dX1_push_2 : decode cX1_push 2 = .ok (.invokevirtual 37, 3) := by decide +kernel
theorem dX1_push_5 : decode cX1_push 5 = .ok (.ifCond .ne 5, 3) := by decide +kernel
theorem dX1_push_8 : decode cX1_push 8 = .ok (.iconst 0, 1) := by decide +kernel
theorem dX1_push_9 : decode cX1_push 9 = .ok (.ireturn, 1) := by decide +kernel
theorem dX1_push_10 : decode cX1_push 10 = .ok (.aload_n 0, 1) := by decide +kernel
theorem dX1_push_11 : decode cX1_push 11 = .ok (.getfield 9, 3) := by decide +kernel
theorem dX1_push_14 : decode cX1_push 14 = .ok (.iload_n 1, 1) := by decide +kernel
theorem dX1_push_15 : decode cX1_push 15 = .ok (.dup2, 1) := by decide +kernel
theorem dX1_push_16 : decode cX1_push 16 = .ok (.iaload, 1) := by decide +kernel
theorem dX1_push_17 : decode cX1_push 17 = .ok (.iconst 1, 1) := by decide +kernel
theorem dX1_push_18 : decode cX1_push 18 = .ok (.iadd, 1) := by decide +kernel
theorem dX1_push_19 : decode cX1_push 19 = .ok (.iastore, 1) := by decide +kernel
theorem dX1_push_20 : decode cX1_push 20 = .ok (.aload_n 0, 1) := by decide +kernel
theorem dX1_push_21 : decode cX1_push 21 = .ok (.dup, 1) := by decide +kernel
theorem dX1_push_22 : decode cX1_push 22 = .ok (.getfield 22, 3) := by decide +kernel
theorem dX1_push_25 : decode cX1_push 25 = .ok (.iconst 1, 1) := by decide +kernel
theorem dX1_push_26 : decode cX1_push 26 = .ok (.iadd, 1) := by decide +kernel
theorem dX1_push_27 : decode cX1_push 27 = .ok (.putfield 22, 3) := by decide +kernel
theorem dX1_push_30 : decode cX1_push 30 = .ok (.aload_n 0, 1) := by decide +kernel
theorem dX1_push_31 : decode cX1_push 31 = .ok (.iload_n 1, 1) := by decide +kernel
theorem dX1_push_32 : decode cX1_push 32 = .ok (.aload_n 0, 1) := by decide +kernel
theorem dX1_push_33 : decode cX1_push 33 = .ok (.getfield 9, 3) := by decide +kernel
theorem dX1_push_36 : decode cX1_push 36 = .ok (.iload_n 1, 1) := by decide +kernel
theorem dX1_push_37 : decode cX1_push 37 = .ok (.iaload, 1) := by decide +kernel
theorem dX1_push_38 : decode cX1_push 38 = .ok (.iconst 1, 1) := by decide +kernel
theorem dX1_push_39 : decode cX1_push 39 = .ok (.isub, 1) := by decide +kernel
theorem dX1_push_40 : decode cX1_push 40 = .ok (.iload_n 2, 1) := by decide +kernel
theorem dX1_push_41 : decode cX1_push 41 = .ok (.iload_n 3, 1) := by decide +kernel
theorem dX1_push_42 : decode cX1_push 42 = .ok (.invokevirtual 40, 3) := by decide +kernel
theorem dX1_push_45 : decode cX1_push 45 = .ok (.iconst 1, 1) := by decide +kernel
theorem dX1_push_46 : decode cX1_push 46 = .ok (.ireturn, 1) := by decide +kernel
theorem dX1_pop_0 : decode cX1_pop 0 = .ok (.aload_n 0, 1) := by decide +kernel
theorem dX1_pop_1 : decode cX1_pop 1 = .ok (.iload_n 1, 1) := by decide +kernel
theorem dX1_pop_2 : decode cX1_pop 2 = .ok (.aload_n 0, 1) := by decide +kernel
theorem dX1_pop_3 : decode cX1_pop 3 = .ok (.iload_n 1, 1) := by decide +kernel
theorem dX1_pop_4 : decode cX1_pop 4 = .ok (.invokevirtual 29, 3) := by decide +kernel
theorem dX1_pop_7 : decode cX1_pop 7 = .ok (.iconst 1, 1) := by decide +kernel
theorem dX1_pop_8 : decode cX1_pop 8 = .ok (.isub, 1) := by decide +kernel
theorem dX1_pop_9 : decode cX1_pop 9 = .ok (.invokevirtual 44, 3) := by decide +kernel
theorem dX1_pop_12 : decode cX1_pop 12 = .ok (.return_, 1) := by decide +kernel
theorem dX1_remove_0 : decode cX1_remove 0 = .ok (.aload_n 0, 1) := by decide +kernel
theorem dX1_remove_1 : decode cX1_remove 1 = .ok (.iload_n 1, 1) := by decide +kernel
theorem dX1_remove_2 : decode cX1_remove 2 = .ok (.iload_n 2, 1) := by decide +kernel
theorem dX1_remove_3 : decode cX1_remove 3 = .ok (.invokevirtual 33, 3) := by decide +kernel
theorem dX1_remove_6 : decode cX1_remove 6 = .ok (.ifCond .ne 4, 3) := by decide +kernel
theorem dX1_remove_9 : decode cX1_remove 9 = .ok (.return_, 1) := by decide +kernel
theorem dX1_remove_10 : decode cX1_remove 10 = .ok (.aload_n 0, 1) := by decide +kernel
theorem dX1_remove_11 : decode cX1_remove 11 = .ok (.getfield 9, 3) := by decide +kernel
theorem dX1_remove_14 : decode cX1_remove 14 = .ok (.iload_n 1, 1) := by decide +kernel
theorem dX1_remove_15 : decode cX1_remove 15 = .ok (.iaload, 1) := by decide +kernel
theorem dX1_remove_16 : decode cX1_remove 16 = .ok (.iconst 1, 1) := by decide +kernel
theorem dX1_remove_17 : decode cX1_remove 17 = .ok (.isub, 1) := by decide +kernel
theorem dX1_remove_18 : decode cX1_remove 18 = .ok (.istore_n 3, 1) := by decide +kernel
theorem dX1_remove_19 : decode cX1_remove 19 = .ok (.iload_n 2, 1) := by decide +kernel
theorem dX1_remove_20 : decode cX1_remove 20 = .ok (.istore 4, 2) := by decide +kernel
theorem dX1_remove_22 : decode cX1_remove 22 = .ok (.iload 4, 2) := by decide +kernel
theorem dX1_remove_24 : decode cX1_remove 24 = .ok (.iload_n 3, 1) := by decide +kernel
theorem dX1_remove_25 : decode cX1_remove 25 = .ok (.if_icmp .ge 34, 3) := by decide +kernel
theorem dX1_remove_28 : decode cX1_remove 28 = .ok (.aload_n 0, 1) := by decide +kernel
theorem dX1_remove_29 : decode cX1_remove 29 = .ok (.iload_n 1, 1) := by decide +kernel
theorem dX1_remove_30 : decode cX1_remove 30 = .ok (.iload 4, 2) := by decide +kernel
theorem dX1_remove_32 : decode cX1_remove 32 = .ok (.aload_n 0, 1) := by decide +kernel
theorem dX1_remove_33 : decode cX1_remove 33 = .ok (.iload_n 1, 1) := by decide +kernel
theorem dX1_remove_34 : decode cX1_remove 34 = .ok (.iload 4, 2) := by decide +kernel
theorem dX1_remove_36 : decode cX1_remove 36 = .ok (.iconst 1, 1) := by decide +kernel
theorem dX1_remove_37 : decode cX1_remove 37 = .ok (.iadd, 1) := by decide +kernel
theorem dX1_remove_38 : decode cX1_remove 38 = .ok (.invokevirtual 48, 3) := by decide +kernel
theorem dX1_remove_41 : decode cX1_remove 41 = .ok (.aload_n 0, 1) := by decide +kernel
theorem dX1_remove_42 : decode cX1_remove 42 = .ok (.iload_n 1, 1) := by decide +kernel
theorem dX1_remove_43 : decode cX1_remove 43 = .ok (.iload 4, 2) := by decide +kernel
theorem dX1_remove_45 : decode cX1_remove 45 = .ok (.iconst 1, 1) := by decide +kernel
theorem dX1_remove_46 : decode cX1_remove 46 = .ok (.iadd, 1) := by decide +kernel
theorem dX1_remove_47 : decode cX1_remove 47 = .ok (.invokevirtual 52, 3) := by decide +kernel
theorem dX1_remove_50 : decode cX1_remove 50 = .ok (.invokevirtual 40, 3) := by decide +kernel
theorem dX1_remove_53 : decode cX1_remove 53 = .ok (.iinc 4 1, 3) := by decide +kernel
theorem dX1_remove_56 : decode cX1_remove 56 = .ok (.goto (-34), 3) := by decide +kernel
theorem dX1_remove_59 : decode cX1_remove 59 = .ok (.aload_n 0, 1) := by decide +kernel
theorem dX1_remove_60 : decode cX1_remove 60 = .ok (.getfield 15, 3) := by decide +kernel
theorem dX1_remove_63 : decode cX1_remove 63 = .ok (.iload_n 1, 1) := by decide +kernel
theorem dX1_remove_64 : decode cX1_remove 64 = .ok (.bipush 6, 2) := by decide +kernel
theorem dX1_remove_66 : decode cX1_remove 66 = .ok (.imul, 1) := by decide +kernel
theorem dX1_remove_67 : decode cX1_remove 67 = .ok (.iload_n 3, 1) := by decide +kernel
theorem dX1_remove_68 : decode cX1_remove 68 = .ok (.iadd, 1) := by decide +kernel
theorem dX1_remove_69 : decode cX1_remove 69 = .ok (.iconst 0, 1) := by decide +kernel
theorem dX1_remove_70 : decode cX1_remove 70 = .ok (.iastore, 1) := by decide +kernel
theorem dX1_remove_71 : decode cX1_remove 71 = .ok (.aload_n 0, 1) := by decide +kernel
theorem dX1_remove_72 : decode cX1_remove 72 = .ok (.getfield 9, 3) := by decide +kernel
theorem dX1_remove_75 : decode cX1_remove 75 = .ok (.iload_n 1, 1) := by decide +kernel
theorem dX1_remove_76 : decode cX1_remove 76 = .ok (.dup2, 1) := by decide +kernel
theorem dX1_remove_77 : decode cX1_remove 77 = .ok (.iaload, 1) := by decide +kernel
theorem dX1_remove_78 : decode cX1_remove 78 = .ok (.iconst 1, 1) := by decide +kernel
theorem dX1_remove_79 : decode cX1_remove 79 = .ok (.isub, 1) := by decide +kernel
theorem dX1_remove_80 : decode cX1_remove 80 = .ok (.iastore, 1) := by decide +kernel
theorem dX1_remove_81 : decode cX1_remove 81 = .ok (.aload_n 0, 1) := by decide +kernel
theorem dX1_remove_82 : decode cX1_remove 82 = .ok (.dup, 1) := by decide +kernel
theorem dX1_remove_83 : decode cX1_remove 83 = .ok (.getfield 22, 3) := by decide +kernel
theorem dX1_remove_86 : decode cX1_remove 86 = .ok (.iconst 1, 1) := by decide +kernel
theorem dX1_remove_87 : decode cX1_remove 87 = .ok (.isub, 1) := by decide +kernel
theorem dX1_remove_88 : decode cX1_remove 88 = .ok (.putfield 22, 3) := by decide +kernel
theorem dX1_remove_91 : decode cX1_remove 91 = .ok (.return_, 1) := by decide +kernel
theorem dX1_takeFrom_0 : decode cX1_takeFrom 0 = .ok (.aload_n 0, 1) := by decide +kernel
theorem dX1_takeFrom_1 : decode cX1_takeFrom 1 = .ok (.aload_n 1, 1) := by decide +kernel
theorem dX1_takeFrom_2 : decode cX1_takeFrom 2 = .ok (.iconst 0, 1) := by decide +kernel
theorem dX1_takeFrom_3 : decode cX1_takeFrom 3 = .ok (.invokevirtual 55, 3) := by decide +kernel
theorem dX1_takeFrom_6 : decode cX1_takeFrom 6 = .ok (.return_, 1) := by decide +kernel
theorem dX1_takeWithout_0 : decode cX1_takeWithout 0 = .ok (.aload_n 0, 1) := by decide +kernel
theorem dX1_takeWithout_1 : decode cX1_takeWithout 1 = .ok (.invokevirtual 59, 3) := by decide +kernel
theorem dX1_takeWithout_4 : decode cX1_takeWithout 4 = .ok (.iconst 0, 1) := by decide +kernel
theorem dX1_takeWithout_5 : decode cX1_takeWithout 5 = .ok (.istore_n 3, 1) := by decide +kernel
theorem dX1_takeWithout_6 : decode cX1_takeWithout 6 = .ok (.iconst 0, 1) := by decide +kernel
theorem dX1_takeWithout_7 : decode cX1_takeWithout 7 = .ok (.istore 4, 2) := by decide +kernel
theorem dX1_takeWithout_9 : decode cX1_takeWithout 9 = .ok (.iload 4, 2) := by decide +kernel
theorem dX1_takeWithout_11 : decode cX1_takeWithout 11 = .ok (.aload_n 1, 1) := by decide +kernel
theorem dX1_takeWithout_12 : decode cX1_takeWithout 12 = .ok (.getfield 18, 3) := by decide +kernel
theorem dX1_takeWithout_15 : decode cX1_takeWithout 15 = .ok (.if_icmp .ge 68, 3) := by decide +kernel
theorem dX1_takeWithout_18 : decode cX1_takeWithout 18 = .ok (.aload_n 0, 1) := by decide +kernel
theorem dX1_takeWithout_19 : decode cX1_takeWithout 19 = .ok (.invokevirtual 62, 3) := by decide +kernel
theorem dX1_takeWithout_22 : decode cX1_takeWithout 22 = .ok (.pop, 1) := by decide +kernel
theorem dX1_takeWithout_23 : decode cX1_takeWithout 23 = .ok (.iconst 0, 1) := by decide +kernel
theorem dX1_takeWithout_24 : decode cX1_takeWithout 24 = .ok (.istore 5, 2) := by decide +kernel
theorem dX1_takeWithout_26 : decode cX1_takeWithout 26 = .ok (.iload 5, 2) := by decide +kernel
theorem dX1_takeWithout_28 : decode cX1_takeWithout 28 = .ok (.aload_n 1, 1) := by decide +kernel
theorem dX1_takeWithout_29 : decode cX1_takeWithout 29 = .ok (.iload 4, 2) := by decide +kernel
theorem dX1_takeWithout_31 : decode cX1_takeWithout 31 = .ok (.invokevirtual 29, 3) := by decide +kernel
theorem dX1_takeWithout_34 : decode cX1_takeWithout 34 = .ok (.if_icmp .ge 43, 3) := by decide +kernel
theorem dX1_takeWithout_37 : decode cX1_takeWithout 37 = .ok (.iload_n 2, 1) := by decide +kernel
theorem dX1_takeWithout_38 : decode cX1_takeWithout 38 = .ok (.iload_n 3, 1) := by decide +kernel
theorem dX1_takeWithout_39 : decode cX1_takeWithout 39 = .ok (.ishr, 1) := by decide +kernel
theorem dX1_takeWithout_40 : decode cX1_takeWithout 40 = .ok (.iconst 1, 1) := by decide +kernel
theorem dX1_takeWithout_41 : decode cX1_takeWithout 41 = .ok (.iand, 1) := by decide +kernel
theorem dX1_takeWithout_42 : decode cX1_takeWithout 42 = .ok (.ifCond .ne 26, 3) := by decide +kernel
theorem dX1_takeWithout_45 : decode cX1_takeWithout 45 = .ok (.aload_n 0, 1) := by decide +kernel
theorem dX1_takeWithout_46 : decode cX1_takeWithout 46 = .ok (.iload 4, 2) := by decide +kernel
theorem dX1_takeWithout_48 : decode cX1_takeWithout 48 = .ok (.aload_n 1, 1) := by decide +kernel
theorem dX1_takeWithout_49 : decode cX1_takeWithout 49 = .ok (.iload 4, 2) := by decide +kernel
theorem dX1_takeWithout_51 : decode cX1_takeWithout 51 = .ok (.iload 5, 2) := by decide +kernel
theorem dX1_takeWithout_53 : decode cX1_takeWithout 53 = .ok (.invokevirtual 48, 3) := by decide +kernel
theorem dX1_takeWithout_56 : decode cX1_takeWithout 56 = .ok (.aload_n 1, 1) := by decide +kernel
theorem dX1_takeWithout_57 : decode cX1_takeWithout 57 = .ok (.iload 4, 2) := by decide +kernel
theorem dX1_takeWithout_59 : decode cX1_takeWithout 59 = .ok (.iload 5, 2) := by decide +kernel
theorem dX1_takeWithout_61 : decode cX1_takeWithout 61 = .ok (.invokevirtual 52, 3) := by decide +kernel
theorem dX1_takeWithout_64 : decode cX1_takeWithout 64 = .ok (.invokevirtual 66, 3) := by decide +kernel
theorem dX1_takeWithout_67 : decode cX1_takeWithout 67 = .ok (.pop, 1) := by decide +kernel
theorem dX1_takeWithout_68 : decode cX1_takeWithout 68 = .ok (.iinc 3 1, 3) := by decide +kernel
theorem dX1_takeWithout_71 : decode cX1_takeWithout 71 = .ok (.iinc 5 1, 3) := by decide +kernel
theorem dX1_takeWithout_74 : decode cX1_takeWithout 74 = .ok (.goto (-48), 3) := by decide +kernel
theorem dX1_takeWithout_77 : decode cX1_takeWithout 77 = .ok (.iinc 4 1, 3) := by decide +kernel
theorem dX1_takeWithout_80 : decode cX1_takeWithout 80 = .ok (.goto (-71), 3) := by decide +kernel
theorem dX1_takeWithout_83 : decode cX1_takeWithout 83 = .ok (.return_, 1) := by decide +kernel
theorem dX1_saveTo_0 : decode cX1_saveTo 0 = .ok (.iload_n 2, 1) := by decide +kernel
theorem dX1_saveTo_1 : decode cX1_saveTo 1 = .ok (.ifCond .lt 24, 3) := by decide +kernel
theorem dX1_saveTo_4 : decode cX1_saveTo 4 = .ok (.iload_n 2, 1) := by decide +kernel
theorem dX1_saveTo_5 : decode cX1_saveTo 5 = .ok (.aload_n 1, 1) := by decide +kernel
theorem dX1_saveTo_6 : decode cX1_saveTo 6 = .ok (.arraylength, 1) := by decide +kernel
theorem dX1_saveTo_7 : decode cX1_saveTo 7 = .ok (.bipush 30, 2) := by decide +kernel
theorem dX1_saveTo_9 : decode cX1_saveTo 9 = .ok (.isub, 1) := by decide +kernel
theorem dX1_saveTo_10 : decode cX1_saveTo 10 = .ok (.if_icmp .gt 15, 3) := by decide +kernel
theorem dX1_saveTo_13 : decode cX1_saveTo 13 = .ok (.aload_n 0, 1) := by decide +kernel
theorem dX1_saveTo_14 : decode cX1_saveTo 14 = .ok (.getfield 15, 3) := by decide +kernel
theorem dX1_saveTo_17 : decode cX1_saveTo 17 = .ok (.iconst 0, 1) := by decide +kernel
theorem dX1_saveTo_18 : decode cX1_saveTo 18 = .ok (.aload_n 1, 1) := by decide +kernel
theorem dX1_saveTo_19 : decode cX1_saveTo 19 = .ok (.iload_n 2, 1) := by decide +kernel
theorem dX1_saveTo_20 : decode cX1_saveTo 20 = .ok (.bipush 30, 2) := by decide +kernel
theorem dX1_saveTo_22 : decode cX1_saveTo 22 = .ok (.invokestatic 70, 3) := by decide +kernel
theorem dX1_saveTo_25 : decode cX1_saveTo 25 = .ok (.return_, 1) := by decide +kernel
theorem dX1_loadFrom_0 : decode cX1_loadFrom 0 = .ok (.iload_n 2, 1) := by decide +kernel
theorem dX1_loadFrom_1 : decode cX1_loadFrom 1 = .ok (.ifCond .lt 12, 3) := by decide +kernel
theorem dX1_loadFrom_4 : decode cX1_loadFrom 4 = .ok (.iload_n 2, 1) := by decide +kernel
theorem dX1_loadFrom_5 : decode cX1_loadFrom 5 = .ok (.aload_n 1, 1) := by decide +kernel
theorem dX1_loadFrom_6 : decode cX1_loadFrom 6 = .ok (.arraylength, 1) := by decide +kernel
theorem dX1_loadFrom_7 : decode cX1_loadFrom 7 = .ok (.bipush 30, 2) := by decide +kernel
theorem dX1_loadFrom_9 : decode cX1_loadFrom 9 = .ok (.isub, 1) := by decide +kernel
theorem dX1_loadFrom_10 : decode cX1_loadFrom 10 = .ok (.if_icmp .le 4, 3) := by decide +kernel
theorem dX1_loadFrom_13 : decode cX1_loadFrom 13 = .ok (.return_, 1) := by decide +kernel
theorem dX1_loadFrom_14 : decode cX1_loadFrom 14 = .ok (.aload_n 1, 1) := by decide +kernel
theorem dX1_loadFrom_15 : decode cX1_loadFrom 15 = .ok (.iload_n 2, 1) := by decide +kernel
theorem dX1_loadFrom_16 : decode cX1_loadFrom 16 = .ok (.aload_n 0, 1) := by decide +kernel
theorem dX1_loadFrom_17 : decode cX1_loadFrom 17 = .ok (.getfield 15, 3) := by decide +kernel
theorem dX1_loadFrom_20 : decode cX1_loadFrom 20 = .ok (.iconst 0, 1) := by decide +kernel
theorem dX1_loadFrom_21 : decode cX1_loadFrom 21 = .ok (.bipush 30, 2) := by decide +kernel
theorem dX1_loadFrom_23 : decode cX1_loadFrom 23 = .ok (.invokestatic 70, 3) := by decide +kernel
theorem dX1_loadFrom_26 : decode cX1_loadFrom 26 = .ok (.aload_n 0, 1) := by decide +kernel
theorem dX1_loadFrom_27 : decode cX1_loadFrom 27 = .ok (.iconst 0, 1) := by decide +kernel
theorem dX1_loadFrom_28 : decode cX1_loadFrom 28 = .ok (.putfield 22, 3) := by decide +kernel
theorem dX1_loadFrom_31 : decode cX1_loadFrom 31 = .ok (.iconst 0, 1) := by decide +kernel
theorem dX1_loadFrom_32 : decode cX1_loadFrom 32 = .ok (.istore_n 3, 1) := by decide +kernel
theorem dX1_loadFrom_33 : decode cX1_loadFrom 33 = .ok (.iload_n 3, 1) := by decide +kernel
theorem dX1_loadFrom_34 : decode cX1_loadFrom 34 = .ok (.aload_n 0, 1) := by decide +kernel
theorem dX1_loadFrom_35 : decode cX1_loadFrom 35 = .ok (.getfield 9, 3) := by decide +kernel
theorem dX1_loadFrom_38 : decode cX1_loadFrom 38 = .ok (.arraylength, 1) := by decide +kernel
theorem dX1_loadFrom_39 : decode cX1_loadFrom 39 = .ok (.if_icmp .ge 35, 3) := by decide +kernel
theorem dX1_loadFrom_42 : decode cX1_loadFrom 42 = .ok (.aload_n 0, 1) := by decide +kernel
theorem dX1_loadFrom_43 : decode cX1_loadFrom 43 = .ok (.getfield 9, 3) := by decide +kernel
theorem dX1_loadFrom_46 : decode cX1_loadFrom 46 = .ok (.iload_n 3, 1) := by decide +kernel
theorem dX1_loadFrom_47 : decode cX1_loadFrom 47 = .ok (.aload_n 0, 1) := by decide +kernel
theorem dX1_loadFrom_48 : decode cX1_loadFrom 48 = .ok (.iload_n 3, 1) := by decide +kernel
theorem dX1_loadFrom_49 : decode cX1_loadFrom 49 = .ok (.invokevirtual 76, 3) := by decide +kernel
theorem dX1_loadFrom_52 : decode cX1_loadFrom 52 = .ok (.iastore, 1) := by decide +kernel
theorem dX1_loadFrom_53 : decode cX1_loadFrom 53 = .ok (.aload_n 0, 1) := by decide +kernel
theorem dX1_loadFrom_54 : decode cX1_loadFrom 54 = .ok (.dup, 1) := by decide +kernel
theorem dX1_loadFrom_55 : decode cX1_loadFrom 55 = .ok (.getfield 22, 3) := by decide +kernel
theorem dX1_loadFrom_58 : decode cX1_loadFrom 58 = .ok (.aload_n 0, 1) := by decide +kernel
theorem dX1_loadFrom_59 : decode cX1_loadFrom 59 = .ok (.getfield 9, 3) := by decide +kernel
theorem dX1_loadFrom_62 : decode cX1_loadFrom 62 = .ok (.iload_n 3, 1) := by decide +kernel
theorem dX1_loadFrom_63 : decode cX1_loadFrom 63 = .ok (.iaload, 1) := by decide +kernel
theorem dX1_loadFrom_64 : decode cX1_loadFrom 64 = .ok (.iadd, 1) := by decide +kernel
theorem dX1_loadFrom_65 : decode cX1_loadFrom 65 = .ok (.putfield 22, 3) := by decide +kernel
theorem dX1_loadFrom_68 : decode cX1_loadFrom 68 = .ok (.iinc 3 1, 3) := by decide +kernel
theorem dX1_loadFrom_71 : decode cX1_loadFrom 71 = .ok (.goto (-38), 3) := by decide +kernel
theorem dX1_loadFrom_74 : decode cX1_loadFrom 74 = .ok (.return_, 1) := by decide +kernel
theorem dX1_housesIn_0 : decode cX1_housesIn 0 = .ok (.iconst 0, 1) := by decide +kernel
theorem dX1_housesIn_1 : decode cX1_housesIn 1 = .ok (.istore_n 2, 1) := by decide +kernel
theorem dX1_housesIn_2 : decode cX1_housesIn 2 = .ok (.iconst 0, 1) := by decide +kernel
theorem dX1_housesIn_3 : decode cX1_housesIn 3 = .ok (.istore_n 3, 1) := by decide +kernel
theorem dX1_housesIn_4 : decode cX1_housesIn 4 = .ok (.iload_n 3, 1) := by decide +kernel
theorem dX1_housesIn_5 : decode cX1_housesIn 5 = .ok (.bipush 6, 2) := by decide +kernel
theorem dX1_housesIn_7 : decode cX1_housesIn 7 = .ok (.if_icmp .ge 45, 3) := by decide +kernel
theorem dX1_housesIn_10 : decode cX1_housesIn 10 = .ok (.iload_n 1, 1) := by decide +kernel
theorem dX1_housesIn_11 : decode cX1_housesIn 11 = .ok (.bipush 6, 2) := by decide +kernel
theorem dX1_housesIn_13 : decode cX1_housesIn 13 = .ok (.imul, 1) := by decide +kernel
theorem dX1_housesIn_14 : decode cX1_housesIn 14 = .ok (.iload_n 3, 1) := by decide +kernel
theorem dX1_housesIn_15 : decode cX1_housesIn 15 = .ok (.iadd, 1) := by decide +kernel
theorem dX1_housesIn_16 : decode cX1_housesIn 16 = .ok (.istore 4, 2) := by decide +kernel
theorem dX1_housesIn_18 : decode cX1_housesIn 18 = .ok (.iload 4, 2) := by decide +kernel
theorem dX1_housesIn_20 : decode cX1_housesIn 20 = .ok (.ifCond .lt 26, 3) := by decide +kernel
theorem dX1_housesIn_23 : decode cX1_housesIn 23 = .ok (.iload 4, 2) := by decide +kernel
theorem dX1_housesIn_25 : decode cX1_housesIn 25 = .ok (.aload_n 0, 1) := by decide +kernel
theorem dX1_housesIn_26 : decode cX1_housesIn 26 = .ok (.getfield 15, 3) := by decide +kernel
theorem dX1_housesIn_29 : decode cX1_housesIn 29 = .ok (.arraylength, 1) := by decide +kernel
theorem dX1_housesIn_30 : decode cX1_housesIn 30 = .ok (.if_icmp .ge 16, 3) := by decide +kernel
theorem dX1_housesIn_33 : decode cX1_housesIn 33 = .ok (.aload_n 0, 1) := by decide +kernel
theorem dX1_housesIn_34 : decode cX1_housesIn 34 = .ok (.getfield 15, 3) := by decide +kernel
theorem dX1_housesIn_37 : decode cX1_housesIn 37 = .ok (.iload 4, 2) := by decide +kernel
theorem dX1_housesIn_39 : decode cX1_housesIn 39 = .ok (.iaload, 1) := by decide +kernel
theorem dX1_housesIn_40 : decode cX1_housesIn 40 = .ok (.ifCond .eq 6, 3) := by decide +kernel
theorem dX1_housesIn_43 : decode cX1_housesIn 43 = .ok (.iinc 2 1, 3) := by decide +kernel
theorem dX1_housesIn_46 : decode cX1_housesIn 46 = .ok (.iinc 3 1, 3) := by decide +kernel
theorem dX1_housesIn_49 : decode cX1_housesIn 49 = .ok (.goto (-45), 3) := by decide +kernel
theorem dX1_housesIn_52 : decode cX1_housesIn 52 = .ok (.iload_n 2, 1) := by decide +kernel
theorem dX1_housesIn_53 : decode cX1_housesIn 53 = .ok (.ireturn, 1) := by decide +kernel
theorem dX1_numberOf_0 : decode cX1_numberOf 0 = .ok (.iload_n 2, 1) := by decide +kernel
theorem dX1_numberOf_1 : decode cX1_numberOf 1 = .ok (.istore_n 3, 1) := by decide +kernel
theorem dX1_numberOf_2 : decode cX1_numberOf 2 = .ok (.iconst 0, 1) := by decide +kernel
theorem dX1_numberOf_3 : decode cX1_numberOf 3 = .ok (.istore 4, 2) := by decide +kernel
theorem dX1_numberOf_5 : decode cX1_numberOf 5 = .ok (.iload 4, 2) := by decide +kernel
theorem dX1_numberOf_7 : decode cX1_numberOf 7 = .ok (.iload_n 1, 1) := by decide +kernel
theorem dX1_numberOf_8 : decode cX1_numberOf 8 = .ok (.if_icmp .ge 18, 3) := by decide +kernel
theorem dX1_numberOf_11 : decode cX1_numberOf 11 = .ok (.iload_n 3, 1) := by decide +kernel
theorem dX1_numberOf_12 : decode cX1_numberOf 12 = .ok (.aload_n 0, 1) := by decide +kernel
theorem dX1_numberOf_13 : decode cX1_numberOf 13 = .ok (.iload 4, 2) := by decide +kernel
theorem dX1_numberOf_15 : decode cX1_numberOf 15 = .ok (.invokevirtual 29, 3) := by decide +kernel
theorem dX1_numberOf_18 : decode cX1_numberOf 18 = .ok (.iadd, 1) := by decide +kernel
theorem dX1_numberOf_19 : decode cX1_numberOf 19 = .ok (.istore_n 3, 1) := by decide +kernel
theorem dX1_numberOf_20 : decode cX1_numberOf 20 = .ok (.iinc 4 1, 3) := by decide +kernel
theorem dX1_numberOf_23 : decode cX1_numberOf 23 = .ok (.goto (-18), 3) := by decide +kernel
theorem dX1_numberOf_26 : decode cX1_numberOf 26 = .ok (.iload_n 3, 1) := by decide +kernel
theorem dX1_numberOf_27 : decode cX1_numberOf 27 = .ok (.ireturn, 1) := by decide +kernel
theorem dX1_mostStoreys_0 : decode cX1_mostStoreys 0 = .ok (.iconst 0, 1) := by decide +kernel
theorem dX1_mostStoreys_1 : decode cX1_mostStoreys 1 = .ok (.istore_n 1, 1) := by decide +kernel
theorem dX1_mostStoreys_2 : decode cX1_mostStoreys 2 = .ok (.iconst 0, 1) := by decide +kernel
theorem dX1_mostStoreys_3 : decode cX1_mostStoreys 3 = .ok (.istore_n 2, 1) := by decide +kernel
theorem dX1_mostStoreys_4 : decode cX1_mostStoreys 4 = .ok (.iload_n 2, 1) := by decide +kernel
theorem dX1_mostStoreys_5 : decode cX1_mostStoreys 5 = .ok (.aload_n 0, 1) := by decide +kernel
theorem dX1_mostStoreys_6 : decode cX1_mostStoreys 6 = .ok (.getfield 18, 3) := by decide +kernel
theorem dX1_mostStoreys_9 : decode cX1_mostStoreys 9 = .ok (.if_icmp .ge 19, 3) := by decide +kernel
theorem dX1_mostStoreys_12 : decode cX1_mostStoreys 12 = .ok (.iload_n 1, 1) := by decide +kernel
theorem dX1_mostStoreys_13 : decode cX1_mostStoreys 13 = .ok (.aload_n 0, 1) := by decide +kernel
theorem dX1_mostStoreys_14 : decode cX1_mostStoreys 14 = .ok (.iload_n 2, 1) := by decide +kernel
theorem dX1_mostStoreys_15 : decode cX1_mostStoreys 15 = .ok (.invokevirtual 29, 3) := by decide +kernel
theorem dX1_mostStoreys_18 : decode cX1_mostStoreys 18 = .ok (.invokestatic 79, 3) := by decide +kernel
theorem dX1_mostStoreys_21 : decode cX1_mostStoreys 21 = .ok (.istore_n 1, 1) := by decide +kernel
theorem dX1_mostStoreys_22 : decode cX1_mostStoreys 22 = .ok (.iinc 2 1, 3) := by decide +kernel
theorem dX1_mostStoreys_25 : decode cX1_mostStoreys 25 = .ok (.goto (-21), 3) := by decide +kernel
theorem dX1_mostStoreys_28 : decode cX1_mostStoreys 28 = .ok (.iload_n 1, 1) := by decide +kernel
theorem dX1_mostStoreys_29 : decode cX1_mostStoreys 29 = .ok (.ireturn, 1) := by decide +kernel
theorem dX1_countOf_0 : decode cX1_countOf 0 = .ok (.iconst 0, 1) := by decide +kernel
theorem dX1_countOf_1 : decode cX1_countOf 1 = .ok (.istore_n 2, 1) := by decide +kernel
theorem dX1_countOf_2 : decode cX1_countOf 2 = .ok (.iconst 0, 1) := by decide +kernel
theorem dX1_countOf_3 : decode cX1_countOf 3 = .ok (.istore_n 3, 1) := by decide +kernel
theorem dX1_countOf_4 : decode cX1_countOf 4 = .ok (.iload_n 3, 1) := by decide +kernel
theorem dX1_countOf_5 : decode cX1_countOf 5 = .ok (.aload_n 0, 1) := by decide +kernel
theorem dX1_countOf_6 : decode cX1_countOf 6 = .ok (.getfield 18, 3) := by decide +kernel
theorem dX1_countOf_9 : decode cX1_countOf 9 = .ok (.if_icmp .ge 45, 3) := by decide +kernel
theorem dX1_countOf_12 : decode cX1_countOf 12 = .ok (.iconst 0, 1) := by decide +kernel
theorem dX1_countOf_13 : decode cX1_countOf 13 = .ok (.istore 4, 2) := by decide +kernel
theorem dX1_countOf_15 : decode cX1_countOf 15 = .ok (.iload 4, 2) := by decide +kernel
theorem dX1_countOf_17 : decode cX1_countOf 17 = .ok (.aload_n 0, 1) := by decide +kernel
theorem dX1_countOf_18 : decode cX1_countOf 18 = .ok (.iload_n 3, 1) := by decide +kernel
theorem dX1_countOf_19 : decode cX1_countOf 19 = .ok (.invokevirtual 29, 3) := by decide +kernel
theorem dX1_countOf_22 : decode cX1_countOf 22 = .ok (.if_icmp .ge 26, 3) := by decide +kernel
theorem dX1_countOf_25 : decode cX1_countOf 25 = .ok (.aload_n 0, 1) := by decide +kernel
theorem dX1_countOf_26 : decode cX1_countOf 26 = .ok (.iload_n 3, 1) := by decide +kernel
theorem dX1_countOf_27 : decode cX1_countOf 27 = .ok (.iload 4, 2) := by decide +kernel
theorem dX1_countOf_29 : decode cX1_countOf 29 = .ok (.invokevirtual 48, 3) := by decide +kernel
theorem dX1_countOf_32 : decode cX1_countOf 32 = .ok (.iload_n 1, 1) := by decide +kernel
theorem dX1_countOf_33 : decode cX1_countOf 33 = .ok (.invokestatic 84, 3) := by decide +kernel
theorem dX1_countOf_36 : decode cX1_countOf 36 = .ok (.ifCond .eq 6, 3) := by decide +kernel
theorem dX1_countOf_39 : decode cX1_countOf 39 = .ok (.iinc 2 1, 3) := by decide +kernel
theorem dX1_countOf_42 : decode cX1_countOf 42 = .ok (.iinc 4 1, 3) := by decide +kernel
theorem dX1_countOf_45 : decode cX1_countOf 45 = .ok (.goto (-30), 3) := by decide +kernel
theorem dX1_countOf_48 : decode cX1_countOf 48 = .ok (.iinc 3 1, 3) := by decide +kernel
theorem dX1_countOf_51 : decode cX1_countOf 51 = .ok (.goto (-47), 3) := by decide +kernel
theorem dX1_countOf_54 : decode cX1_countOf 54 = .ok (.iload_n 2, 1) := by decide +kernel
theorem dX1_countOf_55 : decode cX1_countOf 55 = .ok (.ireturn, 1) := by decide +kernel
theorem dX1_weightOn_0 : decode cX1_weightOn 0 = .ok (.iconst 0, 1) := by decide +kernel
theorem dX1_weightOn_1 : decode cX1_weightOn 1 = .ok (.istore_n 3, 1) := by decide +kernel
theorem dX1_weightOn_2 : decode cX1_weightOn 2 = .ok (.iload_n 2, 1) := by decide +kernel
theorem dX1_weightOn_3 : decode cX1_weightOn 3 = .ok (.iconst 1, 1) := by decide +kernel
theorem dX1_weightOn_4 : decode cX1_weightOn 4 = .ok (.iadd, 1) := by decide +kernel
theorem dX1_weightOn_5 : decode cX1_weightOn 5 = .ok (.istore 4, 2) := by decide +kernel
theorem dX1_weightOn_7 : decode cX1_weightOn 7 = .ok (.iload 4, 2) := by decide +kernel
theorem dX1_weightOn_9 : decode cX1_weightOn 9 = .ok (.aload_n 0, 1) := by decide +kernel
theorem dX1_weightOn_10 : decode cX1_weightOn 10 = .ok (.iload_n 1, 1) := by decide +kernel
theorem dX1_weightOn_11 : decode cX1_weightOn 11 = .ok (.invokevirtual 29, 3) := by decide +kernel
theorem dX1_weightOn_14 : decode cX1_weightOn 14 = .ok (.if_icmp .ge 24, 3) := by decide +kernel
theorem dX1_weightOn_17 : decode cX1_weightOn 17 = .ok (.iload_n 3, 1) := by decide +kernel
theorem dX1_weightOn_18 : decode cX1_weightOn 18 = .ok (.aload_n 0, 1) := by decide +kernel
theorem dX1_weightOn_19 : decode cX1_weightOn 19 = .ok (.iload_n 1, 1) := by decide +kernel
theorem dX1_weightOn_20 : decode cX1_weightOn 20 = .ok (.aload_n 0, 1) := by decide +kernel
theorem dX1_weightOn_21 : decode cX1_weightOn 21 = .ok (.iload_n 1, 1) := by decide +kernel
theorem dX1_weightOn_22 : decode cX1_weightOn 22 = .ok (.iload 4, 2) := by decide +kernel
theorem dX1_weightOn_24 : decode cX1_weightOn 24 = .ok (.invokevirtual 48, 3) := by decide +kernel
theorem dX1_weightOn_27 : decode cX1_weightOn 27 = .ok (.invokevirtual 87, 3) := by decide +kernel
theorem dX1_weightOn_30 : decode cX1_weightOn 30 = .ok (.iadd, 1) := by decide +kernel
theorem dX1_weightOn_31 : decode cX1_weightOn 31 = .ok (.istore_n 3, 1) := by decide +kernel
theorem dX1_weightOn_32 : decode cX1_weightOn 32 = .ok (.iinc 4 1, 3) := by decide +kernel
theorem dX1_weightOn_35 : decode cX1_weightOn 35 = .ok (.goto (-28), 3) := by decide +kernel
theorem dX1_weightOn_38 : decode cX1_weightOn 38 = .ok (.iload_n 2, 1) := by decide +kernel
theorem dX1_weightOn_39 : decode cX1_weightOn 39 = .ok (.istore 4, 2) := by decide +kernel
theorem dX1_weightOn_41 : decode cX1_weightOn 41 = .ok (.iload 4, 2) := by decide +kernel
theorem dX1_weightOn_43 : decode cX1_weightOn 43 = .ok (.aload_n 0, 1) := by decide +kernel
theorem dX1_weightOn_44 : decode cX1_weightOn 44 = .ok (.iload_n 1, 1) := by decide +kernel
theorem dX1_weightOn_45 : decode cX1_weightOn 45 = .ok (.iconst 1, 1) := by decide +kernel
theorem dX1_weightOn_46 : decode cX1_weightOn 46 = .ok (.isub, 1) := by decide +kernel
theorem dX1_weightOn_47 : decode cX1_weightOn 47 = .ok (.invokevirtual 29, 3) := by decide +kernel
theorem dX1_weightOn_50 : decode cX1_weightOn 50 = .ok (.if_icmp .ge 28, 3) := by decide +kernel
theorem dX1_weightOn_53 : decode cX1_weightOn 53 = .ok (.aload_n 0, 1) := by decide +kernel
theorem dX1_weightOn_54 : decode cX1_weightOn 54 = .ok (.iload_n 1, 1) := by decide +kernel
theorem dX1_weightOn_55 : decode cX1_weightOn 55 = .ok (.iconst 1, 1) := by decide +kernel
theorem dX1_weightOn_56 : decode cX1_weightOn 56 = .ok (.isub, 1) := by decide +kernel
theorem dX1_weightOn_57 : decode cX1_weightOn 57 = .ok (.iload 4, 2) := by decide +kernel
theorem dX1_weightOn_59 : decode cX1_weightOn 59 = .ok (.invokevirtual 48, 3) := by decide +kernel
theorem dX1_weightOn_62 : decode cX1_weightOn 62 = .ok (.iconst 2, 1) := by decide +kernel
theorem dX1_weightOn_63 : decode cX1_weightOn 63 = .ok (.invokestatic 84, 3) := by decide +kernel
theorem dX1_weightOn_66 : decode cX1_weightOn 66 = .ok (.ifCond .eq 6, 3) := by decide +kernel
theorem dX1_weightOn_69 : decode cX1_weightOn 69 = .ok (.iinc 3 1, 3) := by decide +kernel
theorem dX1_weightOn_72 : decode cX1_weightOn 72 = .ok (.iinc 4 1, 3) := by decide +kernel
theorem dX1_weightOn_75 : decode cX1_weightOn 75 = .ok (.goto (-34), 3) := by decide +kernel
theorem dX1_weightOn_78 : decode cX1_weightOn 78 = .ok (.iload_n 3, 1) := by decide +kernel
theorem dX1_weightOn_79 : decode cX1_weightOn 79 = .ok (.ireturn, 1) := by decide +kernel
theorem dX1_weightInOwnTower_0 : decode cX1_weightInOwnTower 0 = .ok (.iload_n 2, 1) := by decide +kernel
theorem dX1_weightInOwnTower_1 : decode cX1_weightInOwnTower 1 = .ok (.ifCond .lt 11, 3) := by decide +kernel
theorem dX1_weightInOwnTower_4 : decode cX1_weightInOwnTower 4 = .ok (.iload_n 2, 1) := by decide +kernel
theorem dX1_weightInOwnTower_5 : decode cX1_weightInOwnTower 5 = .ok (.getstatic 90, 3) := by decide +kernel
theorem dX1_weightInOwnTower_8 : decode cX1_weightInOwnTower 8 = .ok (.arraylength, 1) := by decide +kernel
theorem dX1_weightInOwnTower_9 : decode cX1_weightInOwnTower 9 = .ok (.if_icmp .lt 5, 3) := by decide +kernel
theorem dX1_weightInOwnTower_12 : decode cX1_weightInOwnTower 12 = .ok (.iconst 0, 1) := by decide +kernel
theorem dX1_weightInOwnTower_13 : decode cX1_weightInOwnTower 13 = .ok (.ireturn, 1) := by decide +kernel
theorem dX1_weightInOwnTower_14 : decode cX1_weightInOwnTower 14 = .ok (.iload_n 2, 1) := by decide +kernel
theorem dX1_weightInOwnTower_15 : decode cX1_weightInOwnTower 15 = .ok (.iconst 2, 1) := by decide +kernel
theorem dX1_weightInOwnTower_16 : decode cX1_weightInOwnTower 16 = .ok (.invokestatic 84, 3) := by decide +kernel
theorem dX1_weightInOwnTower_19 : decode cX1_weightInOwnTower 19 = .ok (.ifCond .eq 17, 3) := by decide +kernel
theorem dX1_weightInOwnTower_22 : decode cX1_weightInOwnTower 22 = .ok (.aload_n 0, 1) := by decide +kernel
theorem dX1_weightInOwnTower_23 : decode cX1_weightInOwnTower 23 = .ok (.iload_n 1, 1) := by decide +kernel
theorem dX1_weightInOwnTower_24 : decode cX1_weightInOwnTower 24 = .ok (.iconst 1, 1) := by decide +kernel
theorem dX1_weightInOwnTower_25 : decode cX1_weightInOwnTower 25 = .ok (.iadd, 1) := by decide +kernel
theorem dX1_weightInOwnTower_26 : decode cX1_weightInOwnTower 26 = .ok (.invokevirtual 25, 3) := by decide +kernel
theorem dX1_weightInOwnTower_29 : decode cX1_weightInOwnTower 29 = .ok (.ifCond .ne 7, 3) := by decide +kernel
theorem dX1_weightInOwnTower_32 : decode cX1_weightInOwnTower 32 = .ok (.iconst 1, 1) := by decide +kernel
theorem dX1_weightInOwnTower_33 : decode cX1_weightInOwnTower 33 = .ok (.goto 4, 3) := by decide +kernel
theorem dX1_weightInOwnTower_36 : decode cX1_weightInOwnTower 36 = .ok (.iconst 0, 1) := by decide +kernel
theorem dX1_weightInOwnTower_37 : decode cX1_weightInOwnTower 37 = .ok (.istore_n 3, 1) := by decide +kernel
theorem dX1_weightInOwnTower_38 : decode cX1_weightInOwnTower 38 = .ok (.getstatic 90, 3) := by decide +kernel
theorem dX1_weightInOwnTower_41 : decode cX1_weightInOwnTower 41 = .ok (.iload_n 2, 1) := by decide +kernel
theorem dX1_weightInOwnTower_42 : decode cX1_weightInOwnTower 42 = .ok (.iaload, 1) := by decide +kernel
theorem dX1_weightInOwnTower_43 : decode cX1_weightInOwnTower 43 = .ok (.iload_n 3, 1) := by decide +kernel
theorem dX1_weightInOwnTower_44 : decode cX1_weightInOwnTower 44 = .ok (.ifCond .eq 7, 3) := by decide +kernel
theorem dX1_weightInOwnTower_47 : decode cX1_weightInOwnTower 47 = .ok (.iconst 1, 1) := by decide +kernel
theorem dX1_weightInOwnTower_48 : decode cX1_weightInOwnTower 48 = .ok (.goto 4, 3) := by decide +kernel
theorem dX1_weightInOwnTower_51 : decode cX1_weightInOwnTower 51 = .ok (.iconst 0, 1) := by decide +kernel
theorem dX1_weightInOwnTower_52 : decode cX1_weightInOwnTower 52 = .ok (.iadd, 1) := by decide +kernel
theorem dX1_weightInOwnTower_53 : decode cX1_weightInOwnTower 53 = .ok (.ireturn, 1) := by decide +kernel
theorem dX1_isSwaying_0 : decode cX1_isSwaying 0 = .ok (.aload_n 0, 1) := by decide +kernel
theorem dX1_isSwaying_1 : decode cX1_isSwaying 1 = .ok (.iload_n 1, 1) := by decide +kernel
theorem dX1_isSwaying_2 : decode cX1_isSwaying 2 = .ok (.iload_n 2, 1) := by decide +kernel
theorem dX1_isSwaying_3 : decode cX1_isSwaying 3 = .ok (.invokevirtual 33, 3) := by decide +kernel
theorem dX1_isSwaying_6 : decode cX1_isSwaying 6 = .ok (.ifCond .eq 22, 3) := by decide +kernel
theorem dX1_isSwaying_9 : decode cX1_isSwaying 9 = .ok (.aload_n 0, 1) := by decide +kernel
theorem dX1_isSwaying_10 : decode cX1_isSwaying 10 = .ok (.iload_n 1, 1) := by decide +kernel
theorem dX1_isSwaying_11 : decode cX1_isSwaying 11 = .ok (.iload_n 2, 1) := by decide +kernel
theorem dX1_isSwaying_12 : decode cX1_isSwaying 12 = .ok (.invokevirtual 93, 3) := by decide +kernel
theorem dX1_isSwaying_15 : decode cX1_isSwaying 15 = .ok (.aload_n 0, 1) := by decide +kernel
theorem dX1_isSwaying_16 : decode cX1_isSwaying 16 = .ok (.iload_n 1, 1) := by decide +kernel
theorem dX1_isSwaying_17 : decode cX1_isSwaying 17 = .ok (.iload_n 2, 1) := by decide +kernel
theorem dX1_isSwaying_18 : decode cX1_isSwaying 18 = .ok (.invokevirtual 52, 3) := by decide +kernel
theorem dX1_isSwaying_21 : decode cX1_isSwaying 21 = .ok (.if_icmp .le 7, 3) := by decide +kernel
theorem dX1_isSwaying_24 : decode cX1_isSwaying 24 = .ok (.iconst 1, 1) := by decide +kernel
theorem dX1_isSwaying_25 : decode cX1_isSwaying 25 = .ok (.goto 4, 3) := by decide +kernel
theorem dX1_isSwaying_28 : decode cX1_isSwaying 28 = .ok (.iconst 0, 1) := by decide +kernel
theorem dX1_isSwaying_29 : decode cX1_isSwaying 29 = .ok (.ireturn, 1) := by decide +kernel
theorem dX1_isSteady_0 : decode cX1_isSteady 0 = .ok (.iconst 0, 1) := by decide +kernel
theorem dX1_isSteady_1 : decode cX1_isSteady 1 = .ok (.istore_n 1, 1) := by decide +kernel
theorem dX1_isSteady_2 : decode cX1_isSteady 2 = .ok (.iload_n 1, 1) := by decide +kernel
theorem dX1_isSteady_3 : decode cX1_isSteady 3 = .ok (.aload_n 0, 1) := by decide +kernel
theorem dX1_isSteady_4 : decode cX1_isSteady 4 = .ok (.getfield 18, 3) := by decide +kernel
theorem dX1_isSteady_7 : decode cX1_isSteady 7 = .ok (.if_icmp .ge 37, 3) := by decide +kernel
theorem dX1_isSteady_10 : decode cX1_isSteady 10 = .ok (.iconst 0, 1) := by decide +kernel
theorem dX1_isSteady_11 : decode cX1_isSteady 11 = .ok (.istore_n 2, 1) := by decide +kernel
theorem dX1_isSteady_12 : decode cX1_isSteady 12 = .ok (.iload_n 2, 1) := by decide +kernel
theorem dX1_isSteady_13 : decode cX1_isSteady 13 = .ok (.aload_n 0, 1) := by decide +kernel
theorem dX1_isSteady_14 : decode cX1_isSteady 14 = .ok (.iload_n 1, 1) := by decide +kernel
theorem dX1_isSteady_15 : decode cX1_isSteady 15 = .ok (.invokevirtual 29, 3) := by decide +kernel
theorem dX1_isSteady_18 : decode cX1_isSteady 18 = .ok (.if_icmp .ge 20, 3) := by decide +kernel
theorem dX1_isSteady_21 : decode cX1_isSteady 21 = .ok (.aload_n 0, 1) := by decide +kernel
theorem dX1_isSteady_22 : decode cX1_isSteady 22 = .ok (.iload_n 1, 1) := by decide +kernel
theorem dX1_isSteady_23 : decode cX1_isSteady 23 = .ok (.iload_n 2, 1) := by decide +kernel
theorem dX1_isSteady_24 : decode cX1_isSteady 24 = .ok (.invokevirtual 96, 3) := by decide +kernel
theorem dX1_isSteady_27 : decode cX1_isSteady 27 = .ok (.ifCond .eq 5, 3) := by decide +kernel
theorem dX1_isSteady_30 : decode cX1_isSteady 30 = .ok (.iconst 0, 1) := by decide +kernel
theorem dX1_isSteady_31 : decode cX1_isSteady 31 = .ok (.ireturn, 1) := by decide +kernel
theorem dX1_isSteady_32 : decode cX1_isSteady 32 = .ok (.iinc 2 1, 3) := by decide +kernel
theorem dX1_isSteady_35 : decode cX1_isSteady 35 = .ok (.goto (-23), 3) := by decide +kernel
theorem dX1_isSteady_38 : decode cX1_isSteady 38 = .ok (.iinc 1 1, 3) := by decide +kernel
theorem dX1_isSteady_41 : decode cX1_isSteady 41 = .ok (.goto (-39), 3) := by decide +kernel
theorem dX1_isSteady_44 : decode cX1_isSteady 44 = .ok (.iconst 1, 1) := by decide +kernel
theorem dX1_isSteady_45 : decode cX1_isSteady 45 = .ok (.ireturn, 1) := by decide +kernel
theorem dX1_shaderOf_0 : decode cX1_shaderOf 0 = .ok (.iload_n 3, 1) := by decide +kernel
theorem dX1_shaderOf_1 : decode cX1_shaderOf 1 = .ok (.ifCond .lt 19, 3) := by decide +kernel
theorem dX1_shaderOf_4 : decode cX1_shaderOf 4 = .ok (.iload_n 3, 1) := by decide +kernel
theorem dX1_shaderOf_5 : decode cX1_shaderOf 5 = .ok (.getstatic 99, 3) := by decide +kernel
theorem dX1_shaderOf_8 : decode cX1_shaderOf 8 = .ok (.arraylength, 1) := by decide +kernel
theorem dX1_shaderOf_9 : decode cX1_shaderOf 9 = .ok (.if_icmp .ge 11, 3) := by decide +kernel
theorem dX1_shaderOf_12 : decode cX1_shaderOf 12 = .ok (.iload_n 3, 1) := by decide +kernel
theorem dX1_shaderOf_13 : decode cX1_shaderOf 13 = .ok (.getstatic 102, 3) := by decide +kernel
theorem dX1_shaderOf_16 : decode cX1_shaderOf 16 = .ok (.arraylength, 1) := by decide +kernel
theorem dX1_shaderOf_17 : decode cX1_shaderOf 17 = .ok (.if_icmp .lt 6, 3) := by decide +kernel
theorem dX1_shaderOf_20 : decode cX1_shaderOf 20 = .ok (.bipush (-9), 2) := by decide +kernel
theorem dX1_shaderOf_22 : decode cX1_shaderOf 22 = .ok (.ireturn, 1) := by decide +kernel
theorem dX1_shaderOf_23 : decode cX1_shaderOf 23 = .ok (.iconst 1, 1) := by decide +kernel
theorem dX1_shaderOf_24 : decode cX1_shaderOf 24 = .ok (.istore 4, 2) := by decide +kernel
theorem dX1_shaderOf_26 : decode cX1_shaderOf 26 = .ok (.iload 4, 2) := by decide +kernel
theorem dX1_shaderOf_28 : decode cX1_shaderOf 28 = .ok (.bipush 6, 2) := by decide +kernel
theorem dX1_shaderOf_30 : decode cX1_shaderOf 30 = .ok (.if_icmp .ge 68, 3) := by decide +kernel
theorem dX1_shaderOf_33 : decode cX1_shaderOf 33 = .ok (.iload_n 1, 1) := by decide +kernel
theorem dX1_shaderOf_34 : decode cX1_shaderOf 34 = .ok (.iload 4, 2) := by decide +kernel
theorem dX1_shaderOf_36 : decode cX1_shaderOf 36 = .ok (.getstatic 99, 3) := by decide +kernel
theorem dX1_shaderOf_39 : decode cX1_shaderOf 39 = .ok (.iload_n 3, 1) := by decide +kernel
theorem dX1_shaderOf_40 : decode cX1_shaderOf 40 = .ok (.iaload, 1) := by decide +kernel
theorem dX1_shaderOf_41 : decode cX1_shaderOf 41 = .ok (.imul, 1) := by decide +kernel
theorem dX1_shaderOf_42 : decode cX1_shaderOf 42 = .ok (.iadd, 1) := by decide +kernel
theorem dX1_shaderOf_43 : decode cX1_shaderOf 43 = .ok (.istore 5, 2) := by decide +kernel
theorem dX1_shaderOf_45 : decode cX1_shaderOf 45 = .ok (.iload_n 2, 1) := by decide +kernel
theorem dX1_shaderOf_46 : decode cX1_shaderOf 46 = .ok (.iload 4, 2) := by decide +kernel
theorem dX1_shaderOf_48 : decode cX1_shaderOf 48 = .ok (.getstatic 102, 3) := by decide +kernel
theorem dX1_shaderOf_51 : decode cX1_shaderOf 51 = .ok (.iload_n 3, 1) := by decide +kernel
theorem dX1_shaderOf_52 : decode cX1_shaderOf 52 = .ok (.iaload, 1) := by decide +kernel
theorem dX1_shaderOf_53 : decode cX1_shaderOf 53 = .ok (.imul, 1) := by decide +kernel
theorem dX1_shaderOf_54 : decode cX1_shaderOf 54 = .ok (.iadd, 1) := by decide +kernel
theorem dX1_shaderOf_55 : decode cX1_shaderOf 55 = .ok (.istore 6, 2) := by decide +kernel
theorem dX1_shaderOf_57 : decode cX1_shaderOf 57 = .ok (.aload_n 0, 1) := by decide +kernel
theorem dX1_shaderOf_58 : decode cX1_shaderOf 58 = .ok (.iload 5, 2) := by decide +kernel
theorem dX1_shaderOf_60 : decode cX1_shaderOf 60 = .ok (.iload 6, 2) := by decide +kernel
theorem dX1_shaderOf_62 : decode cX1_shaderOf 62 = .ok (.invokevirtual 33, 3) := by decide +kernel
theorem dX1_shaderOf_65 : decode cX1_shaderOf 65 = .ok (.ifCond .eq 27, 3) := by decide +kernel
theorem dX1_shaderOf_68 : decode cX1_shaderOf 68 = .ok (.aload_n 0, 1) := by decide +kernel
theorem dX1_shaderOf_69 : decode cX1_shaderOf 69 = .ok (.iload 5, 2) := by decide +kernel
theorem dX1_shaderOf_71 : decode cX1_shaderOf 71 = .ok (.iload 6, 2) := by decide +kernel
theorem dX1_shaderOf_73 : decode cX1_shaderOf 73 = .ok (.invokevirtual 48, 3) := by decide +kernel
theorem dX1_shaderOf_76 : decode cX1_shaderOf 76 = .ok (.iconst 1, 1) := by decide +kernel
theorem dX1_shaderOf_77 : decode cX1_shaderOf 77 = .ok (.invokestatic 84, 3) := by decide +kernel
theorem dX1_shaderOf_80 : decode cX1_shaderOf 80 = .ok (.ifCond .ne 12, 3) := by decide +kernel
theorem dX1_shaderOf_83 : decode cX1_shaderOf 83 = .ok (.aload_n 0, 1) := by decide +kernel
theorem dX1_shaderOf_84 : decode cX1_shaderOf 84 = .ok (.iload 5, 2) := by decide +kernel
theorem dX1_shaderOf_86 : decode cX1_shaderOf 86 = .ok (.iload 6, 2) := by decide +kernel
theorem dX1_shaderOf_88 : decode cX1_shaderOf 88 = .ok (.invokevirtual 105, 3) := by decide +kernel
theorem dX1_shaderOf_91 : decode cX1_shaderOf 91 = .ok (.ireturn, 1) := by decide +kernel
theorem dX1_shaderOf_92 : decode cX1_shaderOf 92 = .ok (.iinc 4 1, 3) := by decide +kernel
theorem dX1_shaderOf_95 : decode cX1_shaderOf 95 = .ok (.goto (-69), 3) := by decide +kernel
theorem dX1_shaderOf_98 : decode cX1_shaderOf 98 = .ok (.bipush (-9), 2) := by decide +kernel
theorem dX1_shaderOf_100 : decode cX1_shaderOf 100 = .ok (.ireturn, 1) := by decide +kernel
theorem dX1_hoursSeen_0 : decode cX1_hoursSeen 0 = .ok (.iconst 0, 1) := by decide +kernel
theorem dX1_hoursSeen_1 : decode cX1_hoursSeen 1 = .ok (.istore_n 3, 1) := by decide +kernel
theorem dX1_hoursSeen_2 : decode cX1_hoursSeen 2 = .ok (.iconst 0, 1) := by decide +kernel
theorem dX1_hoursSeen_3 : decode cX1_hoursSeen 3 = .ok (.istore 4, 2) := by decide +kernel
theorem dX1_hoursSeen_5 : decode cX1_hoursSeen 5 = .ok (.iload 4, 2) := by decide +kernel
theorem dX1_hoursSeen_7 : decode cX1_hoursSeen 7 = .ok (.iconst 5, 1) := by decide +kernel
theorem dX1_hoursSeen_8 : decode cX1_hoursSeen 8 = .ok (.if_icmp .ge 29, 3) := by decide +kernel
theorem dX1_hoursSeen_11 : decode cX1_hoursSeen 11 = .ok (.aload_n 0, 1) := by decide +kernel
theorem dX1_hoursSeen_12 : decode cX1_hoursSeen 12 = .ok (.iload_n 1, 1) := by decide +kernel
theorem dX1_hoursSeen_13 : decode cX1_hoursSeen 13 = .ok (.iload_n 2, 1) := by decide +kernel
theorem dX1_hoursSeen_14 : decode cX1_hoursSeen 14 = .ok (.iload 4, 2) := by decide +kernel
theorem dX1_hoursSeen_16 : decode cX1_hoursSeen 16 = .ok (.invokevirtual 108, 3) := by decide +kernel
theorem dX1_hoursSeen_19 : decode cX1_hoursSeen 19 = .ok (.bipush (-9), 2) := by decide +kernel
theorem dX1_hoursSeen_21 : decode cX1_hoursSeen 21 = .ok (.if_icmp .ne 10, 3) := by decide +kernel
theorem dX1_hoursSeen_24 : decode cX1_hoursSeen 24 = .ok (.iload_n 3, 1) := by decide +kernel
theorem dX1_hoursSeen_25 : decode cX1_hoursSeen 25 = .ok (.iconst 1, 1) := by decide +kernel
theorem dX1_hoursSeen_26 : decode cX1_hoursSeen 26 = .ok (.iload 4, 2) := by decide +kernel
theorem dX1_hoursSeen_28 : decode cX1_hoursSeen 28 = .ok (.ishl, 1) := by decide +kernel
theorem dX1_hoursSeen_29 : decode cX1_hoursSeen 29 = .ok (.ior, 1) := by decide +kernel
theorem dX1_hoursSeen_30 : decode cX1_hoursSeen 30 = .ok (.istore_n 3, 1) := by decide +kernel
theorem dX1_hoursSeen_31 : decode cX1_hoursSeen 31 = .ok (.iinc 4 1, 3) := by decide +kernel
theorem dX1_hoursSeen_34 : decode cX1_hoursSeen 34 = .ok (.goto (-29), 3) := by decide +kernel
theorem dX1_hoursSeen_37 : decode cX1_hoursSeen 37 = .ok (.iload_n 3, 1) := by decide +kernel
theorem dX1_hoursSeen_38 : decode cX1_hoursSeen 38 = .ok (.ireturn, 1) := by decide +kernel
theorem dX1_lampedAbove_0 : decode cX1_lampedAbove 0 = .ok (.iconst 0, 1) := by decide +kernel
theorem dX1_lampedAbove_1 : decode cX1_lampedAbove 1 = .ok (.istore_n 3, 1) := by decide +kernel
theorem dX1_lampedAbove_2 : decode cX1_lampedAbove 2 = .ok (.iload_n 2, 1) := by decide +kernel
theorem dX1_lampedAbove_3 : decode cX1_lampedAbove 3 = .ok (.iconst 1, 1) := by decide +kernel
theorem dX1_lampedAbove_4 : decode cX1_lampedAbove 4 = .ok (.iadd, 1) := by decide +kernel
theorem dX1_lampedAbove_5 : decode cX1_lampedAbove 5 = .ok (.istore 4, 2) := by decide +kernel
theorem dX1_lampedAbove_7 : decode cX1_lampedAbove 7 = .ok (.iload 4, 2) := by decide +kernel
theorem dX1_lampedAbove_9 : decode cX1_lampedAbove 9 = .ok (.aload_n 0, 1) := by decide +kernel
theorem dX1_lampedAbove_10 : decode cX1_lampedAbove 10 = .ok (.iload_n 1, 1) := by decide +kernel
theorem dX1_lampedAbove_11 : decode cX1_lampedAbove 11 = .ok (.invokevirtual 29, 3) := by decide +kernel
theorem dX1_lampedAbove_14 : decode cX1_lampedAbove 14 = .ok (.if_icmp .ge 23, 3) := by decide +kernel
theorem dX1_lampedAbove_17 : decode cX1_lampedAbove 17 = .ok (.aload_n 0, 1) := by decide +kernel
theorem dX1_lampedAbove_18 : decode cX1_lampedAbove 18 = .ok (.iload_n 1, 1) := by decide +kernel
theorem dX1_lampedAbove_19 : decode cX1_lampedAbove 19 = .ok (.iload 4, 2) := by decide +kernel
theorem dX1_lampedAbove_21 : decode cX1_lampedAbove 21 = .ok (.invokevirtual 48, 3) := by decide +kernel
theorem dX1_lampedAbove_24 : decode cX1_lampedAbove 24 = .ok (.iconst 5, 1) := by decide +kernel
theorem dX1_lampedAbove_25 : decode cX1_lampedAbove 25 = .ok (.if_icmp .ne 6, 3) := by decide +kernel
theorem dX1_lampedAbove_28 : decode cX1_lampedAbove 28 = .ok (.iinc 3 1, 3) := by decide +kernel
theorem dX1_lampedAbove_31 : decode cX1_lampedAbove 31 = .ok (.iinc 4 1, 3) := by decide +kernel
theorem dX1_lampedAbove_34 : decode cX1_lampedAbove 34 = .ok (.goto (-27), 3) := by decide +kernel
theorem dX1_lampedAbove_37 : decode cX1_lampedAbove 37 = .ok (.iload_n 3, 1) := by decide +kernel
theorem dX1_lampedAbove_38 : decode cX1_lampedAbove 38 = .ok (.ireturn, 1) := by decide +kernel
theorem dX2_init_0 : decode cX2_init 0 = .ok (.aload_n 0, 1) := by decide +kernel
theorem dX2_init_1 : decode cX2_init 1 = .ok (.invokespecial 3, 3) := by decide +kernel
theorem dX2_init_4 : decode cX2_init 4 = .ok (.aload_n 0, 1) := by decide +kernel
theorem dX2_init_5 : decode cX2_init 5 = .ok (.bipush 12, 2) := by decide +kernel
theorem dX2_init_7 : decode cX2_init 7 = .ok (.newarray .int, 2) := by decide +kernel
theorem dX2_init_9 : decode cX2_init 9 = .ok (.putfield 9, 3) := by decide +kernel
theorem dX2_init_12 : decode cX2_init 12 = .ok (.aload_n 0, 1) := by decide +kernel
theorem dX2_init_13 : decode cX2_init 13 = .ok (.sipush 4096, 3) := by decide +kernel
theorem dX2_init_16 : decode cX2_init 16 = .ok (.newarray .int, 2) := by decide +kernel
theorem dX2_init_18 : decode cX2_init 18 = .ok (.putfield 15, 3) := by decide +kernel
theorem dX2_init_21 : decode cX2_init 21 = .ok (.return_, 1) := by decide +kernel
theorem dX2_clear_0 : decode cX2_clear 0 = .ok (.aload_n 0, 1) := by decide +kernel
theorem dX2_clear_1 : decode cX2_clear 1 = .ok (.iconst 0, 1) := by decide +kernel
theorem dX2_clear_2 : decode cX2_clear 2 = .ok (.putfield 18, 3) := by decide +kernel
theorem dX2_clear_5 : decode cX2_clear 5 = .ok (.return_, 1) := by decide +kernel
theorem dX2_add_0 : decode cX2_add 0 = .ok (.iload_n 1, 1) := by decide +kernel
theorem dX2_add_1 : decode cX2_add 1 = .ok (.ifCond .eq 35, 3) := by decide +kernel
theorem dX2_add_4 : decode cX2_add 4 = .ok (.aload_n 0, 1) := by decide +kernel
theorem dX2_add_5 : decode cX2_add 5 = .ok (.getfield 18, 3) := by decide +kernel
theorem dX2_add_8 : decode cX2_add 8 = .ok (.aload_n 0, 1) := by decide +kernel
theorem dX2_add_9 : decode cX2_add 9 = .ok (.getfield 9, 3) := by decide +kernel
theorem dX2_add_12 : decode cX2_add 12 = .ok (.arraylength, 1) := by decide +kernel
theorem dX2_add_13 : decode cX2_add 13 = .ok (.if_icmp .ge 23, 3) := by decide +kernel
theorem dX2_add_16 : decode cX2_add 16 = .ok (.aload_n 0, 1) := by decide +kernel
theorem dX2_add_17 : decode cX2_add 17 = .ok (.getfield 9, 3) := by decide +kernel
theorem dX2_add_20 : decode cX2_add 20 = .ok (.aload_n 0, 1) := by decide +kernel
theorem dX2_add_21 : decode cX2_add 21 = .ok (.getfield 18, 3) := by decide +kernel
theorem dX2_add_24 : decode cX2_add 24 = .ok (.iload_n 1, 1) := by decide +kernel
theorem dX2_add_25 : decode cX2_add 25 = .ok (.iastore, 1) := by decide +kernel
theorem dX2_add_26 : decode cX2_add 26 = .ok (.aload_n 0, 1) := by decide +kernel
theorem dX2_add_27 : decode cX2_add 27 = .ok (.dup, 1) := by decide +kernel
theorem dX2_add_28 : decode cX2_add 28 = .ok (.getfield 18, 3) := by decide +kernel
theorem dX2_add_31 : decode cX2_add 31 = .ok (.iconst 1, 1) := by decide +kernel
theorem dX2_add_32 : decode cX2_add 32 = .ok (.iadd, 1) := by decide +kernel
theorem dX2_add_33 : decode cX2_add 33 = .ok (.putfield 18, 3) := by decide +kernel
theorem dX2_add_36 : decode cX2_add 36 = .ok (.return_, 1) := by decide +kernel
theorem dX2_fewestPayments_0 : decode cX2_fewestPayments 0 = .ok (.iconst 1, 1) := by decide +kernel
theorem dX2_fewestPayments_1 : decode cX2_fewestPayments 1 = .ok (.aload_n 0, 1) := by decide +kernel
theorem dX2_fewestPayments_2 : decode cX2_fewestPayments 2 = .ok (.getfield 18, 3) := by decide +kernel
theorem dX2_fewestPayments_5 : decode cX2_fewestPayments 5 = .ok (.ishl, 1) := by decide +kernel
theorem dX2_fewestPayments_6 : decode cX2_fewestPayments 6 = .ok (.iconst 1, 1) := by decide +kernel
theorem dX2_fewestPayments_7 : decode cX2_fewestPayments 7 = .ok (.isub, 1) := by decide +kernel
theorem dX2_fewestPayments_8 : decode cX2_fewestPayments 8 = .ok (.istore_n 1, 1) := by decide +kernel
theorem dX2_fewestPayments_9 : decode cX2_fewestPayments 9 = .ok (.iconst 1, 1) := by decide +kernel
theorem dX2_fewestPayments_10 : decode cX2_fewestPayments 10 = .ok (.istore_n 2, 1) := by decide +kernel
theorem dX2_fewestPayments_11 : decode cX2_fewestPayments 11 = .ok (.iload_n 2, 1) := by decide +kernel
theorem dX2_fewestPayments_12 : decode cX2_fewestPayments 12 = .ok (.iload_n 1, 1) := by decide +kernel
theorem dX2_fewestPayments_13 : decode cX2_fewestPayments 13 = .ok (.if_icmp .gt 29, 3) := by decide +kernel
theorem dX2_fewestPayments_16 : decode cX2_fewestPayments 16 = .ok (.iload_n 2, 1) := by decide +kernel
theorem dX2_fewestPayments_17 : decode cX2_fewestPayments 17 = .ok (.aload_n 0, 1) := by decide +kernel
theorem dX2_fewestPayments_18 : decode cX2_fewestPayments 18 = .ok (.getfield 15, 3) := by decide +kernel
theorem dX2_fewestPayments_21 : decode cX2_fewestPayments 21 = .ok (.arraylength, 1) := by decide +kernel
theorem dX2_fewestPayments_22 : decode cX2_fewestPayments 22 = .ok (.if_icmp .ge 20, 3) := by decide +kernel
theorem dX2_fewestPayments_25 : decode cX2_fewestPayments 25 = .ok (.aload_n 0, 1) := by decide +kernel
theorem dX2_fewestPayments_26 : decode cX2_fewestPayments 26 = .ok (.getfield 15, 3) := by decide +kernel
theorem dX2_fewestPayments_29 : decode cX2_fewestPayments 29 = .ok (.iload_n 2, 1) := by decide +kernel
theorem dX2_fewestPayments_30 : decode cX2_fewestPayments 30 = .ok (.aload_n 0, 1) := by decide +kernel
theorem dX2_fewestPayments_31 : decode cX2_fewestPayments 31 = .ok (.iload_n 2, 1) := by decide +kernel
theorem dX2_fewestPayments_32 : decode cX2_fewestPayments 32 = .ok (.invokevirtual 22, 3) := by decide +kernel
theorem dX2_fewestPayments_35 : decode cX2_fewestPayments 35 = .ok (.iastore, 1) := by decide +kernel
theorem dX2_fewestPayments_36 : decode cX2_fewestPayments 36 = .ok (.iinc 2 1, 3) := by decide +kernel
theorem dX2_fewestPayments_39 : decode cX2_fewestPayments 39 = .ok (.goto (-28), 3) := by decide +kernel
theorem dX2_fewestPayments_42 : decode cX2_fewestPayments 42 = .ok (.iload_n 1, 1) := by decide +kernel
theorem dX2_fewestPayments_43 : decode cX2_fewestPayments 43 = .ok (.ifCond .le 26, 3) := by decide +kernel
theorem dX2_fewestPayments_46 : decode cX2_fewestPayments 46 = .ok (.iload_n 1, 1) := by decide +kernel
theorem dX2_fewestPayments_47 : decode cX2_fewestPayments 47 = .ok (.aload_n 0, 1) := by decide +kernel
theorem dX2_fewestPayments_48 : decode cX2_fewestPayments 48 = .ok (.getfield 15, 3) := by decide +kernel
theorem dX2_fewestPayments_51 : decode cX2_fewestPayments 51 = .ok (.arraylength, 1) := by decide +kernel
theorem dX2_fewestPayments_52 : decode cX2_fewestPayments 52 = .ok (.if_icmp .ge 17, 3) := by decide +kernel
theorem dX2_fewestPayments_55 : decode cX2_fewestPayments 55 = .ok (.aload_n 0, 1) := by decide +kernel
theorem dX2_fewestPayments_56 : decode cX2_fewestPayments 56 = .ok (.getfield 18, 3) := by decide +kernel
theorem dX2_fewestPayments_59 : decode cX2_fewestPayments 59 = .ok (.aload_n 0, 1) := by decide +kernel
theorem dX2_fewestPayments_60 : decode cX2_fewestPayments 60 = .ok (.getfield 15, 3) := by decide +kernel
theorem dX2_fewestPayments_63 : decode cX2_fewestPayments 63 = .ok (.iload_n 1, 1) := by decide +kernel
theorem dX2_fewestPayments_64 : decode cX2_fewestPayments 64 = .ok (.iaload, 1) := by decide +kernel
theorem dX2_fewestPayments_65 : decode cX2_fewestPayments 65 = .ok (.isub, 1) := by decide +kernel
theorem dX2_fewestPayments_66 : decode cX2_fewestPayments 66 = .ok (.goto 4, 3) := by decide +kernel
theorem dX2_fewestPayments_69 : decode cX2_fewestPayments 69 = .ok (.iconst 0, 1) := by decide +kernel
theorem dX2_fewestPayments_70 : decode cX2_fewestPayments 70 = .ok (.ireturn, 1) := by decide +kernel
theorem dX2_mostGroups_0 : decode cX2_mostGroups 0 = .ok (.iconst 0, 1) := by decide +kernel
theorem dX2_mostGroups_1 : decode cX2_mostGroups 1 = .ok (.istore_n 2, 1) := by decide +kernel
theorem dX2_mostGroups_2 : decode cX2_mostGroups 2 = .ok (.iconst 0, 1) := by decide +kernel
theorem dX2_mostGroups_3 : decode cX2_mostGroups 3 = .ok (.istore_n 3, 1) := by decide +kernel
theorem dX2_mostGroups_4 : decode cX2_mostGroups 4 = .ok (.iconst 0, 1) := by decide +kernel
theorem dX2_mostGroups_5 : decode cX2_mostGroups 5 = .ok (.istore 4, 2) := by decide +kernel
theorem dX2_mostGroups_7 : decode cX2_mostGroups 7 = .ok (.iload 4, 2) := by decide +kernel
theorem dX2_mostGroups_9 : decode cX2_mostGroups 9 = .ok (.aload_n 0, 1) := by decide +kernel
theorem dX2_mostGroups_10 : decode cX2_mostGroups 10 = .ok (.getfield 18, 3) := by decide +kernel
theorem dX2_mostGroups_13 : decode cX2_mostGroups 13 = .ok (.if_icmp .ge 58, 3) := by decide +kernel
theorem dX2_mostGroups_16 : decode cX2_mostGroups 16 = .ok (.iload_n 1, 1) := by decide +kernel
theorem dX2_mostGroups_17 : decode cX2_mostGroups 17 = .ok (.iconst 1, 1) := by decide +kernel
theorem dX2_mostGroups_18 : decode cX2_mostGroups 18 = .ok (.iload 4, 2) := by decide +kernel
theorem dX2_mostGroups_20 : decode cX2_mostGroups 20 = .ok (.ishl, 1) := by decide +kernel
theorem dX2_mostGroups_21 : decode cX2_mostGroups 21 = .ok (.iconst (-1), 1) := by decide +kernel
theorem dX2_mostGroups_22 : decode cX2_mostGroups 22 = .ok (.ixor, 1) := by decide +kernel
theorem dX2_mostGroups_23 : decode cX2_mostGroups 23 = .ok (.iand, 1) := by decide +kernel
theorem dX2_mostGroups_24 : decode cX2_mostGroups 24 = .ok (.istore 5, 2) := by decide +kernel
theorem dX2_mostGroups_26 : decode cX2_mostGroups 26 = .ok (.iload 5, 2) := by decide +kernel
theorem dX2_mostGroups_28 : decode cX2_mostGroups 28 = .ok (.ifCond .le 21, 3) := by decide +kernel
theorem dX2_mostGroups_31 : decode cX2_mostGroups 31 = .ok (.iload 5, 2) := by decide +kernel
theorem dX2_mostGroups_33 : decode cX2_mostGroups 33 = .ok (.iload_n 1, 1) := by decide +kernel
theorem dX2_mostGroups_34 : decode cX2_mostGroups 34 = .ok (.if_icmp .ge 15, 3) := by decide +kernel
theorem dX2_mostGroups_37 : decode cX2_mostGroups 37 = .ok (.iload_n 3, 1) := by decide +kernel
theorem dX2_mostGroups_38 : decode cX2_mostGroups 38 = .ok (.aload_n 0, 1) := by decide +kernel
theorem dX2_mostGroups_39 : decode cX2_mostGroups 39 = .ok (.getfield 15, 3) := by decide +kernel
theorem dX2_mostGroups_42 : decode cX2_mostGroups 42 = .ok (.iload 5, 2) := by decide +kernel
theorem dX2_mostGroups_44 : decode cX2_mostGroups 44 = .ok (.iaload, 1) := by decide +kernel
theorem dX2_mostGroups_45 : decode cX2_mostGroups 45 = .ok (.invokestatic 26, 3) := by decide +kernel
theorem dX2_mostGroups_48 : decode cX2_mostGroups 48 = .ok (.istore_n 3, 1) := by decide +kernel
theorem dX2_mostGroups_49 : decode cX2_mostGroups 49 = .ok (.iload 5, 2) := by decide +kernel
theorem dX2_mostGroups_51 : decode cX2_mostGroups 51 = .ok (.iload_n 1, 1) := by decide +kernel
theorem dX2_mostGroups_52 : decode cX2_mostGroups 52 = .ok (.if_icmp .ge 13, 3) := by decide +kernel
theorem dX2_mostGroups_55 : decode cX2_mostGroups 55 = .ok (.iload_n 2, 1) := by decide +kernel
theorem dX2_mostGroups_56 : decode cX2_mostGroups 56 = .ok (.aload_n 0, 1) := by decide +kernel
theorem dX2_mostGroups_57 : decode cX2_mostGroups 57 = .ok (.getfield 9, 3) := by decide +kernel
theorem dX2_mostGroups_60 : decode cX2_mostGroups 60 = .ok (.iload 4, 2) := by decide +kernel
theorem dX2_mostGroups_62 : decode cX2_mostGroups 62 = .ok (.iaload, 1) := by decide +kernel
theorem dX2_mostGroups_63 : decode cX2_mostGroups 63 = .ok (.iadd, 1) := by decide +kernel
theorem dX2_mostGroups_64 : decode cX2_mostGroups 64 = .ok (.istore_n 2, 1) := by decide +kernel
theorem dX2_mostGroups_65 : decode cX2_mostGroups 65 = .ok (.iinc 4 1, 3) := by decide +kernel
theorem dX2_mostGroups_68 : decode cX2_mostGroups 68 = .ok (.goto (-61), 3) := by decide +kernel
theorem dX2_mostGroups_71 : decode cX2_mostGroups 71 = .ok (.iload_n 2, 1) := by decide +kernel
theorem dX2_mostGroups_72 : decode cX2_mostGroups 72 = .ok (.ifCond .ne 9, 3) := by decide +kernel
theorem dX2_mostGroups_75 : decode cX2_mostGroups 75 = .ok (.iload_n 3, 1) := by decide +kernel
theorem dX2_mostGroups_76 : decode cX2_mostGroups 76 = .ok (.iconst 1, 1) := by decide +kernel
theorem dX2_mostGroups_77 : decode cX2_mostGroups 77 = .ok (.iadd, 1) := by decide +kernel
theorem dX2_mostGroups_78 : decode cX2_mostGroups 78 = .ok (.goto 4, 3) := by decide +kernel
theorem dX2_mostGroups_81 : decode cX2_mostGroups 81 = .ok (.iload_n 3, 1) := by decide +kernel
theorem dX2_mostGroups_82 : decode cX2_mostGroups 82 = .ok (.ireturn, 1) := by decide +kernel
theorem dX3_init_0 : decode cX3_init 0 = .ok (.aload_n 0, 1) := by decide +kernel
theorem dX3_init_1 : decode cX3_init 1 = .ok (.invokespecial 3, 3) := by decide +kernel
theorem dX3_init_4 : decode cX3_init 4 = .ok (.aload_n 0, 1) := by decide +kernel
theorem dX3_init_5 : decode cX3_init 5 = .ok (.iconst 0, 1) := by decide +kernel
theorem dX3_init_6 : decode cX3_init 6 = .ok (.iload_n 2, 1) := by decide +kernel
theorem dX3_init_7 : decode cX3_init 7 = .ok (.invokestatic 9, 3) := by decide +kernel
theorem dX3_init_10 : decode cX3_init 10 = .ok (.putfield 15, 3) := by decide +kernel
theorem dX3_init_13 : decode cX3_init 13 = .ok (.aload_n 0, 1) := by decide +kernel
theorem dX3_init_14 : decode cX3_init 14 = .ok (.iload_n 3, 1) := by decide +kernel
theorem dX3_init_15 : decode cX3_init 15 = .ok (.putfield 21, 3) := by decide +kernel
theorem dX3_init_18 : decode cX3_init 18 = .ok (.aload_n 0, 1) := by decide +kernel
theorem dX3_init_19 : decode cX3_init 19 = .ok (.iconst 0, 1) := by decide +kernel
theorem dX3_init_20 : decode cX3_init 20 = .ok (.iload_n 1, 1) := by decide +kernel
theorem dX3_init_21 : decode cX3_init 21 = .ok (.invokestatic 9, 3) := by decide +kernel
theorem dX3_init_24 : decode cX3_init 24 = .ok (.newarray .int, 2) := by decide +kernel
theorem dX3_init_26 : decode cX3_init 26 = .ok (.putfield 24, 3) := by decide +kernel
theorem dX3_init_29 : decode cX3_init 29 = .ok (.aload_n 0, 1) := by decide +kernel
theorem dX3_init_30 : decode cX3_init 30 = .ok (.aload_n 0, 1) := by decide +kernel
theorem dX3_init_31 : decode cX3_init 31 = .ok (.getfield 24, 3) := by decide +kernel
theorem dX3_init_34 : decode cX3_init 34 = .ok (.arraylength, 1) := by decide +kernel
theorem dX3_init_35 : decode cX3_init 35 = .ok (.aload_n 0, 1) := by decide +kernel
theorem dX3_init_36 : decode cX3_init 36 = .ok (.getfield 15, 3) := by decide +kernel
theorem dX3_init_39 : decode cX3_init 39 = .ok (.imul, 1) := by decide +kernel
theorem dX3_init_40 : decode cX3_init 40 = .ok (.newarray .int, 2) := by decide +kernel
theorem dX3_init_42 : decode cX3_init 42 = .ok (.putfield 28, 3) := by decide +kernel
theorem dX3_init_45 : decode cX3_init 45 = .ok (.iconst 0, 1) := by decide +kernel
theorem dX3_init_46 : decode cX3_init 46 = .ok (.istore 4, 2) := by decide +kernel
theorem dX3_init_48 : decode cX3_init 48 = .ok (.iload 4, 2) := by decide +kernel
theorem dX3_init_50 : decode cX3_init 50 = .ok (.aload_n 0, 1) := by decide +kernel
theorem dX3_init_51 : decode cX3_init 51 = .ok (.getfield 24, 3) := by decide +kernel
theorem dX3_init_54 : decode cX3_init 54 = .ok (.arraylength, 1) := by decide +kernel
theorem dX3_init_55 : decode cX3_init 55 = .ok (.if_icmp .ge 17, 3) := by decide +kernel
theorem dX3_init_58 : decode cX3_init 58 = .ok (.aload_n 0, 1) := by decide +kernel
theorem dX3_init_59 : decode cX3_init 59 = .ok (.getfield 24, 3) := by decide +kernel
theorem dX3_init_62 : decode cX3_init 62 = .ok (.iload 4, 2) := by decide +kernel
theorem dX3_init_64 : decode cX3_init 64 = .ok (.iconst (-1), 1) := by decide +kernel
theorem dX3_init_65 : decode cX3_init 65 = .ok (.iastore, 1) := by decide +kernel
theorem dX3_init_66 : decode cX3_init 66 = .ok (.iinc 4 1, 3) := by decide +kernel
theorem dX3_init_69 : decode cX3_init 69 = .ok (.goto (-21), 3) := by decide +kernel
theorem dX3_init_72 : decode cX3_init 72 = .ok (.return_, 1) := by decide +kernel
theorem dX3_knows_0 : decode cX3_knows 0 = .ok (.iload_n 1, 1) := by decide +kernel
theorem dX3_knows_1 : decode cX3_knows 1 = .ok (.ifCond .lt 16, 3) := by decide +kernel
theorem dX3_knows_4 : decode cX3_knows 4 = .ok (.iload_n 1, 1) := by decide +kernel
theorem dX3_knows_5 : decode cX3_knows 5 = .ok (.aload_n 0, 1) := by decide +kernel
theorem dX3_knows_6 : decode cX3_knows 6 = .ok (.getfield 24, 3) := by decide +kernel
theorem dX3_knows_9 : decode cX3_knows 9 = .ok (.arraylength, 1) := by decide +kernel
theorem dX3_knows_10 : decode cX3_knows 10 = .ok (.if_icmp .ge 7, 3) := by decide +kernel
theorem dX3_knows_13 : decode cX3_knows 13 = .ok (.iconst 1, 1) := by decide +kernel
theorem dX3_knows_14 : decode cX3_knows 14 = .ok (.goto 4, 3) := by decide +kernel
theorem dX3_knows_17 : decode cX3_knows 17 = .ok (.iconst 0, 1) := by decide +kernel
theorem dX3_knows_18 : decode cX3_knows 18 = .ok (.ireturn, 1) := by decide +kernel
theorem dX3_sizeOf_0 : decode cX3_sizeOf 0 = .ok (.aload_n 0, 1) := by decide +kernel
theorem dX3_sizeOf_1 : decode cX3_sizeOf 1 = .ok (.iload_n 1, 1) := by decide +kernel
theorem dX3_sizeOf_2 : decode cX3_sizeOf 2 = .ok (.invokevirtual 31, 3) := by decide +kernel
theorem dX3_sizeOf_5 : decode cX3_sizeOf 5 = .ok (.ifCond .eq 12, 3) := by decide +kernel
theorem dX3_sizeOf_8 : decode cX3_sizeOf 8 = .ok (.aload_n 0, 1) := by decide +kernel
theorem dX3_sizeOf_9 : decode cX3_sizeOf 9 = .ok (.getfield 24, 3) := by decide +kernel
theorem dX3_sizeOf_12 : decode cX3_sizeOf 12 = .ok (.iload_n 1, 1) := by decide +kernel
theorem dX3_sizeOf_13 : decode cX3_sizeOf 13 = .ok (.iaload, 1) := by decide +kernel
theorem dX3_sizeOf_14 : decode cX3_sizeOf 14 = .ok (.goto 4, 3) := by decide +kernel
theorem dX3_sizeOf_17 : decode cX3_sizeOf 17 = .ok (.iconst (-1), 1) := by decide +kernel
theorem dX3_sizeOf_18 : decode cX3_sizeOf 18 = .ok (.ireturn, 1) := by decide +kernel
theorem dX3_isThere_0 : decode cX3_isThere 0 = .ok (.aload_n 0, 1) := by decide +kernel
theorem dX3_isThere_1 : decode cX3_isThere 1 = .ok (.iload_n 1, 1) := by decide +kernel
theorem dX3_isThere_2 : decode cX3_isThere 2 = .ok (.invokevirtual 35, 3) := by decide +kernel
theorem dX3_isThere_5 : decode cX3_isThere 5 = .ok (.ifCond .lt 7, 3) := by decide +kernel
theorem dX3_isThere_8 : decode cX3_isThere 8 = .ok (.iconst 1, 1) := by decide +kernel
theorem dX3_isThere_9 : decode cX3_isThere 9 = .ok (.goto 4, 3) := by decide +kernel
theorem dX3_isThere_12 : decode cX3_isThere 12 = .ok (.iconst 0, 1) := by decide +kernel
theorem dX3_isThere_13 : decode cX3_isThere 13 = .ok (.ireturn, 1) := by decide +kernel
theorem dX3_has_0 : decode cX3_has 0 = .ok (.iload_n 2, 1) := by decide +kernel
theorem dX3_has_1 : decode cX3_has 1 = .ok (.ifCond .lt 16, 3) := by decide +kernel
theorem dX3_has_4 : decode cX3_has 4 = .ok (.iload_n 2, 1) := by decide +kernel
theorem dX3_has_5 : decode cX3_has 5 = .ok (.aload_n 0, 1) := by decide +kernel
theorem dX3_has_6 : decode cX3_has 6 = .ok (.iload_n 1, 1) := by decide +kernel
theorem dX3_has_7 : decode cX3_has 7 = .ok (.invokevirtual 35, 3) := by decide +kernel
theorem dX3_has_10 : decode cX3_has 10 = .ok (.if_icmp .ge 7, 3) := by decide +kernel
theorem dX3_has_13 : decode cX3_has 13 = .ok (.iconst 1, 1) := by decide +kernel
theorem dX3_has_14 : decode cX3_has 14 = .ok (.goto 4, 3) := by decide +kernel
theorem dX3_has_17 : decode cX3_has 17 = .ok (.iconst 0, 1) := by decide +kernel
theorem dX3_has_18 : decode cX3_has 18 = .ok (.ireturn, 1) := by decide +kernel
theorem dX3_hasSpan_0 : decode cX3_hasSpan 0 = .ok (.aload_n 0, 1) := by decide +kernel
theorem dX3_hasSpan_1 : decode cX3_hasSpan 1 = .ok (.iload_n 1, 1) := by decide +kernel
theorem dX3_hasSpan_2 : decode cX3_hasSpan 2 = .ok (.invokevirtual 35, 3) := by decide +kernel
theorem dX3_hasSpan_5 : decode cX3_hasSpan 5 = .ok (.istore 4, 2) := by decide +kernel
theorem dX3_hasSpan_7 : decode cX3_hasSpan 7 = .ok (.iload_n 2, 1) := by decide +kernel
theorem dX3_hasSpan_8 : decode cX3_hasSpan 8 = .ok (.ifCond .lt 25, 3) := by decide +kernel
theorem dX3_hasSpan_11 : decode cX3_hasSpan 11 = .ok (.iload_n 3, 1) := by decide +kernel
theorem dX3_hasSpan_12 : decode cX3_hasSpan 12 = .ok (.ifCond .lt 21, 3) := by decide +kernel
theorem dX3_hasSpan_15 : decode cX3_hasSpan 15 = .ok (.iload_n 2, 1) := by decide +kernel
theorem dX3_hasSpan_16 : decode cX3_hasSpan 16 = .ok (.iload 4, 2) := by decide +kernel
theorem dX3_hasSpan_18 : decode cX3_hasSpan 18 = .ok (.if_icmp .gt 15, 3) := by decide +kernel
theorem dX3_hasSpan_21 : decode cX3_hasSpan 21 = .ok (.iload_n 3, 1) := by decide +kernel
theorem dX3_hasSpan_22 : decode cX3_hasSpan 22 = .ok (.iload 4, 2) := by decide +kernel
theorem dX3_hasSpan_24 : decode cX3_hasSpan 24 = .ok (.iload_n 2, 1) := by decide +kernel
theorem dX3_hasSpan_25 : decode cX3_hasSpan 25 = .ok (.isub, 1) := by decide +kernel
theorem dX3_hasSpan_26 : decode cX3_hasSpan 26 = .ok (.if_icmp .gt 7, 3) := by decide +kernel
theorem dX3_hasSpan_29 : decode cX3_hasSpan 29 = .ok (.iconst 1, 1) := by decide +kernel
theorem dX3_hasSpan_30 : decode cX3_hasSpan 30 = .ok (.goto 4, 3) := by decide +kernel
theorem dX3_hasSpan_33 : decode cX3_hasSpan 33 = .ok (.iconst 0, 1) := by decide +kernel
theorem dX3_hasSpan_34 : decode cX3_hasSpan 34 = .ok (.ireturn, 1) := by decide +kernel
theorem dX3_get_0 : decode cX3_get 0 = .ok (.aload_n 0, 1) := by decide +kernel
theorem dX3_get_1 : decode cX3_get 1 = .ok (.iload_n 1, 1) := by decide +kernel
theorem dX3_get_2 : decode cX3_get 2 = .ok (.iload_n 2, 1) := by decide +kernel
theorem dX3_get_3 : decode cX3_get 3 = .ok (.invokevirtual 39, 3) := by decide +kernel
theorem dX3_get_6 : decode cX3_get 6 = .ok (.ifCond .eq 19, 3) := by decide +kernel
theorem dX3_get_9 : decode cX3_get 9 = .ok (.aload_n 0, 1) := by decide +kernel
theorem dX3_get_10 : decode cX3_get 10 = .ok (.getfield 28, 3) := by decide +kernel
theorem dX3_get_13 : decode cX3_get 13 = .ok (.iload_n 1, 1) := by decide +kernel
theorem dX3_get_14 : decode cX3_get 14 = .ok (.aload_n 0, 1) := by decide +kernel
theorem dX3_get_15 : decode cX3_get 15 = .ok (.getfield 15, 3) := by decide +kernel
theorem dX3_get_18 : decode cX3_get 18 = .ok (.imul, 1) := by decide +kernel
theorem dX3_get_19 : decode cX3_get 19 = .ok (.iload_n 2, 1) := by decide +kernel
theorem dX3_get_20 : decode cX3_get 20 = .ok (.iadd, 1) := by decide +kernel
theorem dX3_get_21 : decode cX3_get 21 = .ok (.iaload, 1) := by decide +kernel
theorem dX3_get_22 : decode cX3_get 22 = .ok (.goto 7, 3) := by decide +kernel
theorem dX3_get_25 : decode cX3_get 25 = .ok (.aload_n 0, 1) := by decide +kernel
theorem dX3_get_26 : decode cX3_get 26 = .ok (.getfield 21, 3) := by decide +kernel
theorem dX3_get_29 : decode cX3_get 29 = .ok (.ireturn, 1) := by decide +kernel
theorem dX3_set_0 : decode cX3_set 0 = .ok (.aload_n 0, 1) := by decide +kernel
theorem dX3_set_1 : decode cX3_set 1 = .ok (.iload_n 1, 1) := by decide +kernel
theorem dX3_set_2 : decode cX3_set 2 = .ok (.iload_n 2, 1) := by decide +kernel
theorem dX3_set_3 : decode cX3_set 3 = .ok (.invokevirtual 39, 3) := by decide +kernel
theorem dX3_set_6 : decode cX3_set 6 = .ok (.ifCond .eq 17, 3) := by decide +kernel
theorem dX3_set_9 : decode cX3_set 9 = .ok (.aload_n 0, 1) := by decide +kernel
theorem dX3_set_10 : decode cX3_set 10 = .ok (.getfield 28, 3) := by decide +kernel
theorem dX3_set_13 : decode cX3_set 13 = .ok (.iload_n 1, 1) := by decide +kernel
theorem dX3_set_14 : decode cX3_set 14 = .ok (.aload_n 0, 1) := by decide +kernel
theorem dX3_set_15 : decode cX3_set 15 = .ok (.getfield 15, 3) := by decide +kernel
theorem dX3_set_18 : decode cX3_set 18 = .ok (.imul, 1) := by decide +kernel
theorem dX3_set_19 : decode cX3_set 19 = .ok (.iload_n 2, 1) := by decide +kernel
theorem dX3_set_20 : decode cX3_set 20 = .ok (.iadd, 1) := by decide +kernel
theorem dX3_set_21 : decode cX3_set 21 = .ok (.iload_n 3, 1) := by decide +kernel
theorem dX3_set_22 : decode cX3_set 22 = .ok (.iastore, 1) := by decide +kernel
theorem dX3_set_23 : decode cX3_set 23 = .ok (.return_, 1) := by decide +kernel
theorem dX3_make_0 : decode cX3_make 0 = .ok (.aload_n 0, 1) := by decide +kernel
theorem dX3_make_1 : decode cX3_make 1 = .ok (.iload_n 1, 1) := by decide +kernel
theorem dX3_make_2 : decode cX3_make 2 = .ok (.invokevirtual 31, 3) := by decide +kernel
theorem dX3_make_5 : decode cX3_make 5 = .ok (.ifCond .eq 15, 3) := by decide +kernel
theorem dX3_make_8 : decode cX3_make 8 = .ok (.iload_n 2, 1) := by decide +kernel
theorem dX3_make_9 : decode cX3_make 9 = .ok (.ifCond .lt 11, 3) := by decide +kernel
theorem dX3_make_12 : decode cX3_make 12 = .ok (.iload_n 2, 1) := by decide +kernel
theorem dX3_make_13 : decode cX3_make 13 = .ok (.aload_n 0, 1) := by decide +kernel
theorem dX3_make_14 : decode cX3_make 14 = .ok (.getfield 15, 3) := by decide +kernel
theorem dX3_make_17 : decode cX3_make 17 = .ok (.if_icmp .le 4, 3) := by decide +kernel
theorem dX3_make_20 : decode cX3_make 20 = .ok (.return_, 1) := by decide +kernel
theorem dX3_make_21 : decode cX3_make 21 = .ok (.aload_n 0, 1) := by decide +kernel
theorem dX3_make_22 : decode cX3_make 22 = .ok (.getfield 24, 3) := by decide +kernel
theorem dX3_make_25 : decode cX3_make 25 = .ok (.iload_n 1, 1) := by decide +kernel
theorem dX3_make_26 : decode cX3_make 26 = .ok (.iload_n 2, 1) := by decide +kernel
theorem dX3_make_27 : decode cX3_make 27 = .ok (.iastore, 1) := by decide +kernel
theorem dX3_make_28 : decode cX3_make 28 = .ok (.iconst 0, 1) := by decide +kernel
theorem dX3_make_29 : decode cX3_make 29 = .ok (.istore_n 3, 1) := by decide +kernel
theorem dX3_make_30 : decode cX3_make 30 = .ok (.iload_n 3, 1) := by decide +kernel
theorem dX3_make_31 : decode cX3_make 31 = .ok (.iload_n 2, 1) := by decide +kernel
theorem dX3_make_32 : decode cX3_make 32 = .ok (.if_icmp .ge 19, 3) := by decide +kernel
theorem dX3_make_35 : decode cX3_make 35 = .ok (.aload_n 0, 1) := by decide +kernel
theorem dX3_make_36 : decode cX3_make 36 = .ok (.iload_n 1, 1) := by decide +kernel
theorem dX3_make_37 : decode cX3_make 37 = .ok (.iload_n 3, 1) := by decide +kernel
theorem dX3_make_38 : decode cX3_make 38 = .ok (.aload_n 0, 1) := by decide +kernel
theorem dX3_make_39 : decode cX3_make 39 = .ok (.getfield 21, 3) := by decide +kernel
theorem dX3_make_42 : decode cX3_make 42 = .ok (.invokevirtual 43, 3) := by decide +kernel
theorem dX3_make_45 : decode cX3_make 45 = .ok (.iinc 3 1, 3) := by decide +kernel
theorem dX3_make_48 : decode cX3_make 48 = .ok (.goto (-18), 3) := by decide +kernel
theorem dX3_make_51 : decode cX3_make 51 = .ok (.return_, 1) := by decide +kernel
theorem dX3_drop_0 : decode cX3_drop 0 = .ok (.aload_n 0, 1) := by decide +kernel
theorem dX3_drop_1 : decode cX3_drop 1 = .ok (.iload_n 1, 1) := by decide +kernel
theorem dX3_drop_2 : decode cX3_drop 2 = .ok (.invokevirtual 31, 3) := by decide +kernel
theorem dX3_drop_5 : decode cX3_drop 5 = .ok (.ifCond .eq 10, 3) := by decide +kernel
theorem dX3_drop_8 : decode cX3_drop 8 = .ok (.aload_n 0, 1) := by decide +kernel
theorem dX3_drop_9 : decode cX3_drop 9 = .ok (.getfield 24, 3) := by decide +kernel
theorem dX3_drop_12 : decode cX3_drop 12 = .ok (.iload_n 1, 1) := by decide +kernel
theorem dX3_drop_13 : decode cX3_drop 13 = .ok (.iconst (-1), 1) := by decide +kernel
theorem dX3_drop_14 : decode cX3_drop 14 = .ok (.iastore, 1) := by decide +kernel
theorem dX3_drop_15 : decode cX3_drop 15 = .ok (.return_, 1) := by decide +kernel
theorem dX3_move_0 : decode cX3_move 0 = .ok (.aload_n 0, 1) := by decide +kernel
theorem dX3_move_1 : decode cX3_move 1 = .ok (.iload_n 1, 1) := by decide +kernel
theorem dX3_move_2 : decode cX3_move 2 = .ok (.iload_n 2, 1) := by decide +kernel
theorem dX3_move_3 : decode cX3_move 3 = .ok (.iload 5, 2) := by decide +kernel
theorem dX3_move_5 : decode cX3_move 5 = .ok (.invokevirtual 47, 3) := by decide +kernel
theorem dX3_move_8 : decode cX3_move 8 = .ok (.ifCond .eq 45, 3) := by decide +kernel
theorem dX3_move_11 : decode cX3_move 11 = .ok (.aload_n 0, 1) := by decide +kernel
theorem dX3_move_12 : decode cX3_move 12 = .ok (.iload_n 3, 1) := by decide +kernel
theorem dX3_move_13 : decode cX3_move 13 = .ok (.iload 4, 2) := by decide +kernel
theorem dX3_move_15 : decode cX3_move 15 = .ok (.iload 5, 2) := by decide +kernel
theorem dX3_move_17 : decode cX3_move 17 = .ok (.invokevirtual 47, 3) := by decide +kernel
theorem dX3_move_20 : decode cX3_move 20 = .ok (.ifCond .eq 33, 3) := by decide +kernel
theorem dX3_move_23 : decode cX3_move 23 = .ok (.aload_n 0, 1) := by decide +kernel
theorem dX3_move_24 : decode cX3_move 24 = .ok (.getfield 28, 3) := by decide +kernel
theorem dX3_move_27 : decode cX3_move 27 = .ok (.iload_n 1, 1) := by decide +kernel
theorem dX3_move_28 : decode cX3_move 28 = .ok (.aload_n 0, 1) := by decide +kernel
theorem dX3_move_29 : decode cX3_move 29 = .ok (.getfield 15, 3) := by decide +kernel
theorem dX3_move_32 : decode cX3_move 32 = .ok (.imul, 1) := by decide +kernel
theorem dX3_move_33 : decode cX3_move 33 = .ok (.iload_n 2, 1) := by decide +kernel
theorem dX3_move_34 : decode cX3_move 34 = .ok (.iadd, 1) := by decide +kernel
theorem dX3_move_35 : decode cX3_move 35 = .ok (.aload_n 0, 1) := by decide +kernel
theorem dX3_move_36 : decode cX3_move 36 = .ok (.getfield 28, 3) := by decide +kernel
theorem dX3_move_39 : decode cX3_move 39 = .ok (.iload_n 3, 1) := by decide +kernel
theorem dX3_move_40 : decode cX3_move 40 = .ok (.aload_n 0, 1) := by decide +kernel
theorem dX3_move_41 : decode cX3_move 41 = .ok (.getfield 15, 3) := by decide +kernel
theorem dX3_move_44 : decode cX3_move 44 = .ok (.imul, 1) := by decide +kernel
theorem dX3_move_45 : decode cX3_move 45 = .ok (.iload 4, 2) := by decide +kernel
theorem dX3_move_47 : decode cX3_move 47 = .ok (.iadd, 1) := by decide +kernel
theorem dX3_move_48 : decode cX3_move 48 = .ok (.iload 5, 2) := by decide +kernel
theorem dX3_move_50 : decode cX3_move 50 = .ok (.invokestatic 51, 3) := by decide +kernel
theorem dX3_move_53 : decode cX3_move 53 = .ok (.return_, 1) := by decide +kernel
theorem dX3_sumOf_0 : decode cX3_sumOf 0 = .ok (.lconst 0, 1) := by decide +kernel
theorem dX3_sumOf_1 : decode cX3_sumOf 1 = .ok (.lstore_n 2, 1) := by decide +kernel
theorem dX3_sumOf_2 : decode cX3_sumOf 2 = .ok (.iconst 0, 1) := by decide +kernel
theorem dX3_sumOf_3 : decode cX3_sumOf 3 = .ok (.istore 4, 2) := by decide +kernel
theorem dX3_sumOf_5 : decode cX3_sumOf 5 = .ok (.iload 4, 2) := by decide +kernel
theorem dX3_sumOf_7 : decode cX3_sumOf 7 = .ok (.aload_n 0, 1) := by decide +kernel
theorem dX3_sumOf_8 : decode cX3_sumOf 8 = .ok (.iload_n 1, 1) := by decide +kernel
theorem dX3_sumOf_9 : decode cX3_sumOf 9 = .ok (.invokevirtual 35, 3) := by decide +kernel
theorem dX3_sumOf_12 : decode cX3_sumOf 12 = .ok (.if_icmp .ge 20, 3) := by decide +kernel
theorem dX3_sumOf_15 : decode cX3_sumOf 15 = .ok (.lload_n 2, 1) := by decide +kernel
theorem dX3_sumOf_16 : decode cX3_sumOf 16 = .ok (.aload_n 0, 1) := by decide +kernel
theorem dX3_sumOf_17 : decode cX3_sumOf 17 = .ok (.iload_n 1, 1) := by decide +kernel
theorem dX3_sumOf_18 : decode cX3_sumOf 18 = .ok (.iload 4, 2) := by decide +kernel
theorem dX3_sumOf_20 : decode cX3_sumOf 20 = .ok (.invokevirtual 57, 3) := by decide +kernel
theorem dX3_sumOf_23 : decode cX3_sumOf 23 = .ok (.i2l, 1) := by decide +kernel
theorem dX3_sumOf_24 : decode cX3_sumOf 24 = .ok (.ladd, 1) := by decide +kernel
theorem dX3_sumOf_25 : decode cX3_sumOf 25 = .ok (.lstore_n 2, 1) := by decide +kernel
theorem dX3_sumOf_26 : decode cX3_sumOf 26 = .ok (.iinc 4 1, 3) := by decide +kernel
theorem dX3_sumOf_29 : decode cX3_sumOf 29 = .ok (.goto (-24), 3) := by decide +kernel
theorem dX3_sumOf_32 : decode cX3_sumOf 32 = .ok (.lload_n 2, 1) := by decide +kernel
theorem dX3_sumOf_33 : decode cX3_sumOf 33 = .ok (.lreturn, 1) := by decide +kernel
theorem dX3_thereCount_0 : decode cX3_thereCount 0 = .ok (.iconst 0, 1) := by decide +kernel
theorem dX3_thereCount_1 : decode cX3_thereCount 1 = .ok (.istore_n 1, 1) := by decide +kernel
theorem dX3_thereCount_2 : decode cX3_thereCount 2 = .ok (.iconst 0, 1) := by decide +kernel
theorem dX3_thereCount_3 : decode cX3_thereCount 3 = .ok (.istore_n 2, 1) := by decide +kernel
theorem dX3_thereCount_4 : decode cX3_thereCount 4 = .ok (.iload_n 2, 1) := by decide +kernel
theorem dX3_thereCount_5 : decode cX3_thereCount 5 = .ok (.aload_n 0, 1) := by decide +kernel
theorem dX3_thereCount_6 : decode cX3_thereCount 6 = .ok (.getfield 24, 3) := by decide +kernel
theorem dX3_thereCount_9 : decode cX3_thereCount 9 = .ok (.arraylength, 1) := by decide +kernel
theorem dX3_thereCount_10 : decode cX3_thereCount 10 = .ok (.if_icmp .ge 20, 3) := by decide +kernel
theorem dX3_thereCount_13 : decode cX3_thereCount 13 = .ok (.aload_n 0, 1) := by decide +kernel
theorem dX3_thereCount_14 : decode cX3_thereCount 14 = .ok (.iload_n 2, 1) := by decide +kernel
theorem dX3_thereCount_15 : decode cX3_thereCount 15 = .ok (.invokevirtual 60, 3) := by decide +kernel
theorem dX3_thereCount_18 : decode cX3_thereCount 18 = .ok (.ifCond .eq 6, 3) := by decide +kernel
theorem dX3_thereCount_21 : decode cX3_thereCount 21 = .ok (.iinc 1 1, 3) := by decide +kernel
theorem dX3_thereCount_24 : decode cX3_thereCount 24 = .ok (.iinc 2 1, 3) := by decide +kernel
theorem dX3_thereCount_27 : decode cX3_thereCount 27 = .ok (.goto (-23), 3) := by decide +kernel
theorem dX3_thereCount_30 : decode cX3_thereCount 30 = .ok (.iload_n 1, 1) := by decide +kernel
theorem dX3_thereCount_31 : decode cX3_thereCount 31 = .ok (.ireturn, 1) := by decide +kernel
theorem dX3_digestAll_0 : decode cX3_digestAll 0 = .ok (.lload_n 1, 1) := by decide +kernel
theorem dX3_digestAll_1 : decode cX3_digestAll 1 = .ok (.lstore_n 3, 1) := by decide +kernel
theorem dX3_digestAll_2 : decode cX3_digestAll 2 = .ok (.iconst 0, 1) := by decide +kernel
theorem dX3_digestAll_3 : decode cX3_digestAll 3 = .ok (.istore 5, 2) := by decide +kernel
theorem dX3_digestAll_5 : decode cX3_digestAll 5 = .ok (.iload 5, 2) := by decide +kernel
theorem dX3_digestAll_7 : decode cX3_digestAll 7 = .ok (.aload_n 0, 1) := by decide +kernel
theorem dX3_digestAll_8 : decode cX3_digestAll 8 = .ok (.getfield 24, 3) := by decide +kernel
theorem dX3_digestAll_11 : decode cX3_digestAll 11 = .ok (.arraylength, 1) := by decide +kernel
theorem dX3_digestAll_12 : decode cX3_digestAll 12 = .ok (.if_icmp .ge 59, 3) := by decide +kernel
theorem dX3_digestAll_15 : decode cX3_digestAll 15 = .ok (.ldc2_w 63, 3) := by decide +kernel
theorem dX3_digestAll_18 : decode cX3_digestAll 18 = .ok (.lload_n 3, 1) := by decide +kernel
theorem dX3_digestAll_19 : decode cX3_digestAll 19 = .ok (.lmul, 1) := by decide +kernel
theorem dX3_digestAll_20 : decode cX3_digestAll 20 = .ok (.aload_n 0, 1) := by decide +kernel
theorem dX3_digestAll_21 : decode cX3_digestAll 21 = .ok (.iload 5, 2) := by decide +kernel
theorem dX3_digestAll_23 : decode cX3_digestAll 23 = .ok (.invokevirtual 35, 3) := by decide +kernel
theorem dX3_digestAll_26 : decode cX3_digestAll 26 = .ok (.i2l, 1) := by decide +kernel
theorem dX3_digestAll_27 : decode cX3_digestAll 27 = .ok (.ladd, 1) := by decide +kernel
theorem dX3_digestAll_28 : decode cX3_digestAll 28 = .ok (.lstore_n 3, 1) := by decide +kernel
theorem dX3_digestAll_29 : decode cX3_digestAll 29 = .ok (.iconst 0, 1) := by decide +kernel
theorem dX3_digestAll_30 : decode cX3_digestAll 30 = .ok (.istore 6, 2) := by decide +kernel
theorem dX3_digestAll_32 : decode cX3_digestAll 32 = .ok (.iload 6, 2) := by decide +kernel
theorem dX3_digestAll_34 : decode cX3_digestAll 34 = .ok (.aload_n 0, 1) := by decide +kernel
theorem dX3_digestAll_35 : decode cX3_digestAll 35 = .ok (.iload 5, 2) := by decide +kernel
theorem dX3_digestAll_37 : decode cX3_digestAll 37 = .ok (.invokevirtual 35, 3) := by decide +kernel
theorem dX3_digestAll_40 : decode cX3_digestAll 40 = .ok (.if_icmp .ge 25, 3) := by decide +kernel
theorem dX3_digestAll_43 : decode cX3_digestAll 43 = .ok (.ldc2_w 63, 3) := by decide +kernel
theorem dX3_digestAll_46 : decode cX3_digestAll 46 = .ok (.lload_n 3, 1) := by decide +kernel
theorem dX3_digestAll_47 : decode cX3_digestAll 47 = .ok (.lmul, 1) := by decide +kernel
theorem dX3_digestAll_48 : decode cX3_digestAll 48 = .ok (.aload_n 0, 1) := by decide +kernel
theorem dX3_digestAll_49 : decode cX3_digestAll 49 = .ok (.iload 5, 2) := by decide +kernel
theorem dX3_digestAll_51 : decode cX3_digestAll 51 = .ok (.iload 6, 2) := by decide +kernel
theorem dX3_digestAll_53 : decode cX3_digestAll 53 = .ok (.invokevirtual 57, 3) := by decide +kernel
theorem dX3_digestAll_56 : decode cX3_digestAll 56 = .ok (.i2l, 1) := by decide +kernel
theorem dX3_digestAll_57 : decode cX3_digestAll 57 = .ok (.ladd, 1) := by decide +kernel
theorem dX3_digestAll_58 : decode cX3_digestAll 58 = .ok (.lstore_n 3, 1) := by decide +kernel
theorem dX3_digestAll_59 : decode cX3_digestAll 59 = .ok (.iinc 6 1, 3) := by decide +kernel
theorem dX3_digestAll_62 : decode cX3_digestAll 62 = .ok (.goto (-30), 3) := by decide +kernel
theorem dX3_digestAll_65 : decode cX3_digestAll 65 = .ok (.iinc 5 1, 3) := by decide +kernel
theorem dX3_digestAll_68 : decode cX3_digestAll 68 = .ok (.goto (-63), 3) := by decide +kernel
theorem dX3_digestAll_71 : decode cX3_digestAll 71 = .ok (.lload_n 3, 1) := by decide +kernel
theorem dX3_digestAll_72 : decode cX3_digestAll 72 = .ok (.lreturn, 1) := by decide +kernel
theorem dX4_init_0 : decode cX4_init 0 = .ok (.aload_n 0, 1) := by decide +kernel
theorem dX4_init_1 : decode cX4_init 1 = .ok (.invokespecial 3, 3) := by decide +kernel
theorem dX4_init_4 : decode cX4_init 4 = .ok (.aload_n 0, 1) := by decide +kernel
theorem dX4_init_5 : decode cX4_init 5 = .ok (.new 9, 3) := by decide +kernel
theorem dX4_init_8 : decode cX4_init 8 = .ok (.dup, 1) := by decide +kernel
theorem dX4_init_9 : decode cX4_init 9 = .ok (.invokespecial 11, 3) := by decide +kernel
theorem dX4_init_12 : decode cX4_init 12 = .ok (.putfield 12, 3) := by decide +kernel
theorem dX4_init_15 : decode cX4_init 15 = .ok (.aload_n 0, 1) := by decide +kernel
theorem dX4_init_16 : decode cX4_init 16 = .ok (.sipush 1200, 3) := by decide +kernel
theorem dX4_init_19 : decode cX4_init 19 = .ok (.newarray .int, 2) := by decide +kernel
theorem dX4_init_21 : decode cX4_init 21 = .ok (.putfield 18, 3) := by decide +kernel
theorem dX4_init_24 : decode cX4_init 24 = .ok (.aload_n 0, 1) := by decide +kernel
theorem dX4_init_25 : decode cX4_init 25 = .ok (.iload_n 1, 1) := by decide +kernel
theorem dX4_init_26 : decode cX4_init 26 = .ok (.putfield 22, 3) := by decide +kernel
theorem dX4_init_29 : decode cX4_init 29 = .ok (.return_, 1) := by decide +kernel
theorem dX4_isThere_0 : decode cX4_isThere 0 = .ok (.aload_n 0, 1) := by decide +kernel
theorem dX4_isThere_1 : decode cX4_isThere 1 = .ok (.getfield 22, 3) := by decide +kernel
theorem dX4_isThere_4 : decode cX4_isThere 4 = .ok (.ifCond .lt 7, 3) := by decide +kernel
theorem dX4_isThere_7 : decode cX4_isThere 7 = .ok (.iconst 1, 1) := by decide +kernel
theorem dX4_isThere_8 : decode cX4_isThere 8 = .ok (.goto 4, 3) := by decide +kernel
theorem dX4_isThere_11 : decode cX4_isThere 11 = .ok (.iconst 0, 1) := by decide +kernel
theorem dX4_isThere_12 : decode cX4_isThere 12 = .ok (.ireturn, 1) := by decide +kernel
theorem dX4_forget_0 : decode cX4_forget 0 = .ok (.aload_n 0, 1) := by decide +kernel
theorem dX4_forget_1 : decode cX4_forget 1 = .ok (.iconst (-1), 1) := by decide +kernel
theorem dX4_forget_2 : decode cX4_forget 2 = .ok (.putfield 22, 3) := by decide +kernel
theorem dX4_forget_5 : decode cX4_forget 5 = .ok (.return_, 1) := by decide +kernel
theorem dX4_startWith_0 : decode cX4_startWith 0 = .ok (.aload_n 0, 1) := by decide +kernel
theorem dX4_startWith_1 : decode cX4_startWith 1 = .ok (.getfield 12, 3) := by decide +kernel
theorem dX4_startWith_4 : decode cX4_startWith 4 = .ok (.aload_n 1, 1) := by decide +kernel
theorem dX4_startWith_5 : decode cX4_startWith 5 = .ok (.invokevirtual 26, 3) := by decide +kernel
theorem dX4_startWith_8 : decode cX4_startWith 8 = .ok (.aload_n 0, 1) := by decide +kernel
theorem dX4_startWith_9 : decode cX4_startWith 9 = .ok (.iconst 0, 1) := by decide +kernel
theorem dX4_startWith_10 : decode cX4_startWith 10 = .ok (.putfield 22, 3) := by decide +kernel
theorem dX4_startWith_13 : decode cX4_startWith 13 = .ok (.return_, 1) := by decide +kernel
theorem dX4_hasRoomFor_0 : decode cX4_hasRoomFor 0 = .ok (.aload_n 0, 1) := by decide +kernel
theorem dX4_hasRoomFor_1 : decode cX4_hasRoomFor 1 = .ok (.getfield 22, 3) := by decide +kernel
theorem dX4_hasRoomFor_4 : decode cX4_hasRoomFor 4 = .ok (.iload_n 1, 1) := by decide +kernel
theorem dX4_hasRoomFor_5 : decode cX4_hasRoomFor 5 = .ok (.iadd, 1) := by decide +kernel
theorem dX4_hasRoomFor_6 : decode cX4_hasRoomFor 6 = .ok (.bipush 40, 2) := by decide +kernel
theorem dX4_hasRoomFor_8 : decode cX4_hasRoomFor 8 = .ok (.if_icmp .gt 7, 3) := by decide +kernel
theorem dX4_hasRoomFor_11 : decode cX4_hasRoomFor 11 = .ok (.iconst 1, 1) := by decide +kernel
theorem dX4_hasRoomFor_12 : decode cX4_hasRoomFor 12 = .ok (.goto 4, 3) := by decide +kernel
theorem dX4_hasRoomFor_15 : decode cX4_hasRoomFor 15 = .ok (.iconst 0, 1) := by decide +kernel
theorem dX4_hasRoomFor_16 : decode cX4_hasRoomFor 16 = .ok (.ireturn, 1) := by decide +kernel
theorem dX4_noteDeed_0 : decode cX4_noteDeed 0 = .ok (.aload_n 0, 1) := by decide +kernel
theorem dX4_noteDeed_1 : decode cX4_noteDeed 1 = .ok (.iconst 1, 1) := by decide +kernel
theorem dX4_noteDeed_2 : decode cX4_noteDeed 2 = .ok (.invokevirtual 30, 3) := by decide +kernel
theorem dX4_noteDeed_5 : decode cX4_noteDeed 5 = .ok (.ifCond .eq 31, 3) := by decide +kernel
theorem dX4_noteDeed_8 : decode cX4_noteDeed 8 = .ok (.aload_n 0, 1) := by decide +kernel
theorem dX4_noteDeed_9 : decode cX4_noteDeed 9 = .ok (.getfield 12, 3) := by decide +kernel
theorem dX4_noteDeed_12 : decode cX4_noteDeed 12 = .ok (.aload_n 0, 1) := by decide +kernel
theorem dX4_noteDeed_13 : decode cX4_noteDeed 13 = .ok (.getfield 18, 3) := by decide +kernel
theorem dX4_noteDeed_16 : decode cX4_noteDeed 16 = .ok (.aload_n 0, 1) := by decide +kernel
theorem dX4_noteDeed_17 : decode cX4_noteDeed 17 = .ok (.getfield 22, 3) := by decide +kernel
theorem dX4_noteDeed_20 : decode cX4_noteDeed 20 = .ok (.bipush 30, 2) := by decide +kernel
theorem dX4_noteDeed_22 : decode cX4_noteDeed 22 = .ok (.imul, 1) := by decide +kernel
theorem dX4_noteDeed_23 : decode cX4_noteDeed 23 = .ok (.invokevirtual 34, 3) := by decide +kernel
theorem dX4_noteDeed_26 : decode cX4_noteDeed 26 = .ok (.aload_n 0, 1) := by decide +kernel
theorem dX4_noteDeed_27 : decode cX4_noteDeed 27 = .ok (.dup, 1) := by decide +kernel
theorem dX4_noteDeed_28 : decode cX4_noteDeed 28 = .ok (.getfield 22, 3) := by decide +kernel
theorem dX4_noteDeed_31 : decode cX4_noteDeed 31 = .ok (.iconst 1, 1) := by decide +kernel
theorem dX4_noteDeed_32 : decode cX4_noteDeed 32 = .ok (.iadd, 1) := by decide +kernel
theorem dX4_noteDeed_33 : decode cX4_noteDeed 33 = .ok (.putfield 22, 3) := by decide +kernel
theorem dX4_noteDeed_36 : decode cX4_noteDeed 36 = .ok (.return_, 1) := by decide +kernel
theorem dX4_goBackTo_0 : decode cX4_goBackTo 0 = .ok (.iload_n 1, 1) := by decide +kernel
theorem dX4_goBackTo_1 : decode cX4_goBackTo 1 = .ok (.ifCond .lt 31, 3) := by decide +kernel
theorem dX4_goBackTo_4 : decode cX4_goBackTo 4 = .ok (.iload_n 1, 1) := by decide +kernel
theorem dX4_goBackTo_5 : decode cX4_goBackTo 5 = .ok (.aload_n 0, 1) := by decide +kernel
theorem dX4_goBackTo_6 : decode cX4_goBackTo 6 = .ok (.getfield 22, 3) := by decide +kernel
theorem dX4_goBackTo_9 : decode cX4_goBackTo 9 = .ok (.if_icmp .ge 23, 3) := by decide +kernel
theorem dX4_goBackTo_12 : decode cX4_goBackTo 12 = .ok (.aload_n 0, 1) := by decide +kernel
theorem dX4_goBackTo_13 : decode cX4_goBackTo 13 = .ok (.getfield 12, 3) := by decide +kernel
theorem dX4_goBackTo_16 : decode cX4_goBackTo 16 = .ok (.aload_n 0, 1) := by decide +kernel
theorem dX4_goBackTo_17 : decode cX4_goBackTo 17 = .ok (.getfield 18, 3) := by decide +kernel
theorem dX4_goBackTo_20 : decode cX4_goBackTo 20 = .ok (.iload_n 1, 1) := by decide +kernel
theorem dX4_goBackTo_21 : decode cX4_goBackTo 21 = .ok (.bipush 30, 2) := by decide +kernel
theorem dX4_goBackTo_23 : decode cX4_goBackTo 23 = .ok (.imul, 1) := by decide +kernel
theorem dX4_goBackTo_24 : decode cX4_goBackTo 24 = .ok (.invokevirtual 38, 3) := by decide +kernel
theorem dX4_goBackTo_27 : decode cX4_goBackTo 27 = .ok (.aload_n 0, 1) := by decide +kernel
theorem dX4_goBackTo_28 : decode cX4_goBackTo 28 = .ok (.iload_n 1, 1) := by decide +kernel
theorem dX4_goBackTo_29 : decode cX4_goBackTo 29 = .ok (.putfield 22, 3) := by decide +kernel
theorem dX4_goBackTo_32 : decode cX4_goBackTo 32 = .ok (.return_, 1) := by decide +kernel
theorem dX4_takeFrom_0 : decode cX4_takeFrom 0 = .ok (.aload_n 0, 1) := by decide +kernel
theorem dX4_takeFrom_1 : decode cX4_takeFrom 1 = .ok (.getfield 12, 3) := by decide +kernel
theorem dX4_takeFrom_4 : decode cX4_takeFrom 4 = .ok (.aload_n 1, 1) := by decide +kernel
theorem dX4_takeFrom_5 : decode cX4_takeFrom 5 = .ok (.getfield 12, 3) := by decide +kernel
theorem dX4_takeFrom_8 : decode cX4_takeFrom 8 = .ok (.invokevirtual 26, 3) := by decide +kernel
theorem dX4_takeFrom_11 : decode cX4_takeFrom 11 = .ok (.aload_n 0, 1) := by decide +kernel
theorem dX4_takeFrom_12 : decode cX4_takeFrom 12 = .ok (.aload_n 1, 1) := by decide +kernel
theorem dX4_takeFrom_13 : decode cX4_takeFrom 13 = .ok (.getfield 22, 3) := by decide +kernel
theorem dX4_takeFrom_16 : decode cX4_takeFrom 16 = .ok (.putfield 22, 3) := by decide +kernel
theorem dX4_takeFrom_19 : decode cX4_takeFrom 19 = .ok (.aload_n 1, 1) := by decide +kernel
theorem dX4_takeFrom_20 : decode cX4_takeFrom 20 = .ok (.getfield 18, 3) := by decide +kernel
theorem dX4_takeFrom_23 : decode cX4_takeFrom 23 = .ok (.iconst 0, 1) := by decide +kernel
theorem dX4_takeFrom_24 : decode cX4_takeFrom 24 = .ok (.aload_n 0, 1) := by decide +kernel
theorem dX4_takeFrom_25 : decode cX4_takeFrom 25 = .ok (.getfield 18, 3) := by decide +kernel
theorem dX4_takeFrom_28 : decode cX4_takeFrom 28 = .ok (.iconst 0, 1) := by decide +kernel
theorem dX4_takeFrom_29 : decode cX4_takeFrom 29 = .ok (.aload_n 0, 1) := by decide +kernel
theorem dX4_takeFrom_30 : decode cX4_takeFrom 30 = .ok (.getfield 18, 3) := by decide +kernel
theorem dX4_takeFrom_33 : decode cX4_takeFrom 33 = .ok (.arraylength, 1) := by decide +kernel
theorem dX4_takeFrom_34 : decode cX4_takeFrom 34 = .ok (.invokestatic 41, 3) := by decide +kernel
theorem dX4_takeFrom_37 : decode cX4_takeFrom 37 = .ok (.return_, 1) := by decide +kernel
theorem dX5_init_0 : decode cX5_init 0 = .ok (.aload_n 0, 1) := by decide +kernel
theorem dX5_init_1 : decode cX5_init 1 = .ok (.invokespecial 3, 3) := by decide +kernel
theorem dX5_init_4 : decode cX5_init 4 = .ok (.aload_n 0, 1) := by decide +kernel
theorem dX5_init_5 : decode cX5_init 5 = .ok (.new 9, 3) := by decide +kernel
theorem dX5_init_8 : decode cX5_init 8 = .ok (.dup, 1) := by decide +kernel
theorem dX5_init_9 : decode cX5_init 9 = .ok (.bipush 6, 2) := by decide +kernel
theorem dX5_init_11 : decode cX5_init 11 = .ok (.bipush 40, 2) := by decide +kernel
theorem dX5_init_13 : decode cX5_init 13 = .ok (.iconst 0, 1) := by decide +kernel
theorem dX5_init_14 : decode cX5_init 14 = .ok (.invokespecial 11, 3) := by decide +kernel
theorem dX5_init_17 : decode cX5_init 17 = .ok (.putfield 14, 3) := by decide +kernel
theorem dX5_init_20 : decode cX5_init 20 = .ok (.aload_n 0, 1) := by decide +kernel
theorem dX5_init_21 : decode cX5_init 21 = .ok (.new 9, 3) := by decide +kernel
theorem dX5_init_24 : decode cX5_init 24 = .ok (.dup, 1) := by decide +kernel
theorem dX5_init_25 : decode cX5_init 25 = .ok (.iconst 4, 1) := by decide +kernel
theorem dX5_init_26 : decode cX5_init 26 = .ok (.bipush 60, 2) := by decide +kernel
theorem dX5_init_28 : decode cX5_init 28 = .ok (.bipush 32, 2) := by decide +kernel
theorem dX5_init_30 : decode cX5_init 30 = .ok (.invokespecial 11, 3) := by decide +kernel
theorem dX5_init_33 : decode cX5_init 33 = .ok (.putfield 18, 3) := by decide +kernel
theorem dX5_init_36 : decode cX5_init 36 = .ok (.aload_n 0, 1) := by decide +kernel
theorem dX5_init_37 : decode cX5_init 37 = .ok (.new 21, 3) := by decide +kernel
theorem dX5_init_40 : decode cX5_init 40 = .ok (.dup, 1) := by decide +kernel
theorem dX5_init_41 : decode cX5_init 41 = .ok (.iconst 0, 1) := by decide +kernel
theorem dX5_init_42 : decode cX5_init 42 = .ok (.invokespecial 23, 3) := by decide +kernel
theorem dX5_init_45 : decode cX5_init 45 = .ok (.putfield 26, 3) := by decide +kernel
theorem dX5_init_48 : decode cX5_init 48 = .ok (.aload_n 0, 1) := by decide +kernel
theorem dX5_init_49 : decode cX5_init 49 = .ok (.iconst 3, 1) := by decide +kernel
theorem dX5_init_50 : decode cX5_init 50 = .ok (.anewarray 21, 3) := by decide +kernel
theorem dX5_init_53 : decode cX5_init 53 = .ok (.putfield 30, 3) := by decide +kernel
theorem dX5_init_56 : decode cX5_init 56 = .ok (.aload_n 0, 1) := by decide +kernel
theorem dX5_init_57 : decode cX5_init 57 = .ok (.new 34, 3) := by decide +kernel
theorem dX5_init_60 : decode cX5_init 60 = .ok (.dup, 1) := by decide +kernel
theorem dX5_init_61 : decode cX5_init 61 = .ok (.invokespecial 36, 3) := by decide +kernel
theorem dX5_init_64 : decode cX5_init 64 = .ok (.putfield 37, 3) := by decide +kernel
theorem dX5_init_67 : decode cX5_init 67 = .ok (.aload_n 0, 1) := by decide +kernel
theorem dX5_init_68 : decode cX5_init 68 = .ok (.new 41, 3) := by decide +kernel
theorem dX5_init_71 : decode cX5_init 71 = .ok (.dup, 1) := by decide +kernel
theorem dX5_init_72 : decode cX5_init 72 = .ok (.invokespecial 43, 3) := by decide +kernel
theorem dX5_init_75 : decode cX5_init 75 = .ok (.putfield 44, 3) := by decide +kernel
theorem dX5_init_78 : decode cX5_init 78 = .ok (.aload_n 0, 1) := by decide +kernel
theorem dX5_init_79 : decode cX5_init 79 = .ok (.new 48, 3) := by decide +kernel
theorem dX5_init_82 : decode cX5_init 82 = .ok (.dup, 1) := by decide +kernel
theorem dX5_init_83 : decode cX5_init 83 = .ok (.invokespecial 50, 3) := by decide +kernel
theorem dX5_init_86 : decode cX5_init 86 = .ok (.putfield 51, 3) := by decide +kernel
theorem dX5_init_89 : decode cX5_init 89 = .ok (.aload_n 0, 1) := by decide +kernel
theorem dX5_init_90 : decode cX5_init 90 = .ok (.bipush 6, 2) := by decide +kernel
theorem dX5_init_92 : decode cX5_init 92 = .ok (.newarray .int, 2) := by decide +kernel
theorem dX5_init_94 : decode cX5_init 94 = .ok (.putfield 55, 3) := by decide +kernel
theorem dX5_init_97 : decode cX5_init 97 = .ok (.aload_n 0, 1) := by decide +kernel
theorem dX5_init_98 : decode cX5_init 98 = .ok (.lconst 1, 1) := by decide +kernel
theorem dX5_init_99 : decode cX5_init 99 = .ok (.putfield 59, 3) := by decide +kernel
theorem dX5_init_102 : decode cX5_init 102 = .ok (.iconst 0, 1) := by decide +kernel
theorem dX5_init_103 : decode cX5_init 103 = .ok (.istore_n 1, 1) := by decide +kernel
theorem dX5_init_104 : decode cX5_init 104 = .ok (.iload_n 1, 1) := by decide +kernel
theorem dX5_init_105 : decode cX5_init 105 = .ok (.aload_n 0, 1) := by decide +kernel
theorem dX5_init_106 : decode cX5_init 106 = .ok (.getfield 30, 3) := by decide +kernel
theorem dX5_init_109 : decode cX5_init 109 = .ok (.arraylength, 1) := by decide +kernel
theorem dX5_init_110 : decode cX5_init 110 = .ok (.if_icmp .ge 23, 3) := by decide +kernel
theorem dX5_init_113 : decode cX5_init 113 = .ok (.aload_n 0, 1) := by decide +kernel
theorem dX5_init_114 : decode cX5_init 114 = .ok (.getfield 30, 3) := by decide +kernel
theorem dX5_init_117 : decode cX5_init 117 = .ok (.iload_n 1, 1) := by decide +kernel
theorem dX5_init_118 : decode cX5_init 118 = .ok (.new 21, 3) := by decide +kernel
theorem dX5_init_121 : decode cX5_init 121 = .ok (.dup, 1) := by decide +kernel
theorem dX5_init_122 : decode cX5_init 122 = .ok (.iconst (-1), 1) := by decide +kernel
theorem dX5_init_123 : decode cX5_init 123 = .ok (.invokespecial 23, 3) := by decide +kernel
theorem dX5_init_126 : decode cX5_init 126 = .ok (.aastore, 1) := by decide +kernel
theorem dX5_init_127 : decode cX5_init 127 = .ok (.iinc 1 1, 3) := by decide +kernel
theorem dX5_init_130 : decode cX5_init 130 = .ok (.goto (-26), 3) := by decide +kernel
theorem dX5_init_133 : decode cX5_init 133 = .ok (.return_, 1) := by decide +kernel
theorem dX5_row_0 : decode cX5_row 0 = .ok (.aload_n 0, 1) := by decide +kernel
theorem dX5_row_1 : decode cX5_row 1 = .ok (.getfield 14, 3) := by decide +kernel
theorem dX5_row_4 : decode cX5_row 4 = .ok (.iload_n 1, 1) := by decide +kernel
theorem dX5_row_5 : decode cX5_row 5 = .ok (.invokevirtual 63, 3) := by decide +kernel
theorem dX5_row_8 : decode cX5_row 8 = .ok (.ifCond .eq 9, 3) := by decide +kernel
theorem dX5_row_11 : decode cX5_row 11 = .ok (.iload_n 2, 1) := by decide +kernel
theorem dX5_row_12 : decode cX5_row 12 = .ok (.bipush 40, 2) := by decide +kernel
theorem dX5_row_14 : decode cX5_row 14 = .ok (.if_icmp .le 5, 3) := by decide +kernel
theorem dX5_row_17 : decode cX5_row 17 = .ok (.iconst (-1), 1) := by decide +kernel
theorem dX5_row_18 : decode cX5_row 18 = .ok (.ireturn, 1) := by decide +kernel
theorem dX5_row_19 : decode cX5_row 19 = .ok (.iload_n 2, 1) := by decide +kernel
theorem dX5_row_20 : decode cX5_row 20 = .ok (.ifCond .ge 9, 3) := by decide +kernel
theorem dX5_row_23 : decode cX5_row 23 = .ok (.aload_n 0, 1) := by decide +kernel
theorem dX5_row_24 : decode cX5_row 24 = .ok (.iconst 5, 1) := by decide +kernel
theorem dX5_row_25 : decode cX5_row 25 = .ok (.invokevirtual 67, 3) := by decide +kernel
theorem dX5_row_28 : decode cX5_row 28 = .ok (.ireturn, 1) := by decide +kernel
theorem dX5_row_29 : decode cX5_row 29 = .ok (.aload_n 0, 1) := by decide +kernel
theorem dX5_row_30 : decode cX5_row 30 = .ok (.getfield 14, 3) := by decide +kernel
theorem dX5_row_33 : decode cX5_row 33 = .ok (.iload_n 1, 1) := by decide +kernel
theorem dX5_row_34 : decode cX5_row 34 = .ok (.iload_n 2, 1) := by decide +kernel
theorem dX5_row_35 : decode cX5_row 35 = .ok (.invokevirtual 71, 3) := by decide +kernel
theorem dX5_row_38 : decode cX5_row 38 = .ok (.iload_n 2, 1) := by decide +kernel
theorem dX5_row_39 : decode cX5_row 39 = .ok (.ireturn, 1) := by decide +kernel
theorem dX5_lay_0 : decode cX5_lay 0 = .ok (.aload_n 0, 1) := by decide +kernel
theorem dX5_lay_1 : decode cX5_lay 1 = .ok (.getfield 14, 3) := by decide +kernel
theorem dX5_lay_4 : decode cX5_lay 4 = .ok (.iload_n 1, 1) := by decide +kernel
theorem dX5_lay_5 : decode cX5_lay 5 = .ok (.invokevirtual 63, 3) := by decide +kernel
theorem dX5_lay_8 : decode cX5_lay 8 = .ok (.ifCond .ne 5, 3) := by decide +kernel
theorem dX5_lay_11 : decode cX5_lay 11 = .ok (.iconst (-1), 1) := by decide +kernel
theorem dX5_lay_12 : decode cX5_lay 12 = .ok (.ireturn, 1) := by decide +kernel
theorem dX5_lay_13 : decode cX5_lay 13 = .ok (.aload_n 0, 1) := by decide +kernel
theorem dX5_lay_14 : decode cX5_lay 14 = .ok (.getfield 14, 3) := by decide +kernel
theorem dX5_lay_17 : decode cX5_lay 17 = .ok (.iload_n 1, 1) := by decide +kernel
theorem dX5_lay_18 : decode cX5_lay 18 = .ok (.invokevirtual 75, 3) := by decide +kernel
theorem dX5_lay_21 : decode cX5_lay 21 = .ok (.ifCond .ne 9, 3) := by decide +kernel
theorem dX5_lay_24 : decode cX5_lay 24 = .ok (.aload_n 0, 1) := by decide +kernel
theorem dX5_lay_25 : decode cX5_lay 25 = .ok (.iconst 1, 1) := by decide +kernel
theorem dX5_lay_26 : decode cX5_lay 26 = .ok (.invokevirtual 67, 3) := by decide +kernel
theorem dX5_lay_29 : decode cX5_lay 29 = .ok (.ireturn, 1) := by decide +kernel
theorem dX5_lay_30 : decode cX5_lay 30 = .ok (.aload_n 0, 1) := by decide +kernel
theorem dX5_lay_31 : decode cX5_lay 31 = .ok (.getfield 14, 3) := by decide +kernel
theorem dX5_lay_34 : decode cX5_lay 34 = .ok (.iload_n 1, 1) := by decide +kernel
theorem dX5_lay_35 : decode cX5_lay 35 = .ok (.iload_n 2, 1) := by decide +kernel
theorem dX5_lay_36 : decode cX5_lay 36 = .ok (.invokevirtual 78, 3) := by decide +kernel
theorem dX5_lay_39 : decode cX5_lay 39 = .ok (.ifCond .ne 9, 3) := by decide +kernel
theorem dX5_lay_42 : decode cX5_lay 42 = .ok (.aload_n 0, 1) := by decide +kernel
theorem dX5_lay_43 : decode cX5_lay 43 = .ok (.iconst 2, 1) := by decide +kernel
theorem dX5_lay_44 : decode cX5_lay 44 = .ok (.invokevirtual 67, 3) := by decide +kernel
theorem dX5_lay_47 : decode cX5_lay 47 = .ok (.ireturn, 1) := by decide +kernel
theorem dX5_lay_48 : decode cX5_lay 48 = .ok (.aload_n 0, 1) := by decide +kernel
theorem dX5_lay_49 : decode cX5_lay 49 = .ok (.aload_n 0, 1) := by decide +kernel
theorem dX5_lay_50 : decode cX5_lay 50 = .ok (.getfield 14, 3) := by decide +kernel
theorem dX5_lay_53 : decode cX5_lay 53 = .ok (.iload_n 1, 1) := by decide +kernel
theorem dX5_lay_54 : decode cX5_lay 54 = .ok (.iload_n 2, 1) := by decide +kernel
theorem dX5_lay_55 : decode cX5_lay 55 = .ok (.invokevirtual 82, 3) := by decide +kernel
theorem dX5_lay_58 : decode cX5_lay 58 = .ok (.putfield 86, 3) := by decide +kernel
theorem dX5_lay_61 : decode cX5_lay 61 = .ok (.aload_n 0, 1) := by decide +kernel
theorem dX5_lay_62 : decode cX5_lay 62 = .ok (.getfield 14, 3) := by decide +kernel
theorem dX5_lay_65 : decode cX5_lay 65 = .ok (.iload_n 1, 1) := by decide +kernel
theorem dX5_lay_66 : decode cX5_lay 66 = .ok (.iload_n 2, 1) := by decide +kernel
theorem dX5_lay_67 : decode cX5_lay 67 = .ok (.iload_n 3, 1) := by decide +kernel
theorem dX5_lay_68 : decode cX5_lay 68 = .ok (.invokevirtual 90, 3) := by decide +kernel
theorem dX5_lay_71 : decode cX5_lay 71 = .ok (.iconst 1, 1) := by decide +kernel
theorem dX5_lay_72 : decode cX5_lay 72 = .ok (.ireturn, 1) := by decide +kernel
theorem dX5_at_0 : decode cX5_at 0 = .ok (.aload_n 0, 1) := by decide +kernel
theorem dX5_at_1 : decode cX5_at 1 = .ok (.getfield 14, 3) := by decide +kernel
theorem dX5_at_4 : decode cX5_at 4 = .ok (.iload_n 1, 1) := by decide +kernel
theorem dX5_at_5 : decode cX5_at 5 = .ok (.invokevirtual 63, 3) := by decide +kernel
theorem dX5_at_8 : decode cX5_at 8 = .ok (.ifCond .ne 5, 3) := by decide +kernel
theorem dX5_at_11 : decode cX5_at 11 = .ok (.iconst (-1), 1) := by decide +kernel
theorem dX5_at_12 : decode cX5_at 12 = .ok (.ireturn, 1) := by decide +kernel
theorem dX5_at_13 : decode cX5_at 13 = .ok (.aload_n 0, 1) := by decide +kernel
theorem dX5_at_14 : decode cX5_at 14 = .ok (.getfield 14, 3) := by decide +kernel
theorem dX5_at_17 : decode cX5_at 17 = .ok (.iload_n 1, 1) := by decide +kernel
theorem dX5_at_18 : decode cX5_at 18 = .ok (.invokevirtual 75, 3) := by decide +kernel
theorem dX5_at_21 : decode cX5_at 21 = .ok (.ifCond .ne 9, 3) := by decide +kernel
theorem dX5_at_24 : decode cX5_at 24 = .ok (.aload_n 0, 1) := by decide +kernel
theorem dX5_at_25 : decode cX5_at 25 = .ok (.iconst 1, 1) := by decide +kernel
theorem dX5_at_26 : decode cX5_at 26 = .ok (.invokevirtual 67, 3) := by decide +kernel
theorem dX5_at_29 : decode cX5_at 29 = .ok (.ireturn, 1) := by decide +kernel
theorem dX5_at_30 : decode cX5_at 30 = .ok (.aload_n 0, 1) := by decide +kernel
theorem dX5_at_31 : decode cX5_at 31 = .ok (.getfield 14, 3) := by decide +kernel
theorem dX5_at_34 : decode cX5_at 34 = .ok (.iload_n 1, 1) := by decide +kernel
theorem dX5_at_35 : decode cX5_at 35 = .ok (.iload_n 2, 1) := by decide +kernel
theorem dX5_at_36 : decode cX5_at 36 = .ok (.invokevirtual 78, 3) := by decide +kernel
theorem dX5_at_39 : decode cX5_at 39 = .ok (.ifCond .ne 9, 3) := by decide +kernel
theorem dX5_at_42 : decode cX5_at 42 = .ok (.aload_n 0, 1) := by decide +kernel
theorem dX5_at_43 : decode cX5_at 43 = .ok (.iconst 2, 1) := by decide +kernel
theorem dX5_at_44 : decode cX5_at 44 = .ok (.invokevirtual 67, 3) := by decide +kernel
theorem dX5_at_47 : decode cX5_at 47 = .ok (.ireturn, 1) := by decide +kernel
theorem dX5_at_48 : decode cX5_at 48 = .ok (.aload_n 0, 1) := by decide +kernel
theorem dX5_at_49 : decode cX5_at 49 = .ok (.aload_n 0, 1) := by decide +kernel
theorem dX5_at_50 : decode cX5_at 50 = .ok (.getfield 14, 3) := by decide +kernel
theorem dX5_at_53 : decode cX5_at 53 = .ok (.iload_n 1, 1) := by decide +kernel
theorem dX5_at_54 : decode cX5_at 54 = .ok (.iload_n 2, 1) := by decide +kernel
theorem dX5_at_55 : decode cX5_at 55 = .ok (.invokevirtual 82, 3) := by decide +kernel
theorem dX5_at_58 : decode cX5_at 58 = .ok (.putfield 86, 3) := by decide +kernel
theorem dX5_at_61 : decode cX5_at 61 = .ok (.iconst 1, 1) := by decide +kernel
theorem dX5_at_62 : decode cX5_at 62 = .ok (.ireturn, 1) := by decide +kernel
theorem dX5_tear_0 : decode cX5_tear 0 = .ok (.aload_n 0, 1) := by decide +kernel
theorem dX5_tear_1 : decode cX5_tear 1 = .ok (.getfield 14, 3) := by decide +kernel
theorem dX5_tear_4 : decode cX5_tear 4 = .ok (.iload_n 1, 1) := by decide +kernel
theorem dX5_tear_5 : decode cX5_tear 5 = .ok (.invokevirtual 63, 3) := by decide +kernel
theorem dX5_tear_8 : decode cX5_tear 8 = .ok (.ifCond .ne 5, 3) := by decide +kernel
theorem dX5_tear_11 : decode cX5_tear 11 = .ok (.iconst (-1), 1) := by decide +kernel
theorem dX5_tear_12 : decode cX5_tear 12 = .ok (.ireturn, 1) := by decide +kernel
theorem dX5_tear_13 : decode cX5_tear 13 = .ok (.aload_n 0, 1) := by decide +kernel
theorem dX5_tear_14 : decode cX5_tear 14 = .ok (.getfield 14, 3) := by decide +kernel
theorem dX5_tear_17 : decode cX5_tear 17 = .ok (.iload_n 1, 1) := by decide +kernel
theorem dX5_tear_18 : decode cX5_tear 18 = .ok (.invokevirtual 75, 3) := by decide +kernel
theorem dX5_tear_21 : decode cX5_tear 21 = .ok (.ifCond .ne 9, 3) := by decide +kernel
theorem dX5_tear_24 : decode cX5_tear 24 = .ok (.aload_n 0, 1) := by decide +kernel
theorem dX5_tear_25 : decode cX5_tear 25 = .ok (.iconst 1, 1) := by decide +kernel
theorem dX5_tear_26 : decode cX5_tear 26 = .ok (.invokevirtual 67, 3) := by decide +kernel
theorem dX5_tear_29 : decode cX5_tear 29 = .ok (.ireturn, 1) := by decide +kernel
theorem dX5_tear_30 : decode cX5_tear 30 = .ok (.aload_n 0, 1) := by decide +kernel
theorem dX5_tear_31 : decode cX5_tear 31 = .ok (.getfield 14, 3) := by decide +kernel
theorem dX5_tear_34 : decode cX5_tear 34 = .ok (.iload_n 1, 1) := by decide +kernel
theorem dX5_tear_35 : decode cX5_tear 35 = .ok (.invokevirtual 93, 3) := by decide +kernel
theorem dX5_tear_38 : decode cX5_tear 38 = .ok (.iconst 1, 1) := by decide +kernel
theorem dX5_tear_39 : decode cX5_tear 39 = .ok (.ireturn, 1) := by decide +kernel
theorem dX5_copy_0 : decode cX5_copy 0 = .ok (.aload_n 0, 1) := by decide +kernel
theorem dX5_copy_1 : decode cX5_copy 1 = .ok (.getfield 14, 3) := by decide +kernel
theorem dX5_copy_4 : decode cX5_copy 4 = .ok (.iload_n 1, 1) := by decide +kernel
theorem dX5_copy_5 : decode cX5_copy 5 = .ok (.invokevirtual 63, 3) := by decide +kernel
theorem dX5_copy_8 : decode cX5_copy 8 = .ok (.ifCond .eq 14, 3) := by decide +kernel
theorem dX5_copy_11 : decode cX5_copy 11 = .ok (.aload_n 0, 1) := by decide +kernel
theorem dX5_copy_12 : decode cX5_copy 12 = .ok (.getfield 14, 3) := by decide +kernel
theorem dX5_copy_15 : decode cX5_copy 15 = .ok (.iload_n 3, 1) := by decide +kernel
theorem dX5_copy_16 : decode cX5_copy 16 = .ok (.invokevirtual 63, 3) := by decide +kernel
theorem dX5_copy_19 : decode cX5_copy 19 = .ok (.ifCond .ne 5, 3) := by decide +kernel
theorem dX5_copy_22 : decode cX5_copy 22 = .ok (.iconst (-1), 1) := by decide +kernel
theorem dX5_copy_23 : decode cX5_copy 23 = .ok (.ireturn, 1) := by decide +kernel
theorem dX5_copy_24 : decode cX5_copy 24 = .ok (.iload 5, 2) := by decide +kernel
theorem dX5_copy_26 : decode cX5_copy 26 = .ok (.ifCond .ge 9, 3) := by decide +kernel
theorem dX5_copy_29 : decode cX5_copy 29 = .ok (.aload_n 0, 1) := by decide +kernel
theorem dX5_copy_30 : decode cX5_copy 30 = .ok (.iconst 5, 1) := by decide +kernel
theorem dX5_copy_31 : decode cX5_copy 31 = .ok (.invokevirtual 67, 3) := by decide +kernel
theorem dX5_copy_34 : decode cX5_copy 34 = .ok (.ireturn, 1) := by decide +kernel
theorem dX5_copy_35 : decode cX5_copy 35 = .ok (.aload_n 0, 1) := by decide +kernel
theorem dX5_copy_36 : decode cX5_copy 36 = .ok (.getfield 14, 3) := by decide +kernel
theorem dX5_copy_39 : decode cX5_copy 39 = .ok (.iload_n 1, 1) := by decide +kernel
theorem dX5_copy_40 : decode cX5_copy 40 = .ok (.invokevirtual 75, 3) := by decide +kernel
theorem dX5_copy_43 : decode cX5_copy 43 = .ok (.ifCond .eq 14, 3) := by decide +kernel
theorem dX5_copy_46 : decode cX5_copy 46 = .ok (.aload_n 0, 1) := by decide +kernel
theorem dX5_copy_47 : decode cX5_copy 47 = .ok (.getfield 14, 3) := by decide +kernel
theorem dX5_copy_50 : decode cX5_copy 50 = .ok (.iload_n 3, 1) := by decide +kernel
theorem dX5_copy_51 : decode cX5_copy 51 = .ok (.invokevirtual 75, 3) := by decide +kernel
theorem dX5_copy_54 : decode cX5_copy 54 = .ok (.ifCond .ne 9, 3) := by decide +kernel
theorem dX5_copy_57 : decode cX5_copy 57 = .ok (.aload_n 0, 1) := by decide +kernel
theorem dX5_copy_58 : decode cX5_copy 58 = .ok (.iconst 1, 1) := by decide +kernel
theorem dX5_copy_59 : decode cX5_copy 59 = .ok (.invokevirtual 67, 3) := by decide +kernel
theorem dX5_copy_62 : decode cX5_copy 62 = .ok (.ireturn, 1) := by decide +kernel
theorem dX5_copy_63 : decode cX5_copy 63 = .ok (.aload_n 0, 1) := by decide +kernel
theorem dX5_copy_64 : decode cX5_copy 64 = .ok (.getfield 14, 3) := by decide +kernel
theorem dX5_copy_67 : decode cX5_copy 67 = .ok (.iload_n 1, 1) := by decide +kernel
theorem dX5_copy_68 : decode cX5_copy 68 = .ok (.iload_n 2, 1) := by decide +kernel
theorem dX5_copy_69 : decode cX5_copy 69 = .ok (.iload 5, 2) := by decide +kernel
theorem dX5_copy_71 : decode cX5_copy 71 = .ok (.invokevirtual 96, 3) := by decide +kernel
theorem dX5_copy_74 : decode cX5_copy 74 = .ok (.ifCond .eq 18, 3) := by decide +kernel
theorem dX5_copy_77 : decode cX5_copy 77 = .ok (.aload_n 0, 1) := by decide +kernel
theorem dX5_copy_78 : decode cX5_copy 78 = .ok (.getfield 14, 3) := by decide +kernel
theorem dX5_copy_81 : decode cX5_copy 81 = .ok (.iload_n 3, 1) := by decide +kernel
theorem dX5_copy_82 : decode cX5_copy 82 = .ok (.iload 4, 2) := by decide +kernel
theorem dX5_copy_84 : decode cX5_copy 84 = .ok (.iload 5, 2) := by decide +kernel
theorem dX5_copy_86 : decode cX5_copy 86 = .ok (.invokevirtual 96, 3) := by decide +kernel
theorem dX5_copy_89 : decode cX5_copy 89 = .ok (.ifCond .ne 9, 3) := by decide +kernel
theorem dX5_copy_92 : decode cX5_copy 92 = .ok (.aload_n 0, 1) := by decide +kernel
theorem dX5_copy_93 : decode cX5_copy 93 = .ok (.iconst 2, 1) := by decide +kernel
theorem dX5_copy_94 : decode cX5_copy 94 = .ok (.invokevirtual 67, 3) := by decide +kernel
theorem dX5_copy_97 : decode cX5_copy 97 = .ok (.ireturn, 1) := by decide +kernel
theorem dX5_copy_98 : decode cX5_copy 98 = .ok (.aload_n 0, 1) := by decide +kernel
theorem dX5_copy_99 : decode cX5_copy 99 = .ok (.getfield 14, 3) := by decide +kernel
theorem dX5_copy_102 : decode cX5_copy 102 = .ok (.iload_n 1, 1) := by decide +kernel
theorem dX5_copy_103 : decode cX5_copy 103 = .ok (.iload_n 2, 1) := by decide +kernel
theorem dX5_copy_104 : decode cX5_copy 104 = .ok (.iload_n 3, 1) := by decide +kernel
theorem dX5_copy_105 : decode cX5_copy 105 = .ok (.iload 4, 2) := by decide +kernel
theorem dX5_copy_107 : decode cX5_copy 107 = .ok (.iload 5, 2) := by decide +kernel
theorem dX5_copy_109 : decode cX5_copy 109 = .ok (.invokevirtual 100, 3) := by decide +kernel
theorem dX5_copy_112 : decode cX5_copy 112 = .ok (.iconst 1, 1) := by decide +kernel
theorem dX5_copy_113 : decode cX5_copy 113 = .ok (.ireturn, 1) := by decide +kernel
theorem dX5_mean_0 : decode cX5_mean 0 = .ok (.aload_n 0, 1) := by decide +kernel
theorem dX5_mean_1 : decode cX5_mean 1 = .ok (.getfield 14, 3) := by decide +kernel
theorem dX5_mean_4 : decode cX5_mean 4 = .ok (.iload_n 1, 1) := by decide +kernel
theorem dX5_mean_5 : decode cX5_mean 5 = .ok (.invokevirtual 63, 3) := by decide +kernel
theorem dX5_mean_8 : decode cX5_mean 8 = .ok (.ifCond .ne 5, 3) := by decide +kernel
theorem dX5_mean_11 : decode cX5_mean 11 = .ok (.iconst (-1), 1) := by decide +kernel
theorem dX5_mean_12 : decode cX5_mean 12 = .ok (.ireturn, 1) := by decide +kernel
theorem dX5_mean_13 : decode cX5_mean 13 = .ok (.aload_n 0, 1) := by decide +kernel
theorem dX5_mean_14 : decode cX5_mean 14 = .ok (.getfield 14, 3) := by decide +kernel
theorem dX5_mean_17 : decode cX5_mean 17 = .ok (.iload_n 1, 1) := by decide +kernel
theorem dX5_mean_18 : decode cX5_mean 18 = .ok (.invokevirtual 75, 3) := by decide +kernel
theorem dX5_mean_21 : decode cX5_mean 21 = .ok (.ifCond .ne 9, 3) := by decide +kernel
theorem dX5_mean_24 : decode cX5_mean 24 = .ok (.aload_n 0, 1) := by decide +kernel
theorem dX5_mean_25 : decode cX5_mean 25 = .ok (.iconst 1, 1) := by decide +kernel
theorem dX5_mean_26 : decode cX5_mean 26 = .ok (.invokevirtual 67, 3) := by decide +kernel
theorem dX5_mean_29 : decode cX5_mean 29 = .ok (.ireturn, 1) := by decide +kernel
theorem dX5_mean_30 : decode cX5_mean 30 = .ok (.aload_n 0, 1) := by decide +kernel
theorem dX5_mean_31 : decode cX5_mean 31 = .ok (.getfield 14, 3) := by decide +kernel
theorem dX5_mean_34 : decode cX5_mean 34 = .ok (.iload_n 1, 1) := by decide +kernel
theorem dX5_mean_35 : decode cX5_mean 35 = .ok (.invokevirtual 104, 3) := by decide +kernel
theorem dX5_mean_38 : decode cX5_mean 38 = .ok (.istore_n 2, 1) := by decide +kernel
theorem dX5_mean_39 : decode cX5_mean 39 = .ok (.iload_n 2, 1) := by decide +kernel
theorem dX5_mean_40 : decode cX5_mean 40 = .ok (.ifCond .ne 9, 3) := by decide +kernel
theorem dX5_mean_43 : decode cX5_mean 43 = .ok (.aload_n 0, 1) := by decide +kernel
theorem dX5_mean_44 : decode cX5_mean 44 = .ok (.iconst 4, 1) := by decide +kernel
theorem dX5_mean_45 : decode cX5_mean 45 = .ok (.invokevirtual 67, 3) := by decide +kernel
theorem dX5_mean_48 : decode cX5_mean 48 = .ok (.ireturn, 1) := by decide +kernel
theorem dX5_mean_49 : decode cX5_mean 49 = .ok (.aload_n 0, 1) := by decide +kernel
theorem dX5_mean_50 : decode cX5_mean 50 = .ok (.aload_n 0, 1) := by decide +kernel
theorem dX5_mean_51 : decode cX5_mean 51 = .ok (.getfield 14, 3) := by decide +kernel
theorem dX5_mean_54 : decode cX5_mean 54 = .ok (.iload_n 1, 1) := by decide +kernel
theorem dX5_mean_55 : decode cX5_mean 55 = .ok (.invokevirtual 107, 3) := by decide +kernel
theorem dX5_mean_58 : decode cX5_mean 58 = .ok (.iload_n 2, 1) := by decide +kernel
theorem dX5_mean_59 : decode cX5_mean 59 = .ok (.i2l, 1) := by decide +kernel
theorem dX5_mean_60 : decode cX5_mean 60 = .ok (.ldiv, 1) := by decide +kernel
theorem dX5_mean_61 : decode cX5_mean 61 = .ok (.l2i, 1) := by decide +kernel
theorem dX5_mean_62 : decode cX5_mean 62 = .ok (.putfield 86, 3) := by decide +kernel
theorem dX5_mean_65 : decode cX5_mean 65 = .ok (.iconst 1, 1) := by decide +kernel
theorem dX5_mean_66 : decode cX5_mean 66 = .ok (.ireturn, 1) := by decide +kernel
theorem dX5_text_0 : decode cX5_text 0 = .ok (.aload_n 0, 1) := by decide +kernel
theorem dX5_text_1 : decode cX5_text 1 = .ok (.getfield 18, 3) := by decide +kernel
theorem dX5_text_4 : decode cX5_text 4 = .ok (.iload_n 1, 1) := by decide +kernel
theorem dX5_text_5 : decode cX5_text 5 = .ok (.invokevirtual 63, 3) := by decide +kernel
theorem dX5_text_8 : decode cX5_text 8 = .ok (.ifCond .eq 9, 3) := by decide +kernel
theorem dX5_text_11 : decode cX5_text 11 = .ok (.iload_n 2, 1) := by decide +kernel
theorem dX5_text_12 : decode cX5_text 12 = .ok (.bipush 60, 2) := by decide +kernel
theorem dX5_text_14 : decode cX5_text 14 = .ok (.if_icmp .le 5, 3) := by decide +kernel
theorem dX5_text_17 : decode cX5_text 17 = .ok (.iconst (-1), 1) := by decide +kernel
theorem dX5_text_18 : decode cX5_text 18 = .ok (.ireturn, 1) := by decide +kernel
theorem dX5_text_19 : decode cX5_text 19 = .ok (.iload_n 2, 1) := by decide +kernel
theorem dX5_text_20 : decode cX5_text 20 = .ok (.ifCond .ge 9, 3) := by decide +kernel
theorem dX5_text_23 : decode cX5_text 23 = .ok (.aload_n 0, 1) := by decide +kernel
theorem dX5_text_24 : decode cX5_text 24 = .ok (.iconst 5, 1) := by decide +kernel
theorem dX5_text_25 : decode cX5_text 25 = .ok (.invokevirtual 67, 3) := by decide +kernel
theorem dX5_text_28 : decode cX5_text 28 = .ok (.ireturn, 1) := by decide +kernel
theorem dX5_text_29 : decode cX5_text 29 = .ok (.aload_n 0, 1) := by decide +kernel
theorem dX5_text_30 : decode cX5_text 30 = .ok (.getfield 18, 3) := by decide +kernel
theorem dX5_text_33 : decode cX5_text 33 = .ok (.iload_n 1, 1) := by decide +kernel
theorem dX5_text_34 : decode cX5_text 34 = .ok (.iload_n 2, 1) := by decide +kernel
theorem dX5_text_35 : decode cX5_text 35 = .ok (.invokevirtual 71, 3) := by decide +kernel
theorem dX5_text_38 : decode cX5_text 38 = .ok (.iload_n 2, 1) := by decide +kernel
theorem dX5_text_39 : decode cX5_text 39 = .ok (.ireturn, 1) := by decide +kernel
theorem dX5_put_0 : decode cX5_put 0 = .ok (.aload_n 0, 1) := by decide +kernel
theorem dX5_put_1 : decode cX5_put 1 = .ok (.getfield 18, 3) := by decide +kernel
theorem dX5_put_4 : decode cX5_put 4 = .ok (.iload_n 1, 1) := by decide +kernel
theorem dX5_put_5 : decode cX5_put 5 = .ok (.invokevirtual 63, 3) := by decide +kernel
theorem dX5_put_8 : decode cX5_put 8 = .ok (.ifCond .ne 5, 3) := by decide +kernel
theorem dX5_put_11 : decode cX5_put 11 = .ok (.iconst (-1), 1) := by decide +kernel
theorem dX5_put_12 : decode cX5_put 12 = .ok (.ireturn, 1) := by decide +kernel
theorem dX5_put_13 : decode cX5_put 13 = .ok (.aload_n 0, 1) := by decide +kernel
theorem dX5_put_14 : decode cX5_put 14 = .ok (.getfield 18, 3) := by decide +kernel
theorem dX5_put_17 : decode cX5_put 17 = .ok (.iload_n 1, 1) := by decide +kernel
theorem dX5_put_18 : decode cX5_put 18 = .ok (.invokevirtual 75, 3) := by decide +kernel
theorem dX5_put_21 : decode cX5_put 21 = .ok (.ifCond .ne 9, 3) := by decide +kernel
theorem dX5_put_24 : decode cX5_put 24 = .ok (.aload_n 0, 1) := by decide +kernel
theorem dX5_put_25 : decode cX5_put 25 = .ok (.iconst 1, 1) := by decide +kernel
theorem dX5_put_26 : decode cX5_put 26 = .ok (.invokevirtual 67, 3) := by decide +kernel
theorem dX5_put_29 : decode cX5_put 29 = .ok (.ireturn, 1) := by decide +kernel
theorem dX5_put_30 : decode cX5_put 30 = .ok (.aload_n 0, 1) := by decide +kernel
theorem dX5_put_31 : decode cX5_put 31 = .ok (.getfield 18, 3) := by decide +kernel
theorem dX5_put_34 : decode cX5_put 34 = .ok (.iload_n 1, 1) := by decide +kernel
theorem dX5_put_35 : decode cX5_put 35 = .ok (.iload_n 2, 1) := by decide +kernel
theorem dX5_put_36 : decode cX5_put 36 = .ok (.invokevirtual 78, 3) := by decide +kernel
theorem dX5_put_39 : decode cX5_put 39 = .ok (.ifCond .ne 9, 3) := by decide +kernel
theorem dX5_put_42 : decode cX5_put 42 = .ok (.aload_n 0, 1) := by decide +kernel
theorem dX5_put_43 : decode cX5_put 43 = .ok (.iconst 2, 1) := by decide +kernel
theorem dX5_put_44 : decode cX5_put 44 = .ok (.invokevirtual 67, 3) := by decide +kernel
theorem dX5_put_47 : decode cX5_put 47 = .ok (.ireturn, 1) := by decide +kernel
theorem dX5_put_48 : decode cX5_put 48 = .ok (.aload_n 0, 1) := by decide +kernel
theorem dX5_put_49 : decode cX5_put 49 = .ok (.getfield 18, 3) := by decide +kernel
theorem dX5_put_52 : decode cX5_put 52 = .ok (.iload_n 1, 1) := by decide +kernel
theorem dX5_put_53 : decode cX5_put 53 = .ok (.iload_n 2, 1) := by decide +kernel
theorem dX5_put_54 : decode cX5_put 54 = .ok (.invokevirtual 82, 3) := by decide +kernel
theorem dX5_put_57 : decode cX5_put 57 = .ok (.istore 4, 2) := by decide +kernel
theorem dX5_put_59 : decode cX5_put 59 = .ok (.aload_n 0, 1) := by decide +kernel
theorem dX5_put_60 : decode cX5_put 60 = .ok (.getfield 18, 3) := by decide +kernel
theorem dX5_put_63 : decode cX5_put 63 = .ok (.iload_n 1, 1) := by decide +kernel
theorem dX5_put_64 : decode cX5_put 64 = .ok (.iload_n 2, 1) := by decide +kernel
theorem dX5_put_65 : decode cX5_put 65 = .ok (.iload_n 3, 1) := by decide +kernel
theorem dX5_put_66 : decode cX5_put 66 = .ok (.i2b, 1) := by decide +kernel
theorem dX5_put_67 : decode cX5_put 67 = .ok (.invokevirtual 90, 3) := by decide +kernel
theorem dX5_put_70 : decode cX5_put 70 = .ok (.iload 4, 2) := by decide +kernel
theorem dX5_put_72 : decode cX5_put 72 = .ok (.sipush 1000, 3) := by decide +kernel
theorem dX5_put_75 : decode cX5_put 75 = .ok (.iadd, 1) := by decide +kernel
theorem dX5_put_76 : decode cX5_put 76 = .ok (.ireturn, 1) := by decide +kernel
theorem dX5_fault_0 : decode cX5_fault 0 = .ok (.aload_n 0, 1) := by decide +kernel
theorem dX5_fault_1 : decode cX5_fault 1 = .ok (.getfield 18, 3) := by decide +kernel
theorem dX5_fault_4 : decode cX5_fault 4 = .ok (.iload_n 1, 1) := by decide +kernel
theorem dX5_fault_5 : decode cX5_fault 5 = .ok (.invokevirtual 63, 3) := by decide +kernel
theorem dX5_fault_8 : decode cX5_fault 8 = .ok (.ifCond .ne 5, 3) := by decide +kernel
theorem dX5_fault_11 : decode cX5_fault 11 = .ok (.iconst (-1), 1) := by decide +kernel
theorem dX5_fault_12 : decode cX5_fault 12 = .ok (.ireturn, 1) := by decide +kernel
theorem dX5_fault_13 : decode cX5_fault 13 = .ok (.aload_n 0, 1) := by decide +kernel
theorem dX5_fault_14 : decode cX5_fault 14 = .ok (.getfield 18, 3) := by decide +kernel
theorem dX5_fault_17 : decode cX5_fault 17 = .ok (.iload_n 1, 1) := by decide +kernel
theorem dX5_fault_18 : decode cX5_fault 18 = .ok (.invokevirtual 75, 3) := by decide +kernel
theorem dX5_fault_21 : decode cX5_fault 21 = .ok (.ifCond .ne 9, 3) := by decide +kernel
theorem dX5_fault_24 : decode cX5_fault 24 = .ok (.aload_n 0, 1) := by decide +kernel
theorem dX5_fault_25 : decode cX5_fault 25 = .ok (.iconst 1, 1) := by decide +kernel
theorem dX5_fault_26 : decode cX5_fault 26 = .ok (.invokevirtual 67, 3) := by decide +kernel
theorem dX5_fault_29 : decode cX5_fault 29 = .ok (.ireturn, 1) := by decide +kernel
theorem dX5_fault_30 : decode cX5_fault 30 = .ok (.aload_n 0, 1) := by decide +kernel
theorem dX5_fault_31 : decode cX5_fault 31 = .ok (.iload_n 1, 1) := by decide +kernel
theorem dX5_fault_32 : decode cX5_fault 32 = .ok (.invokevirtual 111, 3) := by decide +kernel
theorem dX5_fault_35 : decode cX5_fault 35 = .ok (.ireturn, 1) := by decide +kernel
theorem dX5_rock_0 : decode cX5_rock 0 = .ok (.aload_n 0, 1) := by decide +kernel
theorem dX5_rock_1 : decode cX5_rock 1 = .ok (.getfield 18, 3) := by decide +kernel
theorem dX5_rock_4 : decode cX5_rock 4 = .ok (.iload_n 1, 1) := by decide +kernel
theorem dX5_rock_5 : decode cX5_rock 5 = .ok (.invokevirtual 63, 3) := by decide +kernel
theorem dX5_rock_8 : decode cX5_rock 8 = .ok (.ifCond .ne 5, 3) := by decide +kernel
theorem dX5_rock_11 : decode cX5_rock 11 = .ok (.iconst (-1), 1) := by decide +kernel
theorem dX5_rock_12 : decode cX5_rock 12 = .ok (.ireturn, 1) := by decide +kernel
theorem dX5_rock_13 : decode cX5_rock 13 = .ok (.aload_n 0, 1) := by decide +kernel
theorem dX5_rock_14 : decode cX5_rock 14 = .ok (.getfield 18, 3) := by decide +kernel
theorem dX5_rock_17 : decode cX5_rock 17 = .ok (.iload_n 1, 1) := by decide +kernel
theorem dX5_rock_18 : decode cX5_rock 18 = .ok (.invokevirtual 75, 3) := by decide +kernel
theorem dX5_rock_21 : decode cX5_rock 21 = .ok (.ifCond .ne 9, 3) := by decide +kernel
theorem dX5_rock_24 : decode cX5_rock 24 = .ok (.aload_n 0, 1) := by decide +kernel
theorem dX5_rock_25 : decode cX5_rock 25 = .ok (.iconst 1, 1) := by decide +kernel
theorem dX5_rock_26 : decode cX5_rock 26 = .ok (.invokevirtual 67, 3) := by decide +kernel
theorem dX5_rock_29 : decode cX5_rock 29 = .ok (.ireturn, 1) := by decide +kernel
theorem dX5_rock_30 : decode cX5_rock 30 = .ok (.aload_n 0, 1) := by decide +kernel
theorem dX5_rock_31 : decode cX5_rock 31 = .ok (.iload_n 1, 1) := by decide +kernel
theorem dX5_rock_32 : decode cX5_rock 32 = .ok (.invokevirtual 111, 3) := by decide +kernel
theorem dX5_rock_35 : decode cX5_rock 35 = .ok (.bipush (-9), 2) := by decide +kernel
theorem dX5_rock_37 : decode cX5_rock 37 = .ok (.if_icmp .eq 6, 3) := by decide +kernel
theorem dX5_rock_40 : decode cX5_rock 40 = .ok (.bipush (-4), 2) := by decide +kernel
theorem dX5_rock_42 : decode cX5_rock 42 = .ok (.ireturn, 1) := by decide +kernel
theorem dX5_rock_43 : decode cX5_rock 43 = .ok (.aload_n 0, 1) := by decide +kernel
theorem dX5_rock_44 : decode cX5_rock 44 = .ok (.getfield 26, 3) := by decide +kernel
theorem dX5_rock_47 : decode cX5_rock 47 = .ok (.aload_n 0, 1) := by decide +kernel
theorem dX5_rock_48 : decode cX5_rock 48 = .ok (.getfield 37, 3) := by decide +kernel
theorem dX5_rock_51 : decode cX5_rock 51 = .ok (.invokevirtual 114, 3) := by decide +kernel
theorem dX5_rock_54 : decode cX5_rock 54 = .ok (.aload_n 0, 1) := by decide +kernel
theorem dX5_rock_55 : decode cX5_rock 55 = .ok (.getfield 30, 3) := by decide +kernel
theorem dX5_rock_58 : decode cX5_rock 58 = .ok (.astore_n 2, 1) := by decide +kernel
theorem dX5_rock_59 : decode cX5_rock 59 = .ok (.aload_n 2, 1) := by decide +kernel
theorem dX5_rock_60 : decode cX5_rock 60 = .ok (.arraylength, 1) := by decide +kernel
theorem dX5_rock_61 : decode cX5_rock 61 = .ok (.istore_n 3, 1) := by decide +kernel
theorem dX5_rock_62 : decode cX5_rock 62 = .ok (.iconst 0, 1) := by decide +kernel
theorem dX5_rock_63 : decode cX5_rock 63 = .ok (.istore 4, 2) := by decide +kernel
theorem dX5_rock_65 : decode cX5_rock 65 = .ok (.iload 4, 2) := by decide +kernel
theorem dX5_rock_67 : decode cX5_rock 67 = .ok (.iload_n 3, 1) := by decide +kernel
theorem dX5_rock_68 : decode cX5_rock 68 = .ok (.if_icmp .ge 20, 3) := by decide +kernel
theorem dX5_rock_71 : decode cX5_rock 71 = .ok (.aload_n 2, 1) := by decide +kernel
theorem dX5_rock_72 : decode cX5_rock 72 = .ok (.iload 4, 2) := by decide +kernel
theorem dX5_rock_74 : decode cX5_rock 74 = .ok (.aaload, 1) := by decide +kernel
theorem dX5_rock_75 : decode cX5_rock 75 = .ok (.astore 5, 2) := by decide +kernel
theorem dX5_rock_77 : decode cX5_rock 77 = .ok (.aload 5, 2) := by decide +kernel
theorem dX5_rock_79 : decode cX5_rock 79 = .ok (.invokevirtual 118, 3) := by decide +kernel
theorem dX5_rock_82 : decode cX5_rock 82 = .ok (.iinc 4 1, 3) := by decide +kernel
theorem dX5_rock_85 : decode cX5_rock 85 = .ok (.goto (-20), 3) := by decide +kernel
theorem dX5_rock_88 : decode cX5_rock 88 = .ok (.aload_n 0, 1) := by decide +kernel
theorem dX5_rock_89 : decode cX5_rock 89 = .ok (.getfield 37, 3) := by decide +kernel
theorem dX5_rock_92 : decode cX5_rock 92 = .ok (.invokevirtual 121, 3) := by decide +kernel
theorem dX5_rock_95 : decode cX5_rock 95 = .ok (.ireturn, 1) := by decide +kernel
theorem dX5_tower_0 : decode cX5_tower 0 = .ok (.aload_n 0, 1) := by decide +kernel
theorem dX5_tower_1 : decode cX5_tower 1 = .ok (.getfield 26, 3) := by decide +kernel
theorem dX5_tower_4 : decode cX5_tower 4 = .ok (.getfield 125, 3) := by decide +kernel
theorem dX5_tower_7 : decode cX5_tower 7 = .ok (.iload_n 1, 1) := by decide +kernel
theorem dX5_tower_8 : decode cX5_tower 8 = .ok (.invokevirtual 128, 3) := by decide +kernel
theorem dX5_tower_11 : decode cX5_tower 11 = .ok (.ifCond .eq 17, 3) := by decide +kernel
theorem dX5_tower_14 : decode cX5_tower 14 = .ok (.aload_n 0, 1) := by decide +kernel
theorem dX5_tower_15 : decode cX5_tower 15 = .ok (.getfield 26, 3) := by decide +kernel
theorem dX5_tower_18 : decode cX5_tower 18 = .ok (.getfield 125, 3) := by decide +kernel
theorem dX5_tower_21 : decode cX5_tower 21 = .ok (.iload_n 1, 1) := by decide +kernel
theorem dX5_tower_22 : decode cX5_tower 22 = .ok (.invokevirtual 131, 3) := by decide +kernel
theorem dX5_tower_25 : decode cX5_tower 25 = .ok (.goto 4, 3) := by decide +kernel
theorem dX5_tower_28 : decode cX5_tower 28 = .ok (.iconst (-1), 1) := by decide +kernel
theorem dX5_tower_29 : decode cX5_tower 29 = .ok (.ireturn, 1) := by decide +kernel
theorem dX5_house_0 : decode cX5_house 0 = .ok (.aload_n 0, 1) := by decide +kernel
theorem dX5_house_1 : decode cX5_house 1 = .ok (.iload_n 1, 1) := by decide +kernel
theorem dX5_house_2 : decode cX5_house 2 = .ok (.iload_n 2, 1) := by decide +kernel
theorem dX5_house_3 : decode cX5_house 3 = .ok (.invokevirtual 134, 3) := by decide +kernel
theorem dX5_house_6 : decode cX5_house 6 = .ok (.ifCond .ne 13, 3) := by decide +kernel
theorem dX5_house_9 : decode cX5_house 9 = .ok (.iload_n 3, 1) := by decide +kernel
theorem dX5_house_10 : decode cX5_house 10 = .ok (.ifCond .lt 9, 3) := by decide +kernel
theorem dX5_house_13 : decode cX5_house 13 = .ok (.iload_n 3, 1) := by decide +kernel
theorem dX5_house_14 : decode cX5_house 14 = .ok (.bipush 6, 2) := by decide +kernel
theorem dX5_house_16 : decode cX5_house 16 = .ok (.if_icmp .le 5, 3) := by decide +kernel
theorem dX5_house_19 : decode cX5_house 19 = .ok (.iconst (-1), 1) := by decide +kernel
theorem dX5_house_20 : decode cX5_house 20 = .ok (.ireturn, 1) := by decide +kernel
theorem dX5_house_21 : decode cX5_house 21 = .ok (.aload_n 0, 1) := by decide +kernel
theorem dX5_house_22 : decode cX5_house 22 = .ok (.getfield 26, 3) := by decide +kernel
theorem dX5_house_25 : decode cX5_house 25 = .ok (.getfield 125, 3) := by decide +kernel
theorem dX5_house_28 : decode cX5_house 28 = .ok (.iload_n 1, 1) := by decide +kernel
theorem dX5_house_29 : decode cX5_house 29 = .ok (.iload_n 2, 1) := by decide +kernel
theorem dX5_house_30 : decode cX5_house 30 = .ok (.invokevirtual 137, 3) := by decide +kernel
theorem dX5_house_33 : decode cX5_house 33 = .ok (.ifCond .ne 9, 3) := by decide +kernel
theorem dX5_house_36 : decode cX5_house 36 = .ok (.aload_n 0, 1) := by decide +kernel
theorem dX5_house_37 : decode cX5_house 37 = .ok (.iconst 2, 1) := by decide +kernel
theorem dX5_house_38 : decode cX5_house 38 = .ok (.invokevirtual 67, 3) := by decide +kernel
theorem dX5_house_41 : decode cX5_house 41 = .ok (.ireturn, 1) := by decide +kernel
theorem dX5_house_42 : decode cX5_house 42 = .ok (.aload_n 0, 1) := by decide +kernel
theorem dX5_house_43 : decode cX5_house 43 = .ok (.getfield 44, 3) := by decide +kernel
theorem dX5_house_46 : decode cX5_house 46 = .ok (.aload_n 0, 1) := by decide +kernel
theorem dX5_house_47 : decode cX5_house 47 = .ok (.getfield 26, 3) := by decide +kernel
theorem dX5_house_50 : decode cX5_house 50 = .ok (.getfield 125, 3) := by decide +kernel
theorem dX5_house_53 : decode cX5_house 53 = .ok (.invokevirtual 138, 3) := by decide +kernel
theorem dX5_house_56 : decode cX5_house 56 = .ok (.aload_n 0, 1) := by decide +kernel
theorem dX5_house_57 : decode cX5_house 57 = .ok (.aload_n 0, 1) := by decide +kernel
theorem dX5_house_58 : decode cX5_house 58 = .ok (.iload_n 1, 1) := by decide +kernel
theorem dX5_house_59 : decode cX5_house 59 = .ok (.iload_n 2, 1) := by decide +kernel
theorem dX5_house_60 : decode cX5_house 60 = .ok (.iload_n 3, 1) := by decide +kernel
theorem dX5_house_61 : decode cX5_house 61 = .ok (.invokevirtual 141, 3) := by decide +kernel
theorem dX5_house_64 : decode cX5_house 64 = .ok (.putfield 86, 3) := by decide +kernel
theorem dX5_house_67 : decode cX5_house 67 = .ok (.iconst 1, 1) := by decide +kernel
theorem dX5_house_68 : decode cX5_house 68 = .ok (.ireturn, 1) := by decide +kernel
theorem dX5_mark_0 : decode cX5_mark 0 = .ok (.aload_n 0, 1) := by decide +kernel
theorem dX5_mark_1 : decode cX5_mark 1 = .ok (.iload_n 1, 1) := by decide +kernel
theorem dX5_mark_2 : decode cX5_mark 2 = .ok (.iload_n 2, 1) := by decide +kernel
theorem dX5_mark_3 : decode cX5_mark 3 = .ok (.invokevirtual 134, 3) := by decide +kernel
theorem dX5_mark_6 : decode cX5_mark 6 = .ok (.ifCond .ne 14, 3) := by decide +kernel
theorem dX5_mark_9 : decode cX5_mark 9 = .ok (.iload_n 3, 1) := by decide +kernel
theorem dX5_mark_10 : decode cX5_mark 10 = .ok (.invokestatic 145, 3) := by decide +kernel
theorem dX5_mark_13 : decode cX5_mark 13 = .ok (.ifCond .eq 7, 3) := by decide +kernel
theorem dX5_mark_16 : decode cX5_mark 16 = .ok (.iload_n 3, 1) := by decide +kernel
theorem dX5_mark_17 : decode cX5_mark 17 = .ok (.ifCond .ne 5, 3) := by decide +kernel
theorem dX5_mark_20 : decode cX5_mark 20 = .ok (.iconst (-1), 1) := by decide +kernel
theorem dX5_mark_21 : decode cX5_mark 21 = .ok (.ireturn, 1) := by decide +kernel
theorem dX5_mark_22 : decode cX5_mark 22 = .ok (.aload_n 0, 1) := by decide +kernel
theorem dX5_mark_23 : decode cX5_mark 23 = .ok (.getfield 26, 3) := by decide +kernel
theorem dX5_mark_26 : decode cX5_mark 26 = .ok (.getfield 125, 3) := by decide +kernel
theorem dX5_mark_29 : decode cX5_mark 29 = .ok (.iload_n 1, 1) := by decide +kernel
theorem dX5_mark_30 : decode cX5_mark 30 = .ok (.iload_n 2, 1) := by decide +kernel
theorem dX5_mark_31 : decode cX5_mark 31 = .ok (.invokevirtual 137, 3) := by decide +kernel
theorem dX5_mark_34 : decode cX5_mark 34 = .ok (.ifCond .ne 9, 3) := by decide +kernel
theorem dX5_mark_37 : decode cX5_mark 37 = .ok (.aload_n 0, 1) := by decide +kernel
theorem dX5_mark_38 : decode cX5_mark 38 = .ok (.iconst 2, 1) := by decide +kernel
theorem dX5_mark_39 : decode cX5_mark 39 = .ok (.invokevirtual 67, 3) := by decide +kernel
theorem dX5_mark_42 : decode cX5_mark 42 = .ok (.ireturn, 1) := by decide +kernel
theorem dX5_mark_43 : decode cX5_mark 43 = .ok (.aload_n 0, 1) := by decide +kernel
theorem dX5_mark_44 : decode cX5_mark 44 = .ok (.getfield 26, 3) := by decide +kernel
theorem dX5_mark_47 : decode cX5_mark 47 = .ok (.getfield 125, 3) := by decide +kernel
theorem dX5_mark_50 : decode cX5_mark 50 = .ok (.iload_n 1, 1) := by decide +kernel
theorem dX5_mark_51 : decode cX5_mark 51 = .ok (.iload_n 2, 1) := by decide +kernel
theorem dX5_mark_52 : decode cX5_mark 52 = .ok (.invokevirtual 148, 3) := by decide +kernel
theorem dX5_mark_55 : decode cX5_mark 55 = .ok (.iload_n 3, 1) := by decide +kernel
theorem dX5_mark_56 : decode cX5_mark 56 = .ok (.invokestatic 151, 3) := by decide +kernel
theorem dX5_mark_59 : decode cX5_mark 59 = .ok (.ifCond .ne 9, 3) := by decide +kernel
theorem dX5_mark_62 : decode cX5_mark 62 = .ok (.aload_n 0, 1) := by decide +kernel
theorem dX5_mark_63 : decode cX5_mark 63 = .ok (.iconst 3, 1) := by decide +kernel
theorem dX5_mark_64 : decode cX5_mark 64 = .ok (.invokevirtual 67, 3) := by decide +kernel
theorem dX5_mark_67 : decode cX5_mark 67 = .ok (.ireturn, 1) := by decide +kernel
theorem dX5_mark_68 : decode cX5_mark 68 = .ok (.aload_n 0, 1) := by decide +kernel
theorem dX5_mark_69 : decode cX5_mark 69 = .ok (.iload_n 1, 1) := by decide +kernel
theorem dX5_mark_70 : decode cX5_mark 70 = .ok (.iload_n 2, 1) := by decide +kernel
theorem dX5_mark_71 : decode cX5_mark 71 = .ok (.iload_n 3, 1) := by decide +kernel
theorem dX5_mark_72 : decode cX5_mark 72 = .ok (.invokevirtual 154, 3) := by decide +kernel
theorem dX5_mark_75 : decode cX5_mark 75 = .ok (.ireturn, 1) := by decide +kernel
theorem dX5_bear_0 : decode cX5_bear 0 = .ok (.aload_n 0, 1) := by decide +kernel
theorem dX5_bear_1 : decode cX5_bear 1 = .ok (.iload_n 1, 1) := by decide +kernel
theorem dX5_bear_2 : decode cX5_bear 2 = .ok (.iload_n 2, 1) := by decide +kernel
theorem dX5_bear_3 : decode cX5_bear 3 = .ok (.invokevirtual 134, 3) := by decide +kernel
theorem dX5_bear_6 : decode cX5_bear 6 = .ok (.ifCond .ne 10, 3) := by decide +kernel
theorem dX5_bear_9 : decode cX5_bear 9 = .ok (.iload_n 3, 1) := by decide +kernel
theorem dX5_bear_10 : decode cX5_bear 10 = .ok (.invokestatic 157, 3) := by decide +kernel
theorem dX5_bear_13 : decode cX5_bear 13 = .ok (.ifCond .ne 5, 3) := by decide +kernel
theorem dX5_bear_16 : decode cX5_bear 16 = .ok (.iconst (-1), 1) := by decide +kernel
theorem dX5_bear_17 : decode cX5_bear 17 = .ok (.ireturn, 1) := by decide +kernel
theorem dX5_bear_18 : decode cX5_bear 18 = .ok (.aload_n 0, 1) := by decide +kernel
theorem dX5_bear_19 : decode cX5_bear 19 = .ok (.getfield 26, 3) := by decide +kernel
theorem dX5_bear_22 : decode cX5_bear 22 = .ok (.getfield 125, 3) := by decide +kernel
theorem dX5_bear_25 : decode cX5_bear 25 = .ok (.iload_n 1, 1) := by decide +kernel
theorem dX5_bear_26 : decode cX5_bear 26 = .ok (.iload_n 2, 1) := by decide +kernel
theorem dX5_bear_27 : decode cX5_bear 27 = .ok (.invokevirtual 137, 3) := by decide +kernel
theorem dX5_bear_30 : decode cX5_bear 30 = .ok (.ifCond .ne 9, 3) := by decide +kernel
theorem dX5_bear_33 : decode cX5_bear 33 = .ok (.aload_n 0, 1) := by decide +kernel
theorem dX5_bear_34 : decode cX5_bear 34 = .ok (.iconst 2, 1) := by decide +kernel
theorem dX5_bear_35 : decode cX5_bear 35 = .ok (.invokevirtual 67, 3) := by decide +kernel
theorem dX5_bear_38 : decode cX5_bear 38 = .ok (.ireturn, 1) := by decide +kernel
theorem dX5_bear_39 : decode cX5_bear 39 = .ok (.aload_n 0, 1) := by decide +kernel
theorem dX5_bear_40 : decode cX5_bear 40 = .ok (.getfield 26, 3) := by decide +kernel
theorem dX5_bear_43 : decode cX5_bear 43 = .ok (.getfield 125, 3) := by decide +kernel
theorem dX5_bear_46 : decode cX5_bear 46 = .ok (.iload_n 1, 1) := by decide +kernel
theorem dX5_bear_47 : decode cX5_bear 47 = .ok (.iload_n 2, 1) := by decide +kernel
theorem dX5_bear_48 : decode cX5_bear 48 = .ok (.invokevirtual 160, 3) := by decide +kernel
theorem dX5_bear_51 : decode cX5_bear 51 = .ok (.istore 4, 2) := by decide +kernel
theorem dX5_bear_53 : decode cX5_bear 53 = .ok (.aload_n 0, 1) := by decide +kernel
theorem dX5_bear_54 : decode cX5_bear 54 = .ok (.getfield 26, 3) := by decide +kernel
theorem dX5_bear_57 : decode cX5_bear 57 = .ok (.getfield 125, 3) := by decide +kernel
theorem dX5_bear_60 : decode cX5_bear 60 = .ok (.iload_n 1, 1) := by decide +kernel
theorem dX5_bear_61 : decode cX5_bear 61 = .ok (.iload_n 2, 1) := by decide +kernel
theorem dX5_bear_62 : decode cX5_bear 62 = .ok (.aload_n 0, 1) := by decide +kernel
theorem dX5_bear_63 : decode cX5_bear 63 = .ok (.getfield 26, 3) := by decide +kernel
theorem dX5_bear_66 : decode cX5_bear 66 = .ok (.getfield 125, 3) := by decide +kernel
theorem dX5_bear_69 : decode cX5_bear 69 = .ok (.iload_n 1, 1) := by decide +kernel
theorem dX5_bear_70 : decode cX5_bear 70 = .ok (.iload_n 2, 1) := by decide +kernel
theorem dX5_bear_71 : decode cX5_bear 71 = .ok (.invokevirtual 148, 3) := by decide +kernel
theorem dX5_bear_74 : decode cX5_bear 74 = .ok (.iload_n 3, 1) := by decide +kernel
theorem dX5_bear_75 : decode cX5_bear 75 = .ok (.invokevirtual 163, 3) := by decide +kernel
theorem dX5_bear_78 : decode cX5_bear 78 = .ok (.iload 4, 2) := by decide +kernel
theorem dX5_bear_80 : decode cX5_bear 80 = .ok (.ireturn, 1) := by decide +kernel
theorem dX5_build_0 : decode cX5_build 0 = .ok (.aload_n 0, 1) := by decide +kernel
theorem dX5_build_1 : decode cX5_build 1 = .ok (.getfield 26, 3) := by decide +kernel
theorem dX5_build_4 : decode cX5_build 4 = .ok (.getfield 125, 3) := by decide +kernel
theorem dX5_build_7 : decode cX5_build 7 = .ok (.iload_n 1, 1) := by decide +kernel
theorem dX5_build_8 : decode cX5_build 8 = .ok (.invokevirtual 128, 3) := by decide +kernel
theorem dX5_build_11 : decode cX5_build 11 = .ok (.ifCond .eq 17, 3) := by decide +kernel
theorem dX5_build_14 : decode cX5_build 14 = .ok (.iload_n 2, 1) := by decide +kernel
theorem dX5_build_15 : decode cX5_build 15 = .ok (.invokestatic 145, 3) := by decide +kernel
theorem dX5_build_18 : decode cX5_build 18 = .ok (.ifCond .eq 10, 3) := by decide +kernel
theorem dX5_build_21 : decode cX5_build 21 = .ok (.iload_n 3, 1) := by decide +kernel
theorem dX5_build_22 : decode cX5_build 22 = .ok (.invokestatic 157, 3) := by decide +kernel
theorem dX5_build_25 : decode cX5_build 25 = .ok (.ifCond .ne 5, 3) := by decide +kernel
theorem dX5_build_28 : decode cX5_build 28 = .ok (.iconst (-1), 1) := by decide +kernel
theorem dX5_build_29 : decode cX5_build 29 = .ok (.ireturn, 1) := by decide +kernel
theorem dX5_build_30 : decode cX5_build 30 = .ok (.aload_n 0, 1) := by decide +kernel
theorem dX5_build_31 : decode cX5_build 31 = .ok (.getfield 26, 3) := by decide +kernel
theorem dX5_build_34 : decode cX5_build 34 = .ok (.getfield 125, 3) := by decide +kernel
theorem dX5_build_37 : decode cX5_build 37 = .ok (.iload_n 1, 1) := by decide +kernel
theorem dX5_build_38 : decode cX5_build 38 = .ok (.invokevirtual 167, 3) := by decide +kernel
theorem dX5_build_41 : decode cX5_build 41 = .ok (.ifCond .eq 14, 3) := by decide +kernel
theorem dX5_build_44 : decode cX5_build 44 = .ok (.aload_n 0, 1) := by decide +kernel
theorem dX5_build_45 : decode cX5_build 45 = .ok (.getfield 26, 3) := by decide +kernel
theorem dX5_build_48 : decode cX5_build 48 = .ok (.iconst 1, 1) := by decide +kernel
theorem dX5_build_49 : decode cX5_build 49 = .ok (.invokevirtual 170, 3) := by decide +kernel
theorem dX5_build_52 : decode cX5_build 52 = .ok (.ifCond .ne 6, 3) := by decide +kernel
theorem dX5_build_55 : decode cX5_build 55 = .ok (.bipush (-2), 2) := by decide +kernel
theorem dX5_build_57 : decode cX5_build 57 = .ok (.ireturn, 1) := by decide +kernel
theorem dX5_build_58 : decode cX5_build 58 = .ok (.aload_n 0, 1) := by decide +kernel
theorem dX5_build_59 : decode cX5_build 59 = .ok (.getfield 26, 3) := by decide +kernel
theorem dX5_build_62 : decode cX5_build 62 = .ok (.invokevirtual 173, 3) := by decide +kernel
theorem dX5_build_65 : decode cX5_build 65 = .ok (.aload_n 0, 1) := by decide +kernel
theorem dX5_build_66 : decode cX5_build 66 = .ok (.getfield 26, 3) := by decide +kernel
theorem dX5_build_69 : decode cX5_build 69 = .ok (.getfield 125, 3) := by decide +kernel
theorem dX5_build_72 : decode cX5_build 72 = .ok (.iload_n 1, 1) := by decide +kernel
theorem dX5_build_73 : decode cX5_build 73 = .ok (.iload_n 2, 1) := by decide +kernel
theorem dX5_build_74 : decode cX5_build 74 = .ok (.iload_n 3, 1) := by decide +kernel
theorem dX5_build_75 : decode cX5_build 75 = .ok (.invokevirtual 176, 3) := by decide +kernel
theorem dX5_build_78 : decode cX5_build 78 = .ok (.pop, 1) := by decide +kernel
theorem dX5_build_79 : decode cX5_build 79 = .ok (.aload_n 0, 1) := by decide +kernel
theorem dX5_build_80 : decode cX5_build 80 = .ok (.getfield 26, 3) := by decide +kernel
theorem dX5_build_83 : decode cX5_build 83 = .ok (.getfield 125, 3) := by decide +kernel
theorem dX5_build_86 : decode cX5_build 86 = .ok (.iload_n 1, 1) := by decide +kernel
theorem dX5_build_87 : decode cX5_build 87 = .ok (.invokevirtual 131, 3) := by decide +kernel
theorem dX5_build_90 : decode cX5_build 90 = .ok (.iconst 1, 1) := by decide +kernel
theorem dX5_build_91 : decode cX5_build 91 = .ok (.isub, 1) := by decide +kernel
theorem dX5_build_92 : decode cX5_build 92 = .ok (.ireturn, 1) := by decide +kernel
theorem dX5_leave_0 : decode cX5_leave 0 = .ok (.aload_n 0, 1) := by decide +kernel
theorem dX5_leave_1 : decode cX5_leave 1 = .ok (.iload_n 1, 1) := by decide +kernel
theorem dX5_leave_2 : decode cX5_leave 2 = .ok (.iload_n 2, 1) := by decide +kernel
theorem dX5_leave_3 : decode cX5_leave 3 = .ok (.invokevirtual 134, 3) := by decide +kernel
theorem dX5_leave_6 : decode cX5_leave 6 = .ok (.ifCond .eq 5, 3) := by decide +kernel
theorem dX5_leave_9 : decode cX5_leave 9 = .ok (.iconst (-1), 1) := by decide +kernel
theorem dX5_leave_10 : decode cX5_leave 10 = .ok (.ireturn, 1) := by decide +kernel
theorem dX5_leave_11 : decode cX5_leave 11 = .ok (.aload_n 0, 1) := by decide +kernel
theorem dX5_leave_12 : decode cX5_leave 12 = .ok (.getfield 26, 3) := by decide +kernel
theorem dX5_leave_15 : decode cX5_leave 15 = .ok (.getfield 125, 3) := by decide +kernel
theorem dX5_leave_18 : decode cX5_leave 18 = .ok (.iload_n 1, 1) := by decide +kernel
theorem dX5_leave_19 : decode cX5_leave 19 = .ok (.iload_n 2, 1) := by decide +kernel
theorem dX5_leave_20 : decode cX5_leave 20 = .ok (.invokevirtual 137, 3) := by decide +kernel
theorem dX5_leave_23 : decode cX5_leave 23 = .ok (.ifCond .ne 9, 3) := by decide +kernel
theorem dX5_leave_26 : decode cX5_leave 26 = .ok (.aload_n 0, 1) := by decide +kernel
theorem dX5_leave_27 : decode cX5_leave 27 = .ok (.iconst 2, 1) := by decide +kernel
theorem dX5_leave_28 : decode cX5_leave 28 = .ok (.invokevirtual 67, 3) := by decide +kernel
theorem dX5_leave_31 : decode cX5_leave 31 = .ok (.ireturn, 1) := by decide +kernel
theorem dX5_leave_32 : decode cX5_leave 32 = .ok (.aload_n 0, 1) := by decide +kernel
theorem dX5_leave_33 : decode cX5_leave 33 = .ok (.getfield 26, 3) := by decide +kernel
theorem dX5_leave_36 : decode cX5_leave 36 = .ok (.iconst 1, 1) := by decide +kernel
theorem dX5_leave_37 : decode cX5_leave 37 = .ok (.invokevirtual 170, 3) := by decide +kernel
theorem dX5_leave_40 : decode cX5_leave 40 = .ok (.ifCond .ne 6, 3) := by decide +kernel
theorem dX5_leave_43 : decode cX5_leave 43 = .ok (.bipush (-2), 2) := by decide +kernel
theorem dX5_leave_45 : decode cX5_leave 45 = .ok (.ireturn, 1) := by decide +kernel
theorem dX5_leave_46 : decode cX5_leave 46 = .ok (.aload_n 0, 1) := by decide +kernel
theorem dX5_leave_47 : decode cX5_leave 47 = .ok (.getfield 26, 3) := by decide +kernel
theorem dX5_leave_50 : decode cX5_leave 50 = .ok (.invokevirtual 173, 3) := by decide +kernel
theorem dX5_leave_53 : decode cX5_leave 53 = .ok (.aload_n 0, 1) := by decide +kernel
theorem dX5_leave_54 : decode cX5_leave 54 = .ok (.getfield 26, 3) := by decide +kernel
theorem dX5_leave_57 : decode cX5_leave 57 = .ok (.getfield 125, 3) := by decide +kernel
theorem dX5_leave_60 : decode cX5_leave 60 = .ok (.iload_n 1, 1) := by decide +kernel
theorem dX5_leave_61 : decode cX5_leave 61 = .ok (.iload_n 2, 1) := by decide +kernel
theorem dX5_leave_62 : decode cX5_leave 62 = .ok (.invokevirtual 179, 3) := by decide +kernel
theorem dX5_leave_65 : decode cX5_leave 65 = .ok (.aload_n 0, 1) := by decide +kernel
theorem dX5_leave_66 : decode cX5_leave 66 = .ok (.getfield 26, 3) := by decide +kernel
theorem dX5_leave_69 : decode cX5_leave 69 = .ok (.getfield 125, 3) := by decide +kernel
theorem dX5_leave_72 : decode cX5_leave 72 = .ok (.iload_n 1, 1) := by decide +kernel
theorem dX5_leave_73 : decode cX5_leave 73 = .ok (.invokevirtual 131, 3) := by decide +kernel
theorem dX5_leave_76 : decode cX5_leave 76 = .ok (.iload_n 2, 1) := by decide +kernel
theorem dX5_leave_77 : decode cX5_leave 77 = .ok (.isub, 1) := by decide +kernel
theorem dX5_leave_78 : decode cX5_leave 78 = .ok (.ireturn, 1) := by decide +kernel
theorem dX5_undo_0 : decode cX5_undo 0 = .ok (.iload_n 1, 1) := by decide +kernel
theorem dX5_undo_1 : decode cX5_undo 1 = .ok (.ifCond .lt 14, 3) := by decide +kernel
theorem dX5_undo_4 : decode cX5_undo 4 = .ok (.iload_n 1, 1) := by decide +kernel
theorem dX5_undo_5 : decode cX5_undo 5 = .ok (.aload_n 0, 1) := by decide +kernel
theorem dX5_undo_6 : decode cX5_undo 6 = .ok (.getfield 26, 3) := by decide +kernel
theorem dX5_undo_9 : decode cX5_undo 9 = .ok (.getfield 182, 3) := by decide +kernel
theorem dX5_undo_12 : decode cX5_undo 12 = .ok (.if_icmp .le 5, 3) := by decide +kernel
theorem dX5_undo_15 : decode cX5_undo 15 = .ok (.iconst (-1), 1) := by decide +kernel
theorem dX5_undo_16 : decode cX5_undo 16 = .ok (.ireturn, 1) := by decide +kernel
theorem dX5_undo_17 : decode cX5_undo 17 = .ok (.aload_n 0, 1) := by decide +kernel
theorem dX5_undo_18 : decode cX5_undo 18 = .ok (.getfield 26, 3) := by decide +kernel
theorem dX5_undo_21 : decode cX5_undo 21 = .ok (.getfield 182, 3) := by decide +kernel
theorem dX5_undo_24 : decode cX5_undo 24 = .ok (.iload_n 1, 1) := by decide +kernel
theorem dX5_undo_25 : decode cX5_undo 25 = .ok (.isub, 1) := by decide +kernel
theorem dX5_undo_26 : decode cX5_undo 26 = .ok (.istore_n 2, 1) := by decide +kernel
theorem dX5_undo_27 : decode cX5_undo 27 = .ok (.aload_n 0, 1) := by decide +kernel
theorem dX5_undo_28 : decode cX5_undo 28 = .ok (.getfield 26, 3) := by decide +kernel
theorem dX5_undo_31 : decode cX5_undo 31 = .ok (.iload_n 1, 1) := by decide +kernel
theorem dX5_undo_32 : decode cX5_undo 32 = .ok (.invokevirtual 185, 3) := by decide +kernel
theorem dX5_undo_35 : decode cX5_undo 35 = .ok (.iload_n 2, 1) := by decide +kernel
theorem dX5_undo_36 : decode cX5_undo 36 = .ok (.ireturn, 1) := by decide +kernel
theorem dX5_keep_0 : decode cX5_keep 0 = .ok (.aload_n 0, 1) := by decide +kernel
theorem dX5_keep_1 : decode cX5_keep 1 = .ok (.iload_n 1, 1) := by decide +kernel
theorem dX5_keep_2 : decode cX5_keep 2 = .ok (.invokevirtual 188, 3) := by decide +kernel
theorem dX5_keep_5 : decode cX5_keep 5 = .ok (.astore_n 2, 1) := by decide +kernel
theorem dX5_keep_6 : decode cX5_keep 6 = .ok (.aload_n 2, 1) := by decide +kernel
theorem dX5_keep_7 : decode cX5_keep 7 = .ok (.ifnonnull 5, 3) := by decide +kernel
theorem dX5_keep_10 : decode cX5_keep 10 = .ok (.iconst (-1), 1) := by decide +kernel
theorem dX5_keep_11 : decode cX5_keep 11 = .ok (.ireturn, 1) := by decide +kernel
theorem dX5_keep_12 : decode cX5_keep 12 = .ok (.aload_n 0, 1) := by decide +kernel
theorem dX5_keep_13 : decode cX5_keep 13 = .ok (.getfield 26, 3) := by decide +kernel
theorem dX5_keep_16 : decode cX5_keep 16 = .ok (.getfield 125, 3) := by decide +kernel
theorem dX5_keep_19 : decode cX5_keep 19 = .ok (.invokevirtual 121, 3) := by decide +kernel
theorem dX5_keep_22 : decode cX5_keep 22 = .ok (.ifCond .ne 6, 3) := by decide +kernel
theorem dX5_keep_25 : decode cX5_keep 25 = .ok (.bipush (-4), 2) := by decide +kernel
theorem dX5_keep_27 : decode cX5_keep 27 = .ok (.ireturn, 1) := by decide +kernel
theorem dX5_keep_28 : decode cX5_keep 28 = .ok (.aload_n 2, 1) := by decide +kernel
theorem dX5_keep_29 : decode cX5_keep 29 = .ok (.aload_n 0, 1) := by decide +kernel
theorem dX5_keep_30 : decode cX5_keep 30 = .ok (.getfield 26, 3) := by decide +kernel
theorem dX5_keep_33 : decode cX5_keep 33 = .ok (.invokevirtual 192, 3) := by decide +kernel
theorem dX5_keep_36 : decode cX5_keep 36 = .ok (.aload_n 0, 1) := by decide +kernel
theorem dX5_keep_37 : decode cX5_keep 37 = .ok (.getfield 26, 3) := by decide +kernel
theorem dX5_keep_40 : decode cX5_keep 40 = .ok (.getfield 182, 3) := by decide +kernel
theorem dX5_keep_43 : decode cX5_keep 43 = .ok (.ireturn, 1) := by decide +kernel
theorem dX5_on_0 : decode cX5_on 0 = .ok (.aload_n 0, 1) := by decide +kernel
theorem dX5_on_1 : decode cX5_on 1 = .ok (.iload_n 1, 1) := by decide +kernel
theorem dX5_on_2 : decode cX5_on 2 = .ok (.invokevirtual 188, 3) := by decide +kernel
theorem dX5_on_5 : decode cX5_on 5 = .ok (.astore_n 2, 1) := by decide +kernel
theorem dX5_on_6 : decode cX5_on 6 = .ok (.aload_n 2, 1) := by decide +kernel
theorem dX5_on_7 : decode cX5_on 7 = .ok (.ifnonnull 5, 3) := by decide +kernel
theorem dX5_on_10 : decode cX5_on 10 = .ok (.iconst (-1), 1) := by decide +kernel
theorem dX5_on_11 : decode cX5_on 11 = .ok (.ireturn, 1) := by decide +kernel
theorem dX5_on_12 : decode cX5_on 12 = .ok (.aload_n 2, 1) := by decide +kernel
theorem dX5_on_13 : decode cX5_on 13 = .ok (.invokevirtual 196, 3) := by decide +kernel
theorem dX5_on_16 : decode cX5_on 16 = .ok (.ifCond .ne 9, 3) := by decide +kernel
theorem dX5_on_19 : decode cX5_on 19 = .ok (.aload_n 0, 1) := by decide +kernel
theorem dX5_on_20 : decode cX5_on 20 = .ok (.iconst 1, 1) := by decide +kernel
theorem dX5_on_21 : decode cX5_on 21 = .ok (.invokevirtual 67, 3) := by decide +kernel
theorem dX5_on_24 : decode cX5_on 24 = .ok (.ireturn, 1) := by decide +kernel
theorem dX5_on_25 : decode cX5_on 25 = .ok (.aload_n 0, 1) := by decide +kernel
theorem dX5_on_26 : decode cX5_on 26 = .ok (.getfield 26, 3) := by decide +kernel
theorem dX5_on_29 : decode cX5_on 29 = .ok (.aload_n 2, 1) := by decide +kernel
theorem dX5_on_30 : decode cX5_on 30 = .ok (.invokevirtual 192, 3) := by decide +kernel
theorem dX5_on_33 : decode cX5_on 33 = .ok (.aload_n 0, 1) := by decide +kernel
theorem dX5_on_34 : decode cX5_on 34 = .ok (.getfield 26, 3) := by decide +kernel
theorem dX5_on_37 : decode cX5_on 37 = .ok (.getfield 182, 3) := by decide +kernel
theorem dX5_on_40 : decode cX5_on 40 = .ok (.ireturn, 1) := by decide +kernel
theorem dX5_shades_0 : decode cX5_shades 0 = .ok (.aload_n 0, 1) := by decide +kernel
theorem dX5_shades_1 : decode cX5_shades 1 = .ok (.iload_n 1, 1) := by decide +kernel
theorem dX5_shades_2 : decode cX5_shades 2 = .ok (.iload_n 2, 1) := by decide +kernel
theorem dX5_shades_3 : decode cX5_shades 3 = .ok (.invokevirtual 134, 3) := by decide +kernel
theorem dX5_shades_6 : decode cX5_shades 6 = .ok (.ifCond .ne 12, 3) := by decide +kernel
theorem dX5_shades_9 : decode cX5_shades 9 = .ok (.iload_n 3, 1) := by decide +kernel
theorem dX5_shades_10 : decode cX5_shades 10 = .ok (.ifCond .lt 8, 3) := by decide +kernel
theorem dX5_shades_13 : decode cX5_shades 13 = .ok (.iload_n 3, 1) := by decide +kernel
theorem dX5_shades_14 : decode cX5_shades 14 = .ok (.iconst 5, 1) := by decide +kernel
theorem dX5_shades_15 : decode cX5_shades 15 = .ok (.if_icmp .lt 5, 3) := by decide +kernel
theorem dX5_shades_18 : decode cX5_shades 18 = .ok (.iconst (-1), 1) := by decide +kernel
theorem dX5_shades_19 : decode cX5_shades 19 = .ok (.ireturn, 1) := by decide +kernel
theorem dX5_shades_20 : decode cX5_shades 20 = .ok (.aload_n 0, 1) := by decide +kernel
theorem dX5_shades_21 : decode cX5_shades 21 = .ok (.getfield 26, 3) := by decide +kernel
theorem dX5_shades_24 : decode cX5_shades 24 = .ok (.getfield 125, 3) := by decide +kernel
theorem dX5_shades_27 : decode cX5_shades 27 = .ok (.iload_n 1, 1) := by decide +kernel
theorem dX5_shades_28 : decode cX5_shades 28 = .ok (.iload_n 2, 1) := by decide +kernel
theorem dX5_shades_29 : decode cX5_shades 29 = .ok (.invokevirtual 137, 3) := by decide +kernel
theorem dX5_shades_32 : decode cX5_shades 32 = .ok (.ifCond .ne 9, 3) := by decide +kernel
theorem dX5_shades_35 : decode cX5_shades 35 = .ok (.aload_n 0, 1) := by decide +kernel
theorem dX5_shades_36 : decode cX5_shades 36 = .ok (.iconst 2, 1) := by decide +kernel
theorem dX5_shades_37 : decode cX5_shades 37 = .ok (.invokevirtual 67, 3) := by decide +kernel
theorem dX5_shades_40 : decode cX5_shades 40 = .ok (.ireturn, 1) := by decide +kernel
theorem dX5_shades_41 : decode cX5_shades 41 = .ok (.aload_n 0, 1) := by decide +kernel
theorem dX5_shades_42 : decode cX5_shades 42 = .ok (.getfield 26, 3) := by decide +kernel
theorem dX5_shades_45 : decode cX5_shades 45 = .ok (.getfield 125, 3) := by decide +kernel
theorem dX5_shades_48 : decode cX5_shades 48 = .ok (.iload_n 1, 1) := by decide +kernel
theorem dX5_shades_49 : decode cX5_shades 49 = .ok (.iload_n 2, 1) := by decide +kernel
theorem dX5_shades_50 : decode cX5_shades 50 = .ok (.iload_n 3, 1) := by decide +kernel
theorem dX5_shades_51 : decode cX5_shades 51 = .ok (.invokevirtual 199, 3) := by decide +kernel
theorem dX5_shades_54 : decode cX5_shades 54 = .ok (.ireturn, 1) := by decide +kernel
theorem dX5_sees_0 : decode cX5_sees 0 = .ok (.aload_n 0, 1) := by decide +kernel
theorem dX5_sees_1 : decode cX5_sees 1 = .ok (.iload_n 1, 1) := by decide +kernel
theorem dX5_sees_2 : decode cX5_sees 2 = .ok (.iload_n 2, 1) := by decide +kernel
theorem dX5_sees_3 : decode cX5_sees 3 = .ok (.invokevirtual 134, 3) := by decide +kernel
theorem dX5_sees_6 : decode cX5_sees 6 = .ok (.ifCond .eq 5, 3) := by decide +kernel
theorem dX5_sees_9 : decode cX5_sees 9 = .ok (.iconst (-1), 1) := by decide +kernel
theorem dX5_sees_10 : decode cX5_sees 10 = .ok (.ireturn, 1) := by decide +kernel
theorem dX5_sees_11 : decode cX5_sees 11 = .ok (.aload_n 0, 1) := by decide +kernel
theorem dX5_sees_12 : decode cX5_sees 12 = .ok (.getfield 26, 3) := by decide +kernel
theorem dX5_sees_15 : decode cX5_sees 15 = .ok (.getfield 125, 3) := by decide +kernel
theorem dX5_sees_18 : decode cX5_sees 18 = .ok (.iload_n 1, 1) := by decide +kernel
theorem dX5_sees_19 : decode cX5_sees 19 = .ok (.iload_n 2, 1) := by decide +kernel
theorem dX5_sees_20 : decode cX5_sees 20 = .ok (.invokevirtual 137, 3) := by decide +kernel
theorem dX5_sees_23 : decode cX5_sees 23 = .ok (.ifCond .ne 9, 3) := by decide +kernel
theorem dX5_sees_26 : decode cX5_sees 26 = .ok (.aload_n 0, 1) := by decide +kernel
theorem dX5_sees_27 : decode cX5_sees 27 = .ok (.iconst 2, 1) := by decide +kernel
theorem dX5_sees_28 : decode cX5_sees 28 = .ok (.invokevirtual 67, 3) := by decide +kernel
theorem dX5_sees_31 : decode cX5_sees 31 = .ok (.ireturn, 1) := by decide +kernel
theorem dX5_sees_32 : decode cX5_sees 32 = .ok (.aload_n 0, 1) := by decide +kernel
theorem dX5_sees_33 : decode cX5_sees 33 = .ok (.aload_n 0, 1) := by decide +kernel
theorem dX5_sees_34 : decode cX5_sees 34 = .ok (.getfield 26, 3) := by decide +kernel
theorem dX5_sees_37 : decode cX5_sees 37 = .ok (.getfield 125, 3) := by decide +kernel
theorem dX5_sees_40 : decode cX5_sees 40 = .ok (.iload_n 1, 1) := by decide +kernel
theorem dX5_sees_41 : decode cX5_sees 41 = .ok (.iload_n 2, 1) := by decide +kernel
theorem dX5_sees_42 : decode cX5_sees 42 = .ok (.invokevirtual 202, 3) := by decide +kernel
theorem dX5_sees_45 : decode cX5_sees 45 = .ok (.putfield 86, 3) := by decide +kernel
theorem dX5_sees_48 : decode cX5_sees 48 = .ok (.aload_n 0, 1) := by decide +kernel
theorem dX5_sees_49 : decode cX5_sees 49 = .ok (.getfield 26, 3) := by decide +kernel
theorem dX5_sees_52 : decode cX5_sees 52 = .ok (.getfield 125, 3) := by decide +kernel
theorem dX5_sees_55 : decode cX5_sees 55 = .ok (.iload_n 1, 1) := by decide +kernel
theorem dX5_sees_56 : decode cX5_sees 56 = .ok (.iload_n 2, 1) := by decide +kernel
theorem dX5_sees_57 : decode cX5_sees 57 = .ok (.invokevirtual 205, 3) := by decide +kernel
theorem dX5_sees_60 : decode cX5_sees 60 = .ok (.ireturn, 1) := by decide +kernel
theorem dX5_owes_0 : decode cX5_owes 0 = .ok (.aload_n 0, 1) := by decide +kernel
theorem dX5_owes_1 : decode cX5_owes 1 = .ok (.getfield 26, 3) := by decide +kernel
theorem dX5_owes_4 : decode cX5_owes 4 = .ok (.getfield 125, 3) := by decide +kernel
theorem dX5_owes_7 : decode cX5_owes 7 = .ok (.iload_n 1, 1) := by decide +kernel
theorem dX5_owes_8 : decode cX5_owes 8 = .ok (.invokevirtual 208, 3) := by decide +kernel
theorem dX5_owes_11 : decode cX5_owes 11 = .ok (.ifCond .eq 22, 3) := by decide +kernel
theorem dX5_owes_14 : decode cX5_owes 14 = .ok (.aload_n 0, 1) := by decide +kernel
theorem dX5_owes_15 : decode cX5_owes 15 = .ok (.getfield 26, 3) := by decide +kernel
theorem dX5_owes_18 : decode cX5_owes 18 = .ok (.getfield 125, 3) := by decide +kernel
theorem dX5_owes_21 : decode cX5_owes 21 = .ok (.iload_n 2, 1) := by decide +kernel
theorem dX5_owes_22 : decode cX5_owes 22 = .ok (.invokevirtual 208, 3) := by decide +kernel
theorem dX5_owes_25 : decode cX5_owes 25 = .ok (.ifCond .eq 8, 3) := by decide +kernel
theorem dX5_owes_28 : decode cX5_owes 28 = .ok (.iload_n 1, 1) := by decide +kernel
theorem dX5_owes_29 : decode cX5_owes 29 = .ok (.iload_n 2, 1) := by decide +kernel
theorem dX5_owes_30 : decode cX5_owes 30 = .ok (.if_icmp .ne 5, 3) := by decide +kernel
theorem dX5_owes_33 : decode cX5_owes 33 = .ok (.iconst (-1), 1) := by decide +kernel
theorem dX5_owes_34 : decode cX5_owes 34 = .ok (.ireturn, 1) := by decide +kernel
theorem dX5_owes_35 : decode cX5_owes 35 = .ok (.aload_n 0, 1) := by decide +kernel
theorem dX5_owes_36 : decode cX5_owes 36 = .ok (.getfield 44, 3) := by decide +kernel
theorem dX5_owes_39 : decode cX5_owes 39 = .ok (.aload_n 0, 1) := by decide +kernel
theorem dX5_owes_40 : decode cX5_owes 40 = .ok (.getfield 26, 3) := by decide +kernel
theorem dX5_owes_43 : decode cX5_owes 43 = .ok (.getfield 125, 3) := by decide +kernel
theorem dX5_owes_46 : decode cX5_owes 46 = .ok (.invokevirtual 138, 3) := by decide +kernel
theorem dX5_owes_49 : decode cX5_owes 49 = .ok (.aload_n 0, 1) := by decide +kernel
theorem dX5_owes_50 : decode cX5_owes 50 = .ok (.getfield 44, 3) := by decide +kernel
theorem dX5_owes_53 : decode cX5_owes 53 = .ok (.iload_n 1, 1) := by decide +kernel
theorem dX5_owes_54 : decode cX5_owes 54 = .ok (.iload_n 2, 1) := by decide +kernel
theorem dX5_owes_55 : decode cX5_owes 55 = .ok (.invokevirtual 211, 3) := by decide +kernel
theorem dX5_owes_58 : decode cX5_owes 58 = .ok (.ireturn, 1) := by decide +kernel
theorem dX5_debt_0 : decode cX5_debt 0 = .ok (.aload_n 0, 1) := by decide +kernel
theorem dX5_debt_1 : decode cX5_debt 1 = .ok (.getfield 26, 3) := by decide +kernel
theorem dX5_debt_4 : decode cX5_debt 4 = .ok (.getfield 125, 3) := by decide +kernel
theorem dX5_debt_7 : decode cX5_debt 7 = .ok (.iload_n 1, 1) := by decide +kernel
theorem dX5_debt_8 : decode cX5_debt 8 = .ok (.invokevirtual 208, 3) := by decide +kernel
theorem dX5_debt_11 : decode cX5_debt 11 = .ok (.ifCond .ne 5, 3) := by decide +kernel
theorem dX5_debt_14 : decode cX5_debt 14 = .ok (.iconst (-1), 1) := by decide +kernel
theorem dX5_debt_15 : decode cX5_debt 15 = .ok (.ireturn, 1) := by decide +kernel
theorem dX5_debt_16 : decode cX5_debt 16 = .ok (.aload_n 0, 1) := by decide +kernel
theorem dX5_debt_17 : decode cX5_debt 17 = .ok (.getfield 44, 3) := by decide +kernel
theorem dX5_debt_20 : decode cX5_debt 20 = .ok (.aload_n 0, 1) := by decide +kernel
theorem dX5_debt_21 : decode cX5_debt 21 = .ok (.getfield 26, 3) := by decide +kernel
theorem dX5_debt_24 : decode cX5_debt 24 = .ok (.getfield 125, 3) := by decide +kernel
theorem dX5_debt_27 : decode cX5_debt 27 = .ok (.invokevirtual 138, 3) := by decide +kernel
theorem dX5_debt_30 : decode cX5_debt 30 = .ok (.aload_n 0, 1) := by decide +kernel
theorem dX5_debt_31 : decode cX5_debt 31 = .ok (.aload_n 0, 1) := by decide +kernel
theorem dX5_debt_32 : decode cX5_debt 32 = .ok (.getfield 44, 3) := by decide +kernel
theorem dX5_debt_35 : decode cX5_debt 35 = .ok (.iload_n 1, 1) := by decide +kernel
theorem dX5_debt_36 : decode cX5_debt 36 = .ok (.invokevirtual 214, 3) := by decide +kernel
theorem dX5_debt_39 : decode cX5_debt 39 = .ok (.putfield 86, 3) := by decide +kernel
theorem dX5_debt_42 : decode cX5_debt 42 = .ok (.iconst 1, 1) := by decide +kernel
theorem dX5_debt_43 : decode cX5_debt 43 = .ok (.ireturn, 1) := by decide +kernel
theorem dX5_light_0 : decode cX5_light 0 = .ok (.aload_n 0, 1) := by decide +kernel
theorem dX5_light_1 : decode cX5_light 1 = .ok (.getfield 44, 3) := by decide +kernel
theorem dX5_light_4 : decode cX5_light 4 = .ok (.aload_n 0, 1) := by decide +kernel
theorem dX5_light_5 : decode cX5_light 5 = .ok (.getfield 26, 3) := by decide +kernel
theorem dX5_light_8 : decode cX5_light 8 = .ok (.getfield 125, 3) := by decide +kernel
theorem dX5_light_11 : decode cX5_light 11 = .ok (.invokevirtual 138, 3) := by decide +kernel
theorem dX5_light_14 : decode cX5_light 14 = .ok (.aload_n 0, 1) := by decide +kernel
theorem dX5_light_15 : decode cX5_light 15 = .ok (.aload_n 0, 1) := by decide +kernel
theorem dX5_light_16 : decode cX5_light 16 = .ok (.getfield 44, 3) := by decide +kernel
theorem dX5_light_19 : decode cX5_light 19 = .ok (.getfield 217, 3) := by decide +kernel
theorem dX5_light_22 : decode cX5_light 22 = .ok (.putfield 86, 3) := by decide +kernel
theorem dX5_light_25 : decode cX5_light 25 = .ok (.aload_n 0, 1) := by decide +kernel
theorem dX5_light_26 : decode cX5_light 26 = .ok (.getfield 44, 3) := by decide +kernel
theorem dX5_light_29 : decode cX5_light 29 = .ok (.invokevirtual 220, 3) := by decide +kernel
theorem dX5_light_32 : decode cX5_light 32 = .ok (.ireturn, 1) := by decide +kernel
theorem dX5_ruined_0 : decode cX5_ruined 0 = .ok (.aload_n 0, 1) := by decide +kernel
theorem dX5_ruined_1 : decode cX5_ruined 1 = .ok (.getfield 44, 3) := by decide +kernel
theorem dX5_ruined_4 : decode cX5_ruined 4 = .ok (.aload_n 0, 1) := by decide +kernel
theorem dX5_ruined_5 : decode cX5_ruined 5 = .ok (.getfield 26, 3) := by decide +kernel
theorem dX5_ruined_8 : decode cX5_ruined 8 = .ok (.getfield 125, 3) := by decide +kernel
theorem dX5_ruined_11 : decode cX5_ruined 11 = .ok (.invokevirtual 138, 3) := by decide +kernel
theorem dX5_ruined_14 : decode cX5_ruined 14 = .ok (.bipush (-9), 2) := by decide +kernel
theorem dX5_ruined_16 : decode cX5_ruined 16 = .ok (.istore_n 1, 1) := by decide +kernel
theorem dX5_ruined_17 : decode cX5_ruined 17 = .ok (.iconst 0, 1) := by decide +kernel
theorem dX5_ruined_18 : decode cX5_ruined 18 = .ok (.istore_n 2, 1) := by decide +kernel
theorem dX5_ruined_19 : decode cX5_ruined 19 = .ok (.iload_n 2, 1) := by decide +kernel
theorem dX5_ruined_20 : decode cX5_ruined 20 = .ok (.aload_n 0, 1) := by decide +kernel
theorem dX5_ruined_21 : decode cX5_ruined 21 = .ok (.getfield 26, 3) := by decide +kernel
theorem dX5_ruined_24 : decode cX5_ruined 24 = .ok (.getfield 125, 3) := by decide +kernel
theorem dX5_ruined_27 : decode cX5_ruined 27 = .ok (.invokevirtual 223, 3) := by decide +kernel
theorem dX5_ruined_30 : decode cX5_ruined 30 = .ok (.if_icmp .ge 36, 3) := by decide +kernel
theorem dX5_ruined_33 : decode cX5_ruined 33 = .ok (.iload_n 1, 1) := by decide +kernel
theorem dX5_ruined_34 : decode cX5_ruined 34 = .ok (.bipush (-9), 2) := by decide +kernel
theorem dX5_ruined_36 : decode cX5_ruined 36 = .ok (.if_icmp .eq 22, 3) := by decide +kernel
theorem dX5_ruined_39 : decode cX5_ruined 39 = .ok (.aload_n 0, 1) := by decide +kernel
theorem dX5_ruined_40 : decode cX5_ruined 40 = .ok (.getfield 44, 3) := by decide +kernel
theorem dX5_ruined_43 : decode cX5_ruined 43 = .ok (.iload_n 2, 1) := by decide +kernel
theorem dX5_ruined_44 : decode cX5_ruined 44 = .ok (.invokevirtual 226, 3) := by decide +kernel
theorem dX5_ruined_47 : decode cX5_ruined 47 = .ok (.aload_n 0, 1) := by decide +kernel
theorem dX5_ruined_48 : decode cX5_ruined 48 = .ok (.getfield 44, 3) := by decide +kernel
theorem dX5_ruined_51 : decode cX5_ruined 51 = .ok (.iload_n 1, 1) := by decide +kernel
theorem dX5_ruined_52 : decode cX5_ruined 52 = .ok (.invokevirtual 226, 3) := by decide +kernel
theorem dX5_ruined_55 : decode cX5_ruined 55 = .ok (.if_icmp .le 5, 3) := by decide +kernel
theorem dX5_ruined_58 : decode cX5_ruined 58 = .ok (.iload_n 2, 1) := by decide +kernel
theorem dX5_ruined_59 : decode cX5_ruined 59 = .ok (.istore_n 1, 1) := by decide +kernel
theorem dX5_ruined_60 : decode cX5_ruined 60 = .ok (.iinc 2 1, 3) := by decide +kernel
theorem dX5_ruined_63 : decode cX5_ruined 63 = .ok (.goto (-44), 3) := by decide +kernel
theorem dX5_ruined_66 : decode cX5_ruined 66 = .ok (.iload_n 1, 1) := by decide +kernel
theorem dX5_ruined_67 : decode cX5_ruined 67 = .ok (.bipush (-9), 2) := by decide +kernel
theorem dX5_ruined_69 : decode cX5_ruined 69 = .ok (.if_icmp .eq 15, 3) := by decide +kernel
theorem dX5_ruined_72 : decode cX5_ruined 72 = .ok (.aload_n 0, 1) := by decide +kernel
theorem dX5_ruined_73 : decode cX5_ruined 73 = .ok (.aload_n 0, 1) := by decide +kernel
theorem dX5_ruined_74 : decode cX5_ruined 74 = .ok (.getfield 44, 3) := by decide +kernel
theorem dX5_ruined_77 : decode cX5_ruined 77 = .ok (.iload_n 1, 1) := by decide +kernel
theorem dX5_ruined_78 : decode cX5_ruined 78 = .ok (.invokevirtual 226, 3) := by decide +kernel
theorem dX5_ruined_81 : decode cX5_ruined 81 = .ok (.putfield 86, 3) := by decide +kernel
theorem dX5_ruined_84 : decode cX5_ruined 84 = .ok (.iload_n 1, 1) := by decide +kernel
theorem dX5_ruined_85 : decode cX5_ruined 85 = .ok (.ireturn, 1) := by decide +kernel
theorem dX5_sways_0 : decode cX5_sways 0 = .ok (.bipush (-9), 2) := by decide +kernel
theorem dX5_sways_2 : decode cX5_sways 2 = .ok (.istore_n 1, 1) := by decide +kernel
theorem dX5_sways_3 : decode cX5_sways 3 = .ok (.iconst 0, 1) := by decide +kernel
theorem dX5_sways_4 : decode cX5_sways 4 = .ok (.istore_n 2, 1) := by decide +kernel
theorem dX5_sways_5 : decode cX5_sways 5 = .ok (.aload_n 0, 1) := by decide +kernel
theorem dX5_sways_6 : decode cX5_sways 6 = .ok (.getfield 26, 3) := by decide +kernel
theorem dX5_sways_9 : decode cX5_sways 9 = .ok (.getfield 125, 3) := by decide +kernel
theorem dX5_sways_12 : decode cX5_sways 12 = .ok (.astore_n 3, 1) := by decide +kernel
theorem dX5_sways_13 : decode cX5_sways 13 = .ok (.iconst 0, 1) := by decide +kernel
theorem dX5_sways_14 : decode cX5_sways 14 = .ok (.istore 4, 2) := by decide +kernel
theorem dX5_sways_16 : decode cX5_sways 16 = .ok (.iload 4, 2) := by decide +kernel
theorem dX5_sways_18 : decode cX5_sways 18 = .ok (.aload_n 3, 1) := by decide +kernel
theorem dX5_sways_19 : decode cX5_sways 19 = .ok (.invokevirtual 121, 3) := by decide +kernel
theorem dX5_sways_22 : decode cX5_sways 22 = .ok (.if_icmp .ge 60, 3) := by decide +kernel
theorem dX5_sways_25 : decode cX5_sways 25 = .ok (.iconst 0, 1) := by decide +kernel
theorem dX5_sways_26 : decode cX5_sways 26 = .ok (.istore 5, 2) := by decide +kernel
theorem dX5_sways_28 : decode cX5_sways 28 = .ok (.iload 5, 2) := by decide +kernel
theorem dX5_sways_30 : decode cX5_sways 30 = .ok (.aload_n 3, 1) := by decide +kernel
theorem dX5_sways_31 : decode cX5_sways 31 = .ok (.iload 4, 2) := by decide +kernel
theorem dX5_sways_33 : decode cX5_sways 33 = .ok (.invokevirtual 131, 3) := by decide +kernel
theorem dX5_sways_36 : decode cX5_sways 36 = .ok (.if_icmp .ge 40, 3) := by decide +kernel
theorem dX5_sways_39 : decode cX5_sways 39 = .ok (.aload_n 3, 1) := by decide +kernel
theorem dX5_sways_40 : decode cX5_sways 40 = .ok (.iload 4, 2) := by decide +kernel
theorem dX5_sways_42 : decode cX5_sways 42 = .ok (.iload 5, 2) := by decide +kernel
theorem dX5_sways_44 : decode cX5_sways 44 = .ok (.invokevirtual 229, 3) := by decide +kernel
theorem dX5_sways_47 : decode cX5_sways 47 = .ok (.ifCond .eq 23, 3) := by decide +kernel
theorem dX5_sways_50 : decode cX5_sways 50 = .ok (.iload_n 2, 1) := by decide +kernel
theorem dX5_sways_51 : decode cX5_sways 51 = .ok (.ifCond .ne 14, 3) := by decide +kernel
theorem dX5_sways_54 : decode cX5_sways 54 = .ok (.aload_n 3, 1) := by decide +kernel
theorem dX5_sways_55 : decode cX5_sways 55 = .ok (.iload 4, 2) := by decide +kernel
theorem dX5_sways_57 : decode cX5_sways 57 = .ok (.iload 5, 2) := by decide +kernel
theorem dX5_sways_59 : decode cX5_sways 59 = .ok (.invokevirtual 232, 3) := by decide +kernel
theorem dX5_sways_62 : decode cX5_sways 62 = .ok (.goto 4, 3) := by decide +kernel
theorem dX5_sways_65 : decode cX5_sways 65 = .ok (.iload_n 1, 1) := by decide +kernel
theorem dX5_sways_66 : decode cX5_sways 66 = .ok (.istore_n 1, 1) := by decide +kernel
theorem dX5_sways_67 : decode cX5_sways 67 = .ok (.iinc 2 1, 3) := by decide +kernel
theorem dX5_sways_70 : decode cX5_sways 70 = .ok (.iinc 5 1, 3) := by decide +kernel
theorem dX5_sways_73 : decode cX5_sways 73 = .ok (.goto (-45), 3) := by decide +kernel
theorem dX5_sways_76 : decode cX5_sways 76 = .ok (.iinc 4 1, 3) := by decide +kernel
theorem dX5_sways_79 : decode cX5_sways 79 = .ok (.goto (-63), 3) := by decide +kernel
theorem dX5_sways_82 : decode cX5_sways 82 = .ok (.aload_n 0, 1) := by decide +kernel
theorem dX5_sways_83 : decode cX5_sways 83 = .ok (.iload_n 2, 1) := by decide +kernel
theorem dX5_sways_84 : decode cX5_sways 84 = .ok (.putfield 86, 3) := by decide +kernel
theorem dX5_sways_87 : decode cX5_sways 87 = .ok (.iload_n 1, 1) := by decide +kernel
theorem dX5_sways_88 : decode cX5_sways 88 = .ok (.ireturn, 1) := by decide +kernel
theorem dX5_best_0 : decode cX5_best 0 = .ok (.iload_n 1, 1) := by decide +kernel
theorem dX5_best_1 : decode cX5_best 1 = .ok (.invokestatic 145, 3) := by decide +kernel
theorem dX5_best_4 : decode cX5_best 4 = .ok (.ifCond .eq 10, 3) := by decide +kernel
theorem dX5_best_7 : decode cX5_best 7 = .ok (.iload_n 2, 1) := by decide +kernel
theorem dX5_best_8 : decode cX5_best 8 = .ok (.invokestatic 157, 3) := by decide +kernel
theorem dX5_best_11 : decode cX5_best 11 = .ok (.ifCond .ne 5, 3) := by decide +kernel
theorem dX5_best_14 : decode cX5_best 14 = .ok (.iconst (-1), 1) := by decide +kernel
theorem dX5_best_15 : decode cX5_best 15 = .ok (.ireturn, 1) := by decide +kernel
theorem dX5_best_16 : decode cX5_best 16 = .ok (.aload_n 0, 1) := by decide +kernel
theorem dX5_best_17 : decode cX5_best 17 = .ok (.getfield 26, 3) := by decide +kernel
theorem dX5_best_20 : decode cX5_best 20 = .ok (.getfield 125, 3) := by decide +kernel
theorem dX5_best_23 : decode cX5_best 23 = .ok (.invokevirtual 121, 3) := by decide +kernel
theorem dX5_best_26 : decode cX5_best 26 = .ok (.ifCond .ne 6, 3) := by decide +kernel
theorem dX5_best_29 : decode cX5_best 29 = .ok (.bipush (-4), 2) := by decide +kernel
theorem dX5_best_31 : decode cX5_best 31 = .ok (.ireturn, 1) := by decide +kernel
theorem dX5_best_32 : decode cX5_best 32 = .ok (.aload_n 0, 1) := by decide +kernel
theorem dX5_best_33 : decode cX5_best 33 = .ok (.getfield 37, 3) := by decide +kernel
theorem dX5_best_36 : decode cX5_best 36 = .ok (.aload_n 0, 1) := by decide +kernel
theorem dX5_best_37 : decode cX5_best 37 = .ok (.getfield 26, 3) := by decide +kernel
theorem dX5_best_40 : decode cX5_best 40 = .ok (.getfield 125, 3) := by decide +kernel
theorem dX5_best_43 : decode cX5_best 43 = .ok (.invokevirtual 235, 3) := by decide +kernel
theorem dX5_best_46 : decode cX5_best 46 = .ok (.bipush (-9), 2) := by decide +kernel
theorem dX5_best_48 : decode cX5_best 48 = .ok (.istore_n 3, 1) := by decide +kernel
theorem dX5_best_49 : decode cX5_best 49 = .ok (.iconst 0, 1) := by decide +kernel
theorem dX5_best_50 : decode cX5_best 50 = .ok (.istore 4, 2) := by decide +kernel
theorem dX5_best_52 : decode cX5_best 52 = .ok (.iconst 0, 1) := by decide +kernel
theorem dX5_best_53 : decode cX5_best 53 = .ok (.istore 5, 2) := by decide +kernel
theorem dX5_best_55 : decode cX5_best 55 = .ok (.iload 5, 2) := by decide +kernel
theorem dX5_best_57 : decode cX5_best 57 = .ok (.aload_n 0, 1) := by decide +kernel
theorem dX5_best_58 : decode cX5_best 58 = .ok (.getfield 37, 3) := by decide +kernel
theorem dX5_best_61 : decode cX5_best 61 = .ok (.invokevirtual 121, 3) := by decide +kernel
theorem dX5_best_64 : decode cX5_best 64 = .ok (.if_icmp .ge 69, 3) := by decide +kernel
theorem dX5_best_67 : decode cX5_best 67 = .ok (.aload_n 0, 1) := by decide +kernel
theorem dX5_best_68 : decode cX5_best 68 = .ok (.getfield 37, 3) := by decide +kernel
theorem dX5_best_71 : decode cX5_best 71 = .ok (.iload 5, 2) := by decide +kernel
theorem dX5_best_73 : decode cX5_best 73 = .ok (.iload_n 1, 1) := by decide +kernel
theorem dX5_best_74 : decode cX5_best 74 = .ok (.iload_n 2, 1) := by decide +kernel
theorem dX5_best_75 : decode cX5_best 75 = .ok (.invokevirtual 176, 3) := by decide +kernel
theorem dX5_best_78 : decode cX5_best 78 = .ok (.ifCond .eq 49, 3) := by decide +kernel
theorem dX5_best_81 : decode cX5_best 81 = .ok (.aload_n 0, 1) := by decide +kernel
theorem dX5_best_82 : decode cX5_best 82 = .ok (.aload_n 0, 1) := by decide +kernel
theorem dX5_best_83 : decode cX5_best 83 = .ok (.getfield 37, 3) := by decide +kernel
theorem dX5_best_86 : decode cX5_best 86 = .ok (.invokevirtual 237, 3) := by decide +kernel
theorem dX5_best_89 : decode cX5_best 89 = .ok (.istore 6, 2) := by decide +kernel
theorem dX5_best_91 : decode cX5_best 91 = .ok (.iload 6, 2) := by decide +kernel
theorem dX5_best_93 : decode cX5_best 93 = .ok (.bipush (-9), 2) := by decide +kernel
theorem dX5_best_95 : decode cX5_best 95 = .ok (.if_icmp .eq 23, 3) := by decide +kernel
theorem dX5_best_98 : decode cX5_best 98 = .ok (.iload_n 3, 1) := by decide +kernel
theorem dX5_best_99 : decode cX5_best 99 = .ok (.bipush (-9), 2) := by decide +kernel
theorem dX5_best_101 : decode cX5_best 101 = .ok (.if_icmp .eq 10, 3) := by decide +kernel
theorem dX5_best_104 : decode cX5_best 104 = .ok (.iload 6, 2) := by decide +kernel
theorem dX5_best_106 : decode cX5_best 106 = .ok (.iload 4, 2) := by decide +kernel
theorem dX5_best_108 : decode cX5_best 108 = .ok (.if_icmp .ge 10, 3) := by decide +kernel
theorem dX5_best_111 : decode cX5_best 111 = .ok (.iload 5, 2) := by decide +kernel
theorem dX5_best_113 : decode cX5_best 113 = .ok (.istore_n 3, 1) := by decide +kernel
theorem dX5_best_114 : decode cX5_best 114 = .ok (.iload 6, 2) := by decide +kernel
theorem dX5_best_116 : decode cX5_best 116 = .ok (.istore 4, 2) := by decide +kernel
theorem dX5_best_118 : decode cX5_best 118 = .ok (.aload_n 0, 1) := by decide +kernel
theorem dX5_best_119 : decode cX5_best 119 = .ok (.getfield 37, 3) := by decide +kernel
theorem dX5_best_122 : decode cX5_best 122 = .ok (.iload 5, 2) := by decide +kernel
theorem dX5_best_124 : decode cX5_best 124 = .ok (.invokevirtual 241, 3) := by decide +kernel
theorem dX5_best_127 : decode cX5_best 127 = .ok (.iinc 5 1, 3) := by decide +kernel
theorem dX5_best_130 : decode cX5_best 130 = .ok (.goto (-75), 3) := by decide +kernel
theorem dX5_best_133 : decode cX5_best 133 = .ok (.iload_n 3, 1) := by decide +kernel
theorem dX5_best_134 : decode cX5_best 134 = .ok (.bipush (-9), 2) := by decide +kernel
theorem dX5_best_136 : decode cX5_best 136 = .ok (.if_icmp .eq 9, 3) := by decide +kernel
theorem dX5_best_139 : decode cX5_best 139 = .ok (.aload_n 0, 1) := by decide +kernel
theorem dX5_best_140 : decode cX5_best 140 = .ok (.iload 4, 2) := by decide +kernel
theorem dX5_best_142 : decode cX5_best 142 = .ok (.putfield 86, 3) := by decide +kernel
theorem dX5_best_145 : decode cX5_best 145 = .ok (.iload_n 3, 1) := by decide +kernel
theorem dX5_best_146 : decode cX5_best 146 = .ok (.ireturn, 1) := by decide +kernel
theorem dX5_both_0 : decode cX5_both 0 = .ok (.iload_n 1, 1) := by decide +kernel
theorem dX5_both_1 : decode cX5_both 1 = .ok (.invokestatic 145, 3) := by decide +kernel
theorem dX5_both_4 : decode cX5_both 4 = .ok (.ifCond .eq 17, 3) := by decide +kernel
theorem dX5_both_7 : decode cX5_both 7 = .ok (.iload_n 2, 1) := by decide +kernel
theorem dX5_both_8 : decode cX5_both 8 = .ok (.invokestatic 145, 3) := by decide +kernel
theorem dX5_both_11 : decode cX5_both 11 = .ok (.ifCond .eq 10, 3) := by decide +kernel
theorem dX5_both_14 : decode cX5_both 14 = .ok (.iload_n 3, 1) := by decide +kernel
theorem dX5_both_15 : decode cX5_both 15 = .ok (.invokestatic 157, 3) := by decide +kernel
theorem dX5_both_18 : decode cX5_both 18 = .ok (.ifCond .ne 5, 3) := by decide +kernel
theorem dX5_both_21 : decode cX5_both 21 = .ok (.iconst (-1), 1) := by decide +kernel
theorem dX5_both_22 : decode cX5_both 22 = .ok (.ireturn, 1) := by decide +kernel
theorem dX5_both_23 : decode cX5_both 23 = .ok (.aload_n 0, 1) := by decide +kernel
theorem dX5_both_24 : decode cX5_both 24 = .ok (.getfield 26, 3) := by decide +kernel
theorem dX5_both_27 : decode cX5_both 27 = .ok (.getfield 125, 3) := by decide +kernel
theorem dX5_both_30 : decode cX5_both 30 = .ok (.invokevirtual 121, 3) := by decide +kernel
theorem dX5_both_33 : decode cX5_both 33 = .ok (.istore 4, 2) := by decide +kernel
theorem dX5_both_35 : decode cX5_both 35 = .ok (.iload 4, 2) := by decide +kernel
theorem dX5_both_37 : decode cX5_both 37 = .ok (.ifCond .ne 6, 3) := by decide +kernel
theorem dX5_both_40 : decode cX5_both 40 = .ok (.bipush (-4), 2) := by decide +kernel
theorem dX5_both_42 : decode cX5_both 42 = .ok (.ireturn, 1) := by decide +kernel
theorem dX5_both_43 : decode cX5_both 43 = .ok (.aload_n 0, 1) := by decide +kernel
theorem dX5_both_44 : decode cX5_both 44 = .ok (.getfield 37, 3) := by decide +kernel
theorem dX5_both_47 : decode cX5_both 47 = .ok (.aload_n 0, 1) := by decide +kernel
theorem dX5_both_48 : decode cX5_both 48 = .ok (.getfield 26, 3) := by decide +kernel
theorem dX5_both_51 : decode cX5_both 51 = .ok (.getfield 125, 3) := by decide +kernel
theorem dX5_both_54 : decode cX5_both 54 = .ok (.invokevirtual 235, 3) := by decide +kernel
theorem dX5_both_57 : decode cX5_both 57 = .ok (.bipush (-9), 2) := by decide +kernel
theorem dX5_both_59 : decode cX5_both 59 = .ok (.istore 5, 2) := by decide +kernel
theorem dX5_both_61 : decode cX5_both 61 = .ok (.iconst 0, 1) := by decide +kernel
theorem dX5_both_62 : decode cX5_both 62 = .ok (.istore 6, 2) := by decide +kernel
theorem dX5_both_64 : decode cX5_both 64 = .ok (.iconst 0, 1) := by decide +kernel
theorem dX5_both_65 : decode cX5_both 65 = .ok (.istore 7, 2) := by decide +kernel
theorem dX5_both_67 : decode cX5_both 67 = .ok (.iload 7, 2) := by decide +kernel
theorem dX5_both_69 : decode cX5_both 69 = .ok (.iload 4, 2) := by decide +kernel
theorem dX5_both_71 : decode cX5_both 71 = .ok (.if_icmp .ge 119, 3) := by decide +kernel
theorem dX5_both_74 : decode cX5_both 74 = .ok (.aload_n 0, 1) := by decide +kernel
theorem dX5_both_75 : decode cX5_both 75 = .ok (.getfield 37, 3) := by decide +kernel
theorem dX5_both_78 : decode cX5_both 78 = .ok (.iload 7, 2) := by decide +kernel
theorem dX5_both_80 : decode cX5_both 80 = .ok (.iload_n 1, 1) := by decide +kernel
theorem dX5_both_81 : decode cX5_both 81 = .ok (.iload_n 3, 1) := by decide +kernel
theorem dX5_both_82 : decode cX5_both 82 = .ok (.invokevirtual 176, 3) := by decide +kernel
theorem dX5_both_85 : decode cX5_both 85 = .ok (.ifCond .ne 6, 3) := by decide +kernel
theorem dX5_both_88 : decode cX5_both 88 = .ok (.goto 96, 3) := by decide +kernel
theorem dX5_both_91 : decode cX5_both 91 = .ok (.iconst 0, 1) := by decide +kernel
theorem dX5_both_92 : decode cX5_both 92 = .ok (.istore 8, 2) := by decide +kernel
theorem dX5_both_94 : decode cX5_both 94 = .ok (.iload 8, 2) := by decide +kernel
theorem dX5_both_96 : decode cX5_both 96 = .ok (.iload 4, 2) := by decide +kernel
theorem dX5_both_98 : decode cX5_both 98 = .ok (.if_icmp .ge 77, 3) := by decide +kernel
theorem dX5_both_101 : decode cX5_both 101 = .ok (.aload_n 0, 1) := by decide +kernel
theorem dX5_both_102 : decode cX5_both 102 = .ok (.getfield 37, 3) := by decide +kernel
theorem dX5_both_105 : decode cX5_both 105 = .ok (.iload 8, 2) := by decide +kernel
theorem dX5_both_107 : decode cX5_both 107 = .ok (.iload_n 2, 1) := by decide +kernel
theorem dX5_both_108 : decode cX5_both 108 = .ok (.iload_n 3, 1) := by decide +kernel
theorem dX5_both_109 : decode cX5_both 109 = .ok (.invokevirtual 176, 3) := by decide +kernel
theorem dX5_both_112 : decode cX5_both 112 = .ok (.ifCond .eq 57, 3) := by decide +kernel
theorem dX5_both_115 : decode cX5_both 115 = .ok (.aload_n 0, 1) := by decide +kernel
theorem dX5_both_116 : decode cX5_both 116 = .ok (.aload_n 0, 1) := by decide +kernel
theorem dX5_both_117 : decode cX5_both 117 = .ok (.getfield 37, 3) := by decide +kernel
theorem dX5_both_120 : decode cX5_both 120 = .ok (.invokevirtual 237, 3) := by decide +kernel
theorem dX5_both_123 : decode cX5_both 123 = .ok (.istore 9, 2) := by decide +kernel
theorem dX5_both_125 : decode cX5_both 125 = .ok (.iload 9, 2) := by decide +kernel
theorem dX5_both_127 : decode cX5_both 127 = .ok (.bipush (-9), 2) := by decide +kernel
theorem dX5_both_129 : decode cX5_both 129 = .ok (.if_icmp .eq 31, 3) := by decide +kernel
theorem dX5_both_132 : decode cX5_both 132 = .ok (.iload 5, 2) := by decide +kernel
theorem dX5_both_134 : decode cX5_both 134 = .ok (.bipush (-9), 2) := by decide +kernel
theorem dX5_both_136 : decode cX5_both 136 = .ok (.if_icmp .eq 10, 3) := by decide +kernel
theorem dX5_both_139 : decode cX5_both 139 = .ok (.iload 9, 2) := by decide +kernel
theorem dX5_both_141 : decode cX5_both 141 = .ok (.iload 6, 2) := by decide +kernel
theorem dX5_both_143 : decode cX5_both 143 = .ok (.if_icmp .ge 17, 3) := by decide +kernel
theorem dX5_both_146 : decode cX5_both 146 = .ok (.bipush 10, 2) := by decide +kernel
theorem dX5_both_148 : decode cX5_both 148 = .ok (.iload 7, 2) := by decide +kernel
theorem dX5_both_150 : decode cX5_both 150 = .ok (.imul, 1) := by decide +kernel
theorem dX5_both_151 : decode cX5_both 151 = .ok (.iload 8, 2) := by decide +kernel
theorem dX5_both_153 : decode cX5_both 153 = .ok (.iadd, 1) := by decide +kernel
theorem dX5_both_154 : decode cX5_both 154 = .ok (.istore 5, 2) := by decide +kernel
theorem dX5_both_156 : decode cX5_both 156 = .ok (.iload 9, 2) := by decide +kernel
theorem dX5_both_158 : decode cX5_both 158 = .ok (.istore 6, 2) := by decide +kernel
theorem dX5_both_160 : decode cX5_both 160 = .ok (.aload_n 0, 1) := by decide +kernel
theorem dX5_both_161 : decode cX5_both 161 = .ok (.getfield 37, 3) := by decide +kernel
theorem dX5_both_164 : decode cX5_both 164 = .ok (.iload 8, 2) := by decide +kernel
theorem dX5_both_166 : decode cX5_both 166 = .ok (.invokevirtual 241, 3) := by decide +kernel
theorem dX5_both_169 : decode cX5_both 169 = .ok (.iinc 8 1, 3) := by decide +kernel
theorem dX5_both_172 : decode cX5_both 172 = .ok (.goto (-78), 3) := by decide +kernel
theorem dX5_both_175 : decode cX5_both 175 = .ok (.aload_n 0, 1) := by decide +kernel
theorem dX5_both_176 : decode cX5_both 176 = .ok (.getfield 37, 3) := by decide +kernel
theorem dX5_both_179 : decode cX5_both 179 = .ok (.iload 7, 2) := by decide +kernel
theorem dX5_both_181 : decode cX5_both 181 = .ok (.invokevirtual 241, 3) := by decide +kernel
theorem dX5_both_184 : decode cX5_both 184 = .ok (.iinc 7 1, 3) := by decide +kernel
theorem dX5_both_187 : decode cX5_both 187 = .ok (.goto (-120), 3) := by decide +kernel
theorem dX5_both_190 : decode cX5_both 190 = .ok (.iload 5, 2) := by decide +kernel
theorem dX5_both_192 : decode cX5_both 192 = .ok (.bipush (-9), 2) := by decide +kernel
theorem dX5_both_194 : decode cX5_both 194 = .ok (.if_icmp .eq 9, 3) := by decide +kernel
theorem dX5_both_197 : decode cX5_both 197 = .ok (.aload_n 0, 1) := by decide +kernel
theorem dX5_both_198 : decode cX5_both 198 = .ok (.iload 6, 2) := by decide +kernel
theorem dX5_both_200 : decode cX5_both 200 = .ok (.putfield 86, 3) := by decide +kernel
theorem dX5_both_203 : decode cX5_both 203 = .ok (.iload 5, 2) := by decide +kernel
theorem dX5_both_205 : decode cX5_both 205 = .ok (.ireturn, 1) := by decide +kernel
theorem dX5_fewest_0 : decode cX5_fewest 0 = .ok (.iconst 4, 1) := by decide +kernel
theorem dX5_fewest_1 : decode cX5_fewest 1 = .ok (.istore_n 1, 1) := by decide +kernel
theorem dX5_fewest_2 : decode cX5_fewest 2 = .ok (.iconst 0, 1) := by decide +kernel
theorem dX5_fewest_3 : decode cX5_fewest 3 = .ok (.istore_n 2, 1) := by decide +kernel
theorem dX5_fewest_4 : decode cX5_fewest 4 = .ok (.iconst 1, 1) := by decide +kernel
theorem dX5_fewest_5 : decode cX5_fewest 5 = .ok (.aload_n 0, 1) := by decide +kernel
theorem dX5_fewest_6 : decode cX5_fewest 6 = .ok (.getfield 26, 3) := by decide +kernel
theorem dX5_fewest_9 : decode cX5_fewest 9 = .ok (.getfield 125, 3) := by decide +kernel
theorem dX5_fewest_12 : decode cX5_fewest 12 = .ok (.invokevirtual 223, 3) := by decide +kernel
theorem dX5_fewest_15 : decode cX5_fewest 15 = .ok (.ishl, 1) := by decide +kernel
theorem dX5_fewest_16 : decode cX5_fewest 16 = .ok (.istore_n 3, 1) := by decide +kernel
theorem dX5_fewest_17 : decode cX5_fewest 17 = .ok (.iconst 0, 1) := by decide +kernel
theorem dX5_fewest_18 : decode cX5_fewest 18 = .ok (.istore 4, 2) := by decide +kernel
theorem dX5_fewest_20 : decode cX5_fewest 20 = .ok (.iload 4, 2) := by decide +kernel
theorem dX5_fewest_22 : decode cX5_fewest 22 = .ok (.iload_n 3, 1) := by decide +kernel
theorem dX5_fewest_23 : decode cX5_fewest 23 = .ok (.if_icmp .ge 58, 3) := by decide +kernel
theorem dX5_fewest_26 : decode cX5_fewest 26 = .ok (.iload_n 1, 1) := by decide +kernel
theorem dX5_fewest_27 : decode cX5_fewest 27 = .ok (.ifCond .le 54, 3) := by decide +kernel
theorem dX5_fewest_30 : decode cX5_fewest 30 = .ok (.iload 4, 2) := by decide +kernel
theorem dX5_fewest_32 : decode cX5_fewest 32 = .ok (.invokestatic 244, 3) := by decide +kernel
theorem dX5_fewest_35 : decode cX5_fewest 35 = .ok (.istore 5, 2) := by decide +kernel
theorem dX5_fewest_37 : decode cX5_fewest 37 = .ok (.iload 5, 2) := by decide +kernel
theorem dX5_fewest_39 : decode cX5_fewest 39 = .ok (.iload_n 1, 1) := by decide +kernel
theorem dX5_fewest_40 : decode cX5_fewest 40 = .ok (.if_icmp .ge 35, 3) := by decide +kernel
theorem dX5_fewest_43 : decode cX5_fewest 43 = .ok (.aload_n 0, 1) := by decide +kernel
theorem dX5_fewest_44 : decode cX5_fewest 44 = .ok (.getfield 37, 3) := by decide +kernel
theorem dX5_fewest_47 : decode cX5_fewest 47 = .ok (.aload_n 0, 1) := by decide +kernel
theorem dX5_fewest_48 : decode cX5_fewest 48 = .ok (.getfield 26, 3) := by decide +kernel
theorem dX5_fewest_51 : decode cX5_fewest 51 = .ok (.getfield 125, 3) := by decide +kernel
theorem dX5_fewest_54 : decode cX5_fewest 54 = .ok (.iload 4, 2) := by decide +kernel
theorem dX5_fewest_56 : decode cX5_fewest 56 = .ok (.invokevirtual 249, 3) := by decide +kernel
theorem dX5_fewest_59 : decode cX5_fewest 59 = .ok (.aload_n 0, 1) := by decide +kernel
theorem dX5_fewest_60 : decode cX5_fewest 60 = .ok (.getfield 37, 3) := by decide +kernel
theorem dX5_fewest_63 : decode cX5_fewest 63 = .ok (.invokevirtual 253, 3) := by decide +kernel
theorem dX5_fewest_66 : decode cX5_fewest 66 = .ok (.ifCond .eq 9, 3) := by decide +kernel
theorem dX5_fewest_69 : decode cX5_fewest 69 = .ok (.iload 5, 2) := by decide +kernel
theorem dX5_fewest_71 : decode cX5_fewest 71 = .ok (.istore_n 1, 1) := by decide +kernel
theorem dX5_fewest_72 : decode cX5_fewest 72 = .ok (.iload 4, 2) := by decide +kernel
theorem dX5_fewest_74 : decode cX5_fewest 74 = .ok (.istore_n 2, 1) := by decide +kernel
theorem dX5_fewest_75 : decode cX5_fewest 75 = .ok (.iinc 4 1, 3) := by decide +kernel
theorem dX5_fewest_78 : decode cX5_fewest 78 = .ok (.goto (-58), 3) := by decide +kernel
theorem dX5_fewest_81 : decode cX5_fewest 81 = .ok (.iload_n 1, 1) := by decide +kernel
theorem dX5_fewest_82 : decode cX5_fewest 82 = .ok (.iconst 3, 1) := by decide +kernel
theorem dX5_fewest_83 : decode cX5_fewest 83 = .ok (.if_icmp .le 6, 3) := by decide +kernel
theorem dX5_fewest_86 : decode cX5_fewest 86 = .ok (.bipush (-9), 2) := by decide +kernel
theorem dX5_fewest_88 : decode cX5_fewest 88 = .ok (.ireturn, 1) := by decide +kernel
theorem dX5_fewest_89 : decode cX5_fewest 89 = .ok (.aload_n 0, 1) := by decide +kernel
theorem dX5_fewest_90 : decode cX5_fewest 90 = .ok (.iload_n 2, 1) := by decide +kernel
theorem dX5_fewest_91 : decode cX5_fewest 91 = .ok (.putfield 86, 3) := by decide +kernel
theorem dX5_fewest_94 : decode cX5_fewest 94 = .ok (.iload_n 1, 1) := by decide +kernel
theorem dX5_fewest_95 : decode cX5_fewest 95 = .ok (.ireturn, 1) := by decide +kernel
theorem dX5_relief_0 : decode cX5_relief 0 = .ok (.aload_n 0, 1) := by decide +kernel
theorem dX5_relief_1 : decode cX5_relief 1 = .ok (.getfield 44, 3) := by decide +kernel
theorem dX5_relief_4 : decode cX5_relief 4 = .ok (.aload_n 0, 1) := by decide +kernel
theorem dX5_relief_5 : decode cX5_relief 5 = .ok (.getfield 26, 3) := by decide +kernel
theorem dX5_relief_8 : decode cX5_relief 8 = .ok (.getfield 125, 3) := by decide +kernel
theorem dX5_relief_11 : decode cX5_relief 11 = .ok (.invokevirtual 138, 3) := by decide +kernel
theorem dX5_relief_14 : decode cX5_relief 14 = .ok (.aload_n 0, 1) := by decide +kernel
theorem dX5_relief_15 : decode cX5_relief 15 = .ok (.getfield 44, 3) := by decide +kernel
theorem dX5_relief_18 : decode cX5_relief 18 = .ok (.invokevirtual 220, 3) := by decide +kernel
theorem dX5_relief_21 : decode cX5_relief 21 = .ok (.istore_n 1, 1) := by decide +kernel
theorem dX5_relief_22 : decode cX5_relief 22 = .ok (.bipush (-9), 2) := by decide +kernel
theorem dX5_relief_24 : decode cX5_relief 24 = .ok (.istore_n 2, 1) := by decide +kernel
theorem dX5_relief_25 : decode cX5_relief 25 = .ok (.iconst 0, 1) := by decide +kernel
theorem dX5_relief_26 : decode cX5_relief 26 = .ok (.istore_n 3, 1) := by decide +kernel
theorem dX5_relief_27 : decode cX5_relief 27 = .ok (.iconst 0, 1) := by decide +kernel
theorem dX5_relief_28 : decode cX5_relief 28 = .ok (.istore 4, 2) := by decide +kernel
theorem dX5_relief_30 : decode cX5_relief 30 = .ok (.iload 4, 2) := by decide +kernel
theorem dX5_relief_32 : decode cX5_relief 32 = .ok (.aload_n 0, 1) := by decide +kernel
theorem dX5_relief_33 : decode cX5_relief 33 = .ok (.getfield 26, 3) := by decide +kernel
theorem dX5_relief_36 : decode cX5_relief 36 = .ok (.getfield 125, 3) := by decide +kernel
theorem dX5_relief_39 : decode cX5_relief 39 = .ok (.invokevirtual 223, 3) := by decide +kernel
theorem dX5_relief_42 : decode cX5_relief 42 = .ok (.if_icmp .ge 95, 3) := by decide +kernel
theorem dX5_relief_45 : decode cX5_relief 45 = .ok (.aload_n 0, 1) := by decide +kernel
theorem dX5_relief_46 : decode cX5_relief 46 = .ok (.getfield 44, 3) := by decide +kernel
theorem dX5_relief_49 : decode cX5_relief 49 = .ok (.aload_n 0, 1) := by decide +kernel
theorem dX5_relief_50 : decode cX5_relief 50 = .ok (.getfield 26, 3) := by decide +kernel
theorem dX5_relief_53 : decode cX5_relief 53 = .ok (.getfield 125, 3) := by decide +kernel
theorem dX5_relief_56 : decode cX5_relief 56 = .ok (.invokevirtual 138, 3) := by decide +kernel
theorem dX5_relief_59 : decode cX5_relief 59 = .ok (.iload_n 1, 1) := by decide +kernel
theorem dX5_relief_60 : decode cX5_relief 60 = .ok (.aload_n 0, 1) := by decide +kernel
theorem dX5_relief_61 : decode cX5_relief 61 = .ok (.getfield 44, 3) := by decide +kernel
theorem dX5_relief_64 : decode cX5_relief 64 = .ok (.iload 4, 2) := by decide +kernel
theorem dX5_relief_66 : decode cX5_relief 66 = .ok (.invokevirtual 256, 3) := by decide +kernel
theorem dX5_relief_69 : decode cX5_relief 69 = .ok (.isub, 1) := by decide +kernel
theorem dX5_relief_70 : decode cX5_relief 70 = .ok (.istore 5, 2) := by decide +kernel
theorem dX5_relief_72 : decode cX5_relief 72 = .ok (.aload_n 0, 1) := by decide +kernel
theorem dX5_relief_73 : decode cX5_relief 73 = .ok (.getfield 37, 3) := by decide +kernel
theorem dX5_relief_76 : decode cX5_relief 76 = .ok (.aload_n 0, 1) := by decide +kernel
theorem dX5_relief_77 : decode cX5_relief 77 = .ok (.getfield 26, 3) := by decide +kernel
theorem dX5_relief_80 : decode cX5_relief 80 = .ok (.getfield 125, 3) := by decide +kernel
theorem dX5_relief_83 : decode cX5_relief 83 = .ok (.iconst 1, 1) := by decide +kernel
theorem dX5_relief_84 : decode cX5_relief 84 = .ok (.iload 4, 2) := by decide +kernel
theorem dX5_relief_86 : decode cX5_relief 86 = .ok (.ishl, 1) := by decide +kernel
theorem dX5_relief_87 : decode cX5_relief 87 = .ok (.invokevirtual 249, 3) := by decide +kernel
theorem dX5_relief_90 : decode cX5_relief 90 = .ok (.aload_n 0, 1) := by decide +kernel
theorem dX5_relief_91 : decode cX5_relief 91 = .ok (.getfield 44, 3) := by decide +kernel
theorem dX5_relief_94 : decode cX5_relief 94 = .ok (.aload_n 0, 1) := by decide +kernel
theorem dX5_relief_95 : decode cX5_relief 95 = .ok (.getfield 37, 3) := by decide +kernel
theorem dX5_relief_98 : decode cX5_relief 98 = .ok (.invokevirtual 138, 3) := by decide +kernel
theorem dX5_relief_101 : decode cX5_relief 101 = .ok (.aload_n 0, 1) := by decide +kernel
theorem dX5_relief_102 : decode cX5_relief 102 = .ok (.getfield 44, 3) := by decide +kernel
theorem dX5_relief_105 : decode cX5_relief 105 = .ok (.invokevirtual 220, 3) := by decide +kernel
theorem dX5_relief_108 : decode cX5_relief 108 = .ok (.iload 5, 2) := by decide +kernel
theorem dX5_relief_110 : decode cX5_relief 110 = .ok (.isub, 1) := by decide +kernel
theorem dX5_relief_111 : decode cX5_relief 111 = .ok (.istore 6, 2) := by decide +kernel
theorem dX5_relief_113 : decode cX5_relief 113 = .ok (.iload_n 2, 1) := by decide +kernel
theorem dX5_relief_114 : decode cX5_relief 114 = .ok (.bipush (-9), 2) := by decide +kernel
theorem dX5_relief_116 : decode cX5_relief 116 = .ok (.if_icmp .eq 9, 3) := by decide +kernel
theorem dX5_relief_119 : decode cX5_relief 119 = .ok (.iload 6, 2) := by decide +kernel
theorem dX5_relief_121 : decode cX5_relief 121 = .ok (.iload_n 3, 1) := by decide +kernel
theorem dX5_relief_122 : decode cX5_relief 122 = .ok (.if_icmp .le 9, 3) := by decide +kernel
theorem dX5_relief_125 : decode cX5_relief 125 = .ok (.iload 4, 2) := by decide +kernel
theorem dX5_relief_127 : decode cX5_relief 127 = .ok (.istore_n 2, 1) := by decide +kernel
theorem dX5_relief_128 : decode cX5_relief 128 = .ok (.iload 6, 2) := by decide +kernel
theorem dX5_relief_130 : decode cX5_relief 130 = .ok (.istore_n 3, 1) := by decide +kernel
theorem dX5_relief_131 : decode cX5_relief 131 = .ok (.iinc 4 1, 3) := by decide +kernel
theorem dX5_relief_134 : decode cX5_relief 134 = .ok (.goto (-104), 3) := by decide +kernel
theorem dX5_relief_137 : decode cX5_relief 137 = .ok (.iload_n 2, 1) := by decide +kernel
theorem dX5_relief_138 : decode cX5_relief 138 = .ok (.bipush (-9), 2) := by decide +kernel
theorem dX5_relief_140 : decode cX5_relief 140 = .ok (.if_icmp .eq 8, 3) := by decide +kernel
theorem dX5_relief_143 : decode cX5_relief 143 = .ok (.aload_n 0, 1) := by decide +kernel
theorem dX5_relief_144 : decode cX5_relief 144 = .ok (.iload_n 3, 1) := by decide +kernel
theorem dX5_relief_145 : decode cX5_relief 145 = .ok (.putfield 86, 3) := by decide +kernel
theorem dX5_relief_148 : decode cX5_relief 148 = .ok (.iload_n 2, 1) := by decide +kernel
theorem dX5_relief_149 : decode cX5_relief 149 = .ok (.ireturn, 1) := by decide +kernel
theorem dX5_high_0 : decode cX5_high 0 = .ok (.aload_n 0, 1) := by decide +kernel
theorem dX5_high_1 : decode cX5_high 1 = .ok (.getfield 26, 3) := by decide +kernel
theorem dX5_high_4 : decode cX5_high 4 = .ok (.getfield 125, 3) := by decide +kernel
theorem dX5_high_7 : decode cX5_high 7 = .ok (.iload_n 1, 1) := by decide +kernel
theorem dX5_high_8 : decode cX5_high 8 = .ok (.invokevirtual 128, 3) := by decide +kernel
theorem dX5_high_11 : decode cX5_high 11 = .ok (.ifCond .eq 10, 3) := by decide +kernel
theorem dX5_high_14 : decode cX5_high 14 = .ok (.iload_n 2, 1) := by decide +kernel
theorem dX5_high_15 : decode cX5_high 15 = .ok (.invokestatic 157, 3) := by decide +kernel
theorem dX5_high_18 : decode cX5_high 18 = .ok (.ifCond .ne 5, 3) := by decide +kernel
theorem dX5_high_21 : decode cX5_high 21 = .ok (.iconst (-1), 1) := by decide +kernel
theorem dX5_high_22 : decode cX5_high 22 = .ok (.ireturn, 1) := by decide +kernel
theorem dX5_high_23 : decode cX5_high 23 = .ok (.aload_n 0, 1) := by decide +kernel
theorem dX5_high_24 : decode cX5_high 24 = .ok (.getfield 37, 3) := by decide +kernel
theorem dX5_high_27 : decode cX5_high 27 = .ok (.aload_n 0, 1) := by decide +kernel
theorem dX5_high_28 : decode cX5_high 28 = .ok (.getfield 26, 3) := by decide +kernel
theorem dX5_high_31 : decode cX5_high 31 = .ok (.getfield 125, 3) := by decide +kernel
theorem dX5_high_34 : decode cX5_high 34 = .ok (.invokevirtual 235, 3) := by decide +kernel
theorem dX5_high_37 : decode cX5_high 37 = .ok (.iconst 0, 1) := by decide +kernel
theorem dX5_high_38 : decode cX5_high 38 = .ok (.istore_n 3, 1) := by decide +kernel
theorem dX5_high_39 : decode cX5_high 39 = .ok (.iload_n 3, 1) := by decide +kernel
theorem dX5_high_40 : decode cX5_high 40 = .ok (.bipush 6, 2) := by decide +kernel
theorem dX5_high_42 : decode cX5_high 42 = .ok (.if_icmp .ge 32, 3) := by decide +kernel
theorem dX5_high_45 : decode cX5_high 45 = .ok (.aload_n 0, 1) := by decide +kernel
theorem dX5_high_46 : decode cX5_high 46 = .ok (.getfield 37, 3) := by decide +kernel
theorem dX5_high_49 : decode cX5_high 49 = .ok (.iload_n 1, 1) := by decide +kernel
theorem dX5_high_50 : decode cX5_high 50 = .ok (.iconst 0, 1) := by decide +kernel
theorem dX5_high_51 : decode cX5_high 51 = .ok (.iload_n 2, 1) := by decide +kernel
theorem dX5_high_52 : decode cX5_high 52 = .ok (.invokevirtual 176, 3) := by decide +kernel
theorem dX5_high_55 : decode cX5_high 55 = .ok (.ifCond .eq 19, 3) := by decide +kernel
theorem dX5_high_58 : decode cX5_high 58 = .ok (.aload_n 0, 1) := by decide +kernel
theorem dX5_high_59 : decode cX5_high 59 = .ok (.getfield 37, 3) := by decide +kernel
theorem dX5_high_62 : decode cX5_high 62 = .ok (.invokevirtual 253, 3) := by decide +kernel
theorem dX5_high_65 : decode cX5_high 65 = .ok (.ifCond .eq 9, 3) := by decide +kernel
theorem dX5_high_68 : decode cX5_high 68 = .ok (.iinc 3 1, 3) := by decide +kernel
theorem dX5_high_71 : decode cX5_high 71 = .ok (.goto (-32), 3) := by decide +kernel
theorem dX5_high_74 : decode cX5_high 74 = .ok (.iload_n 3, 1) := by decide +kernel
theorem dX5_high_75 : decode cX5_high 75 = .ok (.ireturn, 1) := by decide +kernel
theorem dX5_settle_0 : decode cX5_settle 0 = .ok (.aload_n 0, 1) := by decide +kernel
theorem dX5_settle_1 : decode cX5_settle 1 = .ok (.getfield 44, 3) := by decide +kernel
theorem dX5_settle_4 : decode cX5_settle 4 = .ok (.aload_n 0, 1) := by decide +kernel
theorem dX5_settle_5 : decode cX5_settle 5 = .ok (.getfield 26, 3) := by decide +kernel
theorem dX5_settle_8 : decode cX5_settle 8 = .ok (.getfield 125, 3) := by decide +kernel
theorem dX5_settle_11 : decode cX5_settle 11 = .ok (.invokevirtual 138, 3) := by decide +kernel
theorem dX5_settle_14 : decode cX5_settle 14 = .ok (.aload_n 0, 1) := by decide +kernel
theorem dX5_settle_15 : decode cX5_settle 15 = .ok (.getfield 51, 3) := by decide +kernel
theorem dX5_settle_18 : decode cX5_settle 18 = .ok (.invokevirtual 259, 3) := by decide +kernel
theorem dX5_settle_21 : decode cX5_settle 21 = .ok (.iconst 0, 1) := by decide +kernel
theorem dX5_settle_22 : decode cX5_settle 22 = .ok (.istore_n 1, 1) := by decide +kernel
theorem dX5_settle_23 : decode cX5_settle 23 = .ok (.iload_n 1, 1) := by decide +kernel
theorem dX5_settle_24 : decode cX5_settle 24 = .ok (.aload_n 0, 1) := by decide +kernel
theorem dX5_settle_25 : decode cX5_settle 25 = .ok (.getfield 26, 3) := by decide +kernel
theorem dX5_settle_28 : decode cX5_settle 28 = .ok (.getfield 125, 3) := by decide +kernel
theorem dX5_settle_31 : decode cX5_settle 31 = .ok (.invokevirtual 223, 3) := by decide +kernel
theorem dX5_settle_34 : decode cX5_settle 34 = .ok (.if_icmp .ge 24, 3) := by decide +kernel
theorem dX5_settle_37 : decode cX5_settle 37 = .ok (.aload_n 0, 1) := by decide +kernel
theorem dX5_settle_38 : decode cX5_settle 38 = .ok (.getfield 51, 3) := by decide +kernel
theorem dX5_settle_41 : decode cX5_settle 41 = .ok (.aload_n 0, 1) := by decide +kernel
theorem dX5_settle_42 : decode cX5_settle 42 = .ok (.getfield 44, 3) := by decide +kernel
theorem dX5_settle_45 : decode cX5_settle 45 = .ok (.iload_n 1, 1) := by decide +kernel
theorem dX5_settle_46 : decode cX5_settle 46 = .ok (.invokevirtual 214, 3) := by decide +kernel
theorem dX5_settle_49 : decode cX5_settle 49 = .ok (.invokevirtual 262, 3) := by decide +kernel
theorem dX5_settle_52 : decode cX5_settle 52 = .ok (.iinc 1 1, 3) := by decide +kernel
theorem dX5_settle_55 : decode cX5_settle 55 = .ok (.goto (-32), 3) := by decide +kernel
theorem dX5_settle_58 : decode cX5_settle 58 = .ok (.aload_n 0, 1) := by decide +kernel
theorem dX5_settle_59 : decode cX5_settle 59 = .ok (.getfield 51, 3) := by decide +kernel
theorem dX5_settle_62 : decode cX5_settle 62 = .ok (.invokevirtual 265, 3) := by decide +kernel
theorem dX5_settle_65 : decode cX5_settle 65 = .ok (.ireturn, 1) := by decide +kernel
theorem dX5_rings_0 : decode cX5_rings 0 = .ok (.aload_n 0, 1) := by decide +kernel
theorem dX5_rings_1 : decode cX5_rings 1 = .ok (.getfield 44, 3) := by decide +kernel
theorem dX5_rings_4 : decode cX5_rings 4 = .ok (.aload_n 0, 1) := by decide +kernel
theorem dX5_rings_5 : decode cX5_rings 5 = .ok (.getfield 26, 3) := by decide +kernel
theorem dX5_rings_8 : decode cX5_rings 8 = .ok (.getfield 125, 3) := by decide +kernel
theorem dX5_rings_11 : decode cX5_rings 11 = .ok (.invokevirtual 138, 3) := by decide +kernel
theorem dX5_rings_14 : decode cX5_rings 14 = .ok (.aload_n 0, 1) := by decide +kernel
theorem dX5_rings_15 : decode cX5_rings 15 = .ok (.aload_n 0, 1) := by decide +kernel
theorem dX5_rings_16 : decode cX5_rings 16 = .ok (.getfield 44, 3) := by decide +kernel
theorem dX5_rings_19 : decode cX5_rings 19 = .ok (.invokevirtual 268, 3) := by decide +kernel
theorem dX5_rings_22 : decode cX5_rings 22 = .ok (.putfield 86, 3) := by decide +kernel
theorem dX5_rings_25 : decode cX5_rings 25 = .ok (.aload_n 0, 1) := by decide +kernel
theorem dX5_rings_26 : decode cX5_rings 26 = .ok (.getfield 44, 3) := by decide +kernel
theorem dX5_rings_29 : decode cX5_rings 29 = .ok (.invokevirtual 271, 3) := by decide +kernel
theorem dX5_rings_32 : decode cX5_rings 32 = .ok (.ireturn, 1) := by decide +kernel
theorem dX5_game_0 : decode cX5_game 0 = .ok (.iload_n 1, 1) := by decide +kernel
theorem dX5_game_1 : decode cX5_game 1 = .ok (.invokestatic 157, 3) := by decide +kernel
theorem dX5_game_4 : decode cX5_game 4 = .ok (.ifCond .eq 12, 3) := by decide +kernel
theorem dX5_game_7 : decode cX5_game 7 = .ok (.iload_n 2, 1) := by decide +kernel
theorem dX5_game_8 : decode cX5_game 8 = .ok (.ifCond .lt 8, 3) := by decide +kernel
theorem dX5_game_11 : decode cX5_game 11 = .ok (.iload_n 2, 1) := by decide +kernel
end
section
theorem dX5_game_12 : decode cX5_game 12 = .ok (.iconst 4, 1) := by decide +kernel
theorem dX5_game_13 : decode cX5_game 13 = .ok (.if_icmp .le 5, 3) := by decide +kernel
theorem dX5_game_16 : decode cX5_game 16 = .ok (.iconst (-1), 1) := by decide +kernel
theorem dX5_game_17 : decode cX5_game 17 = .ok (.ireturn, 1) := by decide +kernel
theorem dX5_game_18 : decode cX5_game 18 = .ok (.aload_n 0, 1) := by decide +kernel
theorem dX5_game_19 : decode cX5_game 19 = .ok (.getfield 26, 3) := by decide +kernel
theorem dX5_game_22 : decode cX5_game 22 = .ok (.getfield 125, 3) := by decide +kernel
theorem dX5_game_25 : decode cX5_game 25 = .ok (.invokevirtual 121, 3) := by decide +kernel
theorem dX5_game_28 : decode cX5_game 28 = .ok (.ifCond .ne 6, 3) := by decide +kernel
theorem dX5_game_31 : decode cX5_game 31 = .ok (.bipush (-4), 2) := by decide +kernel
theorem dX5_game_33 : decode cX5_game 33 = .ok (.ireturn, 1) := by decide +kernel
theorem dX5_game_34 : decode cX5_game 34 = .ok (.aload_n 0, 1) := by decide +kernel
theorem dX5_game_35 : decode cX5_game 35 = .ok (.getfield 37, 3) := by decide +kernel
theorem dX5_game_38 : decode cX5_game 38 = .ok (.aload_n 0, 1) := by decide +kernel
theorem dX5_game_39 : decode cX5_game 39 = .ok (.getfield 26, 3) := by decide +kernel
theorem dX5_game_42 : decode cX5_game 42 = .ok (.getfield 125, 3) := by decide +kernel
theorem dX5_game_45 : decode cX5_game 45 = .ok (.invokevirtual 235, 3) := by decide +kernel
theorem dX5_game_48 : decode cX5_game 48 = .ok (.aload_n 0, 1) := by decide +kernel
theorem dX5_game_49 : decode cX5_game 49 = .ok (.getfield 37, 3) := by decide +kernel
theorem dX5_game_52 : decode cX5_game 52 = .ok (.iload_n 1, 1) := by decide +kernel
theorem dX5_game_53 : decode cX5_game 53 = .ok (.iload_n 2, 1) := by decide +kernel
theorem dX5_game_54 : decode cX5_game 54 = .ok (.invokestatic 274, 3) := by decide +kernel
theorem dX5_game_57 : decode cX5_game 57 = .ok (.bipush (-9), 2) := by decide +kernel
theorem dX5_game_59 : decode cX5_game 59 = .ok (.if_icmp .ne 7, 3) := by decide +kernel
theorem dX5_game_62 : decode cX5_game 62 = .ok (.iconst 0, 1) := by decide +kernel
theorem dX5_game_63 : decode cX5_game 63 = .ok (.goto 4, 3) := by decide +kernel
theorem dX5_game_66 : decode cX5_game 66 = .ok (.iconst 1, 1) := by decide +kernel
theorem dX5_game_67 : decode cX5_game 67 = .ok (.ireturn, 1) := by decide +kernel
theorem dX5_begin_0 : decode cX5_begin 0 = .ok (.iload_n 1, 1) := by decide +kernel
theorem dX5_begin_1 : decode cX5_begin 1 = .ok (.invokestatic 157, 3) := by decide +kernel
theorem dX5_begin_4 : decode cX5_begin 4 = .ok (.ifCond .eq 12, 3) := by decide +kernel
theorem dX5_begin_7 : decode cX5_begin 7 = .ok (.iload_n 2, 1) := by decide +kernel
theorem dX5_begin_8 : decode cX5_begin 8 = .ok (.ifCond .lt 8, 3) := by decide +kernel
theorem dX5_begin_11 : decode cX5_begin 11 = .ok (.iload_n 2, 1) := by decide +kernel
theorem dX5_begin_12 : decode cX5_begin 12 = .ok (.iconst 4, 1) := by decide +kernel
theorem dX5_begin_13 : decode cX5_begin 13 = .ok (.if_icmp .le 5, 3) := by decide +kernel
theorem dX5_begin_16 : decode cX5_begin 16 = .ok (.iconst (-1), 1) := by decide +kernel
theorem dX5_begin_17 : decode cX5_begin 17 = .ok (.ireturn, 1) := by decide +kernel
theorem dX5_begin_18 : decode cX5_begin 18 = .ok (.aload_n 0, 1) := by decide +kernel
theorem dX5_begin_19 : decode cX5_begin 19 = .ok (.getfield 26, 3) := by decide +kernel
theorem dX5_begin_22 : decode cX5_begin 22 = .ok (.getfield 125, 3) := by decide +kernel
theorem dX5_begin_25 : decode cX5_begin 25 = .ok (.invokevirtual 121, 3) := by decide +kernel
theorem dX5_begin_28 : decode cX5_begin 28 = .ok (.ifCond .ne 6, 3) := by decide +kernel
theorem dX5_begin_31 : decode cX5_begin 31 = .ok (.bipush (-4), 2) := by decide +kernel
theorem dX5_begin_33 : decode cX5_begin 33 = .ok (.ireturn, 1) := by decide +kernel
theorem dX5_begin_34 : decode cX5_begin 34 = .ok (.aload_n 0, 1) := by decide +kernel
theorem dX5_begin_35 : decode cX5_begin 35 = .ok (.getfield 37, 3) := by decide +kernel
theorem dX5_begin_38 : decode cX5_begin 38 = .ok (.aload_n 0, 1) := by decide +kernel
theorem dX5_begin_39 : decode cX5_begin 39 = .ok (.getfield 26, 3) := by decide +kernel
theorem dX5_begin_42 : decode cX5_begin 42 = .ok (.getfield 125, 3) := by decide +kernel
theorem dX5_begin_45 : decode cX5_begin 45 = .ok (.invokevirtual 235, 3) := by decide +kernel
theorem dX5_begin_48 : decode cX5_begin 48 = .ok (.aload_n 0, 1) := by decide +kernel
theorem dX5_begin_49 : decode cX5_begin 49 = .ok (.getfield 37, 3) := by decide +kernel
theorem dX5_begin_52 : decode cX5_begin 52 = .ok (.iload_n 1, 1) := by decide +kernel
theorem dX5_begin_53 : decode cX5_begin 53 = .ok (.iload_n 2, 1) := by decide +kernel
theorem dX5_begin_54 : decode cX5_begin 54 = .ok (.invokestatic 274, 3) := by decide +kernel
theorem dX5_begin_57 : decode cX5_begin 57 = .ok (.ireturn, 1) := by decide +kernel
theorem dX5_fog_0 : decode cX5_fog 0 = .ok (.aload_n 0, 1) := by decide +kernel
theorem dX5_fog_1 : decode cX5_fog 1 = .ok (.getfield 14, 3) := by decide +kernel
theorem dX5_fog_4 : decode cX5_fog 4 = .ok (.iload_n 1, 1) := by decide +kernel
theorem dX5_fog_5 : decode cX5_fog 5 = .ok (.invokevirtual 63, 3) := by decide +kernel
theorem dX5_fog_8 : decode cX5_fog 8 = .ok (.ifCond .ne 5, 3) := by decide +kernel
theorem dX5_fog_11 : decode cX5_fog 11 = .ok (.iconst (-1), 1) := by decide +kernel
theorem dX5_fog_12 : decode cX5_fog 12 = .ok (.ireturn, 1) := by decide +kernel
theorem dX5_fog_13 : decode cX5_fog 13 = .ok (.aload_n 0, 1) := by decide +kernel
theorem dX5_fog_14 : decode cX5_fog 14 = .ok (.getfield 14, 3) := by decide +kernel
theorem dX5_fog_17 : decode cX5_fog 17 = .ok (.iload_n 1, 1) := by decide +kernel
theorem dX5_fog_18 : decode cX5_fog 18 = .ok (.invokevirtual 75, 3) := by decide +kernel
theorem dX5_fog_21 : decode cX5_fog 21 = .ok (.ifCond .ne 9, 3) := by decide +kernel
theorem dX5_fog_24 : decode cX5_fog 24 = .ok (.aload_n 0, 1) := by decide +kernel
theorem dX5_fog_25 : decode cX5_fog 25 = .ok (.iconst 1, 1) := by decide +kernel
theorem dX5_fog_26 : decode cX5_fog 26 = .ok (.invokevirtual 67, 3) := by decide +kernel
theorem dX5_fog_29 : decode cX5_fog 29 = .ok (.ireturn, 1) := by decide +kernel
theorem dX5_fog_30 : decode cX5_fog 30 = .ok (.aload_n 0, 1) := by decide +kernel
theorem dX5_fog_31 : decode cX5_fog 31 = .ok (.getfield 14, 3) := by decide +kernel
theorem dX5_fog_34 : decode cX5_fog 34 = .ok (.iload_n 1, 1) := by decide +kernel
theorem dX5_fog_35 : decode cX5_fog 35 = .ok (.invokevirtual 104, 3) := by decide +kernel
theorem dX5_fog_38 : decode cX5_fog 38 = .ok (.aload_n 0, 1) := by decide +kernel
theorem dX5_fog_39 : decode cX5_fog 39 = .ok (.getfield 26, 3) := by decide +kernel
theorem dX5_fog_42 : decode cX5_fog 42 = .ok (.getfield 125, 3) := by decide +kernel
theorem dX5_fog_45 : decode cX5_fog 45 = .ok (.invokevirtual 223, 3) := by decide +kernel
theorem dX5_fog_48 : decode cX5_fog 48 = .ok (.if_icmp .eq 9, 3) := by decide +kernel
theorem dX5_fog_51 : decode cX5_fog 51 = .ok (.aload_n 0, 1) := by decide +kernel
theorem dX5_fog_52 : decode cX5_fog 52 = .ok (.iconst 5, 1) := by decide +kernel
theorem dX5_fog_53 : decode cX5_fog 53 = .ok (.invokevirtual 67, 3) := by decide +kernel
theorem dX5_fog_56 : decode cX5_fog 56 = .ok (.ireturn, 1) := by decide +kernel
theorem dX5_fog_57 : decode cX5_fog 57 = .ok (.aload_n 0, 1) := by decide +kernel
theorem dX5_fog_58 : decode cX5_fog 58 = .ok (.getfield 44, 3) := by decide +kernel
theorem dX5_fog_61 : decode cX5_fog 61 = .ok (.aload_n 0, 1) := by decide +kernel
theorem dX5_fog_62 : decode cX5_fog 62 = .ok (.getfield 26, 3) := by decide +kernel
theorem dX5_fog_65 : decode cX5_fog 65 = .ok (.getfield 125, 3) := by decide +kernel
theorem dX5_fog_68 : decode cX5_fog 68 = .ok (.invokevirtual 138, 3) := by decide +kernel
theorem dX5_fog_71 : decode cX5_fog 71 = .ok (.iconst 0, 1) := by decide +kernel
theorem dX5_fog_72 : decode cX5_fog 72 = .ok (.istore_n 2, 1) := by decide +kernel
theorem dX5_fog_73 : decode cX5_fog 73 = .ok (.bipush (-9), 2) := by decide +kernel
theorem dX5_fog_75 : decode cX5_fog 75 = .ok (.istore_n 3, 1) := by decide +kernel
theorem dX5_fog_76 : decode cX5_fog 76 = .ok (.iconst 0, 1) := by decide +kernel
theorem dX5_fog_77 : decode cX5_fog 77 = .ok (.istore 4, 2) := by decide +kernel
theorem dX5_fog_79 : decode cX5_fog 79 = .ok (.iload 4, 2) := by decide +kernel
theorem dX5_fog_81 : decode cX5_fog 81 = .ok (.bipush 31, 2) := by decide +kernel
theorem dX5_fog_83 : decode cX5_fog 83 = .ok (.if_icmp .gt 33, 3) := by decide +kernel
theorem dX5_fog_86 : decode cX5_fog 86 = .ok (.aload_n 0, 1) := by decide +kernel
theorem dX5_fog_87 : decode cX5_fog 87 = .ok (.iload_n 1, 1) := by decide +kernel
theorem dX5_fog_88 : decode cX5_fog 88 = .ok (.iload 4, 2) := by decide +kernel
theorem dX5_fog_90 : decode cX5_fog 90 = .ok (.invokevirtual 278, 3) := by decide +kernel
theorem dX5_fog_93 : decode cX5_fog 93 = .ok (.ifCond .eq 17, 3) := by decide +kernel
theorem dX5_fog_96 : decode cX5_fog 96 = .ok (.iload_n 2, 1) := by decide +kernel
theorem dX5_fog_97 : decode cX5_fog 97 = .ok (.ifCond .ne 8, 3) := by decide +kernel
theorem dX5_fog_100 : decode cX5_fog 100 = .ok (.iload 4, 2) := by decide +kernel
theorem dX5_fog_102 : decode cX5_fog 102 = .ok (.goto 4, 3) := by decide +kernel
theorem dX5_fog_105 : decode cX5_fog 105 = .ok (.iload_n 3, 1) := by decide +kernel
theorem dX5_fog_106 : decode cX5_fog 106 = .ok (.istore_n 3, 1) := by decide +kernel
theorem dX5_fog_107 : decode cX5_fog 107 = .ok (.iinc 2 1, 3) := by decide +kernel
theorem dX5_fog_110 : decode cX5_fog 110 = .ok (.iinc 4 1, 3) := by decide +kernel
theorem dX5_fog_113 : decode cX5_fog 113 = .ok (.goto (-34), 3) := by decide +kernel
theorem dX5_fog_116 : decode cX5_fog 116 = .ok (.aload_n 0, 1) := by decide +kernel
theorem dX5_fog_117 : decode cX5_fog 117 = .ok (.iload_n 3, 1) := by decide +kernel
theorem dX5_fog_118 : decode cX5_fog 118 = .ok (.putfield 86, 3) := by decide +kernel
theorem dX5_fog_121 : decode cX5_fog 121 = .ok (.iload_n 2, 1) := by decide +kernel
theorem dX5_fog_122 : decode cX5_fog 122 = .ok (.ireturn, 1) := by decide +kernel
theorem dX5_kinds_0 : decode cX5_kinds 0 = .ok (.aload_n 0, 1) := by decide +kernel
theorem dX5_kinds_1 : decode cX5_kinds 1 = .ok (.iload_n 1, 1) := by decide +kernel
theorem dX5_kinds_2 : decode cX5_kinds 2 = .ok (.iload_n 2, 1) := by decide +kernel
theorem dX5_kinds_3 : decode cX5_kinds 3 = .ok (.invokevirtual 134, 3) := by decide +kernel
theorem dX5_kinds_6 : decode cX5_kinds 6 = .ok (.ifCond .ne 14, 3) := by decide +kernel
theorem dX5_kinds_9 : decode cX5_kinds 9 = .ok (.aload_n 0, 1) := by decide +kernel
theorem dX5_kinds_10 : decode cX5_kinds 10 = .ok (.getfield 14, 3) := by decide +kernel
theorem dX5_kinds_13 : decode cX5_kinds 13 = .ok (.iload_n 3, 1) := by decide +kernel
theorem dX5_kinds_14 : decode cX5_kinds 14 = .ok (.invokevirtual 63, 3) := by decide +kernel
theorem dX5_kinds_17 : decode cX5_kinds 17 = .ok (.ifCond .ne 5, 3) := by decide +kernel
theorem dX5_kinds_20 : decode cX5_kinds 20 = .ok (.iconst (-1), 1) := by decide +kernel
theorem dX5_kinds_21 : decode cX5_kinds 21 = .ok (.ireturn, 1) := by decide +kernel
theorem dX5_kinds_22 : decode cX5_kinds 22 = .ok (.aload_n 0, 1) := by decide +kernel
theorem dX5_kinds_23 : decode cX5_kinds 23 = .ok (.getfield 26, 3) := by decide +kernel
theorem dX5_kinds_26 : decode cX5_kinds 26 = .ok (.getfield 125, 3) := by decide +kernel
theorem dX5_kinds_29 : decode cX5_kinds 29 = .ok (.iload_n 1, 1) := by decide +kernel
theorem dX5_kinds_30 : decode cX5_kinds 30 = .ok (.iload_n 2, 1) := by decide +kernel
theorem dX5_kinds_31 : decode cX5_kinds 31 = .ok (.invokevirtual 137, 3) := by decide +kernel
theorem dX5_kinds_34 : decode cX5_kinds 34 = .ok (.ifCond .ne 9, 3) := by decide +kernel
theorem dX5_kinds_37 : decode cX5_kinds 37 = .ok (.aload_n 0, 1) := by decide +kernel
theorem dX5_kinds_38 : decode cX5_kinds 38 = .ok (.iconst 2, 1) := by decide +kernel
theorem dX5_kinds_39 : decode cX5_kinds 39 = .ok (.invokevirtual 67, 3) := by decide +kernel
theorem dX5_kinds_42 : decode cX5_kinds 42 = .ok (.ireturn, 1) := by decide +kernel
theorem dX5_kinds_43 : decode cX5_kinds 43 = .ok (.aload_n 0, 1) := by decide +kernel
theorem dX5_kinds_44 : decode cX5_kinds 44 = .ok (.getfield 14, 3) := by decide +kernel
theorem dX5_kinds_47 : decode cX5_kinds 47 = .ok (.iload_n 3, 1) := by decide +kernel
theorem dX5_kinds_48 : decode cX5_kinds 48 = .ok (.invokevirtual 75, 3) := by decide +kernel
theorem dX5_kinds_51 : decode cX5_kinds 51 = .ok (.ifCond .ne 9, 3) := by decide +kernel
theorem dX5_kinds_54 : decode cX5_kinds 54 = .ok (.aload_n 0, 1) := by decide +kernel
theorem dX5_kinds_55 : decode cX5_kinds 55 = .ok (.iconst 1, 1) := by decide +kernel
theorem dX5_kinds_56 : decode cX5_kinds 56 = .ok (.invokevirtual 67, 3) := by decide +kernel
theorem dX5_kinds_59 : decode cX5_kinds 59 = .ok (.ireturn, 1) := by decide +kernel
theorem dX5_kinds_60 : decode cX5_kinds 60 = .ok (.aload_n 0, 1) := by decide +kernel
theorem dX5_kinds_61 : decode cX5_kinds 61 = .ok (.getfield 14, 3) := by decide +kernel
theorem dX5_kinds_64 : decode cX5_kinds 64 = .ok (.iload_n 3, 1) := by decide +kernel
theorem dX5_kinds_65 : decode cX5_kinds 65 = .ok (.invokevirtual 104, 3) := by decide +kernel
theorem dX5_kinds_68 : decode cX5_kinds 68 = .ok (.aload_n 0, 1) := by decide +kernel
theorem dX5_kinds_69 : decode cX5_kinds 69 = .ok (.getfield 26, 3) := by decide +kernel
theorem dX5_kinds_72 : decode cX5_kinds 72 = .ok (.getfield 125, 3) := by decide +kernel
theorem dX5_kinds_75 : decode cX5_kinds 75 = .ok (.invokevirtual 223, 3) := by decide +kernel
theorem dX5_kinds_78 : decode cX5_kinds 78 = .ok (.if_icmp .eq 9, 3) := by decide +kernel
theorem dX5_kinds_81 : decode cX5_kinds 81 = .ok (.aload_n 0, 1) := by decide +kernel
theorem dX5_kinds_82 : decode cX5_kinds 82 = .ok (.iconst 5, 1) := by decide +kernel
theorem dX5_kinds_83 : decode cX5_kinds 83 = .ok (.invokevirtual 67, 3) := by decide +kernel
theorem dX5_kinds_86 : decode cX5_kinds 86 = .ok (.ireturn, 1) := by decide +kernel
theorem dX5_kinds_87 : decode cX5_kinds 87 = .ok (.aload_n 0, 1) := by decide +kernel
theorem dX5_kinds_88 : decode cX5_kinds 88 = .ok (.getfield 37, 3) := by decide +kernel
theorem dX5_kinds_91 : decode cX5_kinds 91 = .ok (.aload_n 0, 1) := by decide +kernel
theorem dX5_kinds_92 : decode cX5_kinds 92 = .ok (.getfield 26, 3) := by decide +kernel
theorem dX5_kinds_95 : decode cX5_kinds 95 = .ok (.getfield 125, 3) := by decide +kernel
theorem dX5_kinds_98 : decode cX5_kinds 98 = .ok (.invokevirtual 235, 3) := by decide +kernel
theorem dX5_kinds_101 : decode cX5_kinds 101 = .ok (.iconst 0, 1) := by decide +kernel
theorem dX5_kinds_102 : decode cX5_kinds 102 = .ok (.istore 4, 2) := by decide +kernel
theorem dX5_kinds_104 : decode cX5_kinds 104 = .ok (.iconst 0, 1) := by decide +kernel
theorem dX5_kinds_105 : decode cX5_kinds 105 = .ok (.istore 5, 2) := by decide +kernel
theorem dX5_kinds_107 : decode cX5_kinds 107 = .ok (.iload 5, 2) := by decide +kernel
theorem dX5_kinds_109 : decode cX5_kinds 109 = .ok (.bipush 6, 2) := by decide +kernel
theorem dX5_kinds_111 : decode cX5_kinds 111 = .ok (.if_icmp .ge 58, 3) := by decide +kernel
theorem dX5_kinds_114 : decode cX5_kinds 114 = .ok (.aload_n 0, 1) := by decide +kernel
theorem dX5_kinds_115 : decode cX5_kinds 115 = .ok (.getfield 37, 3) := by decide +kernel
theorem dX5_kinds_118 : decode cX5_kinds 118 = .ok (.iload_n 1, 1) := by decide +kernel
theorem dX5_kinds_119 : decode cX5_kinds 119 = .ok (.iload_n 2, 1) := by decide +kernel
theorem dX5_kinds_120 : decode cX5_kinds 120 = .ok (.iload 5, 2) := by decide +kernel
theorem dX5_kinds_122 : decode cX5_kinds 122 = .ok (.aload_n 0, 1) := by decide +kernel
theorem dX5_kinds_123 : decode cX5_kinds 123 = .ok (.getfield 37, 3) := by decide +kernel
theorem dX5_kinds_126 : decode cX5_kinds 126 = .ok (.iload_n 1, 1) := by decide +kernel
theorem dX5_kinds_127 : decode cX5_kinds 127 = .ok (.iload_n 2, 1) := by decide +kernel
theorem dX5_kinds_128 : decode cX5_kinds 128 = .ok (.invokevirtual 160, 3) := by decide +kernel
theorem dX5_kinds_131 : decode cX5_kinds 131 = .ok (.invokevirtual 163, 3) := by decide +kernel
theorem dX5_kinds_134 : decode cX5_kinds 134 = .ok (.aload_n 0, 1) := by decide +kernel
theorem dX5_kinds_135 : decode cX5_kinds 135 = .ok (.getfield 44, 3) := by decide +kernel
theorem dX5_kinds_138 : decode cX5_kinds 138 = .ok (.aload_n 0, 1) := by decide +kernel
theorem dX5_kinds_139 : decode cX5_kinds 139 = .ok (.getfield 37, 3) := by decide +kernel
theorem dX5_kinds_142 : decode cX5_kinds 142 = .ok (.invokevirtual 138, 3) := by decide +kernel
theorem dX5_kinds_145 : decode cX5_kinds 145 = .ok (.aload_n 0, 1) := by decide +kernel
theorem dX5_kinds_146 : decode cX5_kinds 146 = .ok (.iload_n 3, 1) := by decide +kernel
theorem dX5_kinds_147 : decode cX5_kinds 147 = .ok (.iconst 0, 1) := by decide +kernel
theorem dX5_kinds_148 : decode cX5_kinds 148 = .ok (.invokevirtual 278, 3) := by decide +kernel
theorem dX5_kinds_151 : decode cX5_kinds 151 = .ok (.ifCond .eq 12, 3) := by decide +kernel
theorem dX5_kinds_154 : decode cX5_kinds 154 = .ok (.iload 4, 2) := by decide +kernel
theorem dX5_kinds_156 : decode cX5_kinds 156 = .ok (.iconst 1, 1) := by decide +kernel
theorem dX5_kinds_157 : decode cX5_kinds 157 = .ok (.iload 5, 2) := by decide +kernel
theorem dX5_kinds_159 : decode cX5_kinds 159 = .ok (.ishl, 1) := by decide +kernel
theorem dX5_kinds_160 : decode cX5_kinds 160 = .ok (.ior, 1) := by decide +kernel
theorem dX5_kinds_161 : decode cX5_kinds 161 = .ok (.istore 4, 2) := by decide +kernel
theorem dX5_kinds_163 : decode cX5_kinds 163 = .ok (.iinc 5 1, 3) := by decide +kernel
theorem dX5_kinds_166 : decode cX5_kinds 166 = .ok (.goto (-59), 3) := by decide +kernel
theorem dX5_kinds_169 : decode cX5_kinds 169 = .ok (.iload 4, 2) := by decide +kernel
theorem dX5_kinds_171 : decode cX5_kinds 171 = .ok (.ireturn, 1) := by decide +kernel
theorem dX5_odds_0 : decode cX5_odds 0 = .ok (.aload_n 0, 1) := by decide +kernel
theorem dX5_odds_1 : decode cX5_odds 1 = .ok (.iload_n 1, 1) := by decide +kernel
theorem dX5_odds_2 : decode cX5_odds 2 = .ok (.iload_n 2, 1) := by decide +kernel
theorem dX5_odds_3 : decode cX5_odds 3 = .ok (.invokevirtual 134, 3) := by decide +kernel
theorem dX5_odds_6 : decode cX5_odds 6 = .ok (.ifCond .eq 5, 3) := by decide +kernel
theorem dX5_odds_9 : decode cX5_odds 9 = .ok (.iconst (-1), 1) := by decide +kernel
theorem dX5_odds_10 : decode cX5_odds 10 = .ok (.ireturn, 1) := by decide +kernel
theorem dX5_odds_11 : decode cX5_odds 11 = .ok (.aload_n 0, 1) := by decide +kernel
theorem dX5_odds_12 : decode cX5_odds 12 = .ok (.getfield 26, 3) := by decide +kernel
theorem dX5_odds_15 : decode cX5_odds 15 = .ok (.getfield 125, 3) := by decide +kernel
theorem dX5_odds_18 : decode cX5_odds 18 = .ok (.iload_n 1, 1) := by decide +kernel
theorem dX5_odds_19 : decode cX5_odds 19 = .ok (.iload_n 2, 1) := by decide +kernel
theorem dX5_odds_20 : decode cX5_odds 20 = .ok (.invokevirtual 137, 3) := by decide +kernel
theorem dX5_odds_23 : decode cX5_odds 23 = .ok (.ifCond .ne 9, 3) := by decide +kernel
theorem dX5_odds_26 : decode cX5_odds 26 = .ok (.aload_n 0, 1) := by decide +kernel
theorem dX5_odds_27 : decode cX5_odds 27 = .ok (.iconst 2, 1) := by decide +kernel
theorem dX5_odds_28 : decode cX5_odds 28 = .ok (.invokevirtual 67, 3) := by decide +kernel
theorem dX5_odds_31 : decode cX5_odds 31 = .ok (.ireturn, 1) := by decide +kernel
theorem dX5_odds_32 : decode cX5_odds 32 = .ok (.aload_n 0, 1) := by decide +kernel
theorem dX5_odds_33 : decode cX5_odds 33 = .ok (.getfield 26, 3) := by decide +kernel
theorem dX5_odds_36 : decode cX5_odds 36 = .ok (.getfield 125, 3) := by decide +kernel
theorem dX5_odds_39 : decode cX5_odds 39 = .ok (.iload_n 1, 1) := by decide +kernel
theorem dX5_odds_40 : decode cX5_odds 40 = .ok (.iload_n 2, 1) := by decide +kernel
theorem dX5_odds_41 : decode cX5_odds 41 = .ok (.invokevirtual 205, 3) := by decide +kernel
theorem dX5_odds_44 : decode cX5_odds 44 = .ok (.invokestatic 244, 3) := by decide +kernel
theorem dX5_odds_47 : decode cX5_odds 47 = .ok (.istore_n 3, 1) := by decide +kernel
theorem dX5_odds_48 : decode cX5_odds 48 = .ok (.iload_n 3, 1) := by decide +kernel
theorem dX5_odds_49 : decode cX5_odds 49 = .ok (.ifCond .eq 8, 3) := by decide +kernel
theorem dX5_odds_52 : decode cX5_odds 52 = .ok (.iload_n 3, 1) := by decide +kernel
theorem dX5_odds_53 : decode cX5_odds 53 = .ok (.iconst 5, 1) := by decide +kernel
theorem dX5_odds_54 : decode cX5_odds 54 = .ok (.if_icmp .ne 7, 3) := by decide +kernel
theorem dX5_odds_57 : decode cX5_odds 57 = .ok (.iconst 1, 1) := by decide +kernel
theorem dX5_odds_58 : decode cX5_odds 58 = .ok (.goto 4, 3) := by decide +kernel
theorem dX5_odds_61 : decode cX5_odds 61 = .ok (.iconst 0, 1) := by decide +kernel
theorem dX5_odds_62 : decode cX5_odds 62 = .ok (.istore 4, 2) := by decide +kernel
theorem dX5_odds_64 : decode cX5_odds 64 = .ok (.aload_n 0, 1) := by decide +kernel
theorem dX5_odds_65 : decode cX5_odds 65 = .ok (.iload 4, 2) := by decide +kernel
theorem dX5_odds_67 : decode cX5_odds 67 = .ok (.ifCond .eq 10, 3) := by decide +kernel
theorem dX5_odds_70 : decode cX5_odds 70 = .ok (.iload_n 3, 1) := by decide +kernel
theorem dX5_odds_71 : decode cX5_odds 71 = .ok (.iconst 5, 1) := by decide +kernel
theorem dX5_odds_72 : decode cX5_odds 72 = .ok (.idiv, 1) := by decide +kernel
theorem dX5_odds_73 : decode cX5_odds 73 = .ok (.i2l, 1) := by decide +kernel
theorem dX5_odds_74 : decode cX5_odds 74 = .ok (.goto 5, 3) := by decide +kernel
theorem dX5_odds_77 : decode cX5_odds 77 = .ok (.iload_n 3, 1) := by decide +kernel
theorem dX5_odds_78 : decode cX5_odds 78 = .ok (.i2l, 1) := by decide +kernel
theorem dX5_odds_79 : decode cX5_odds 79 = .ok (.putfield 281, 3) := by decide +kernel
theorem dX5_odds_82 : decode cX5_odds 82 = .ok (.aload_n 0, 1) := by decide +kernel
theorem dX5_odds_83 : decode cX5_odds 83 = .ok (.iload 4, 2) := by decide +kernel
theorem dX5_odds_85 : decode cX5_odds 85 = .ok (.ifCond .eq 7, 3) := by decide +kernel
theorem dX5_odds_88 : decode cX5_odds 88 = .ok (.lconst 1, 1) := by decide +kernel
theorem dX5_odds_89 : decode cX5_odds 89 = .ok (.goto 6, 3) := by decide +kernel
theorem dX5_odds_92 : decode cX5_odds 92 = .ok (.ldc2_w 284, 3) := by decide +kernel
theorem dX5_odds_95 : decode cX5_odds 95 = .ok (.putfield 59, 3) := by decide +kernel
theorem dX5_odds_98 : decode cX5_odds 98 = .ok (.iconst 1, 1) := by decide +kernel
theorem dX5_odds_99 : decode cX5_odds 99 = .ok (.ireturn, 1) := by decide +kernel
theorem dX5_lots_0 : decode cX5_lots 0 = .ok (.iload_n 1, 1) := by decide +kernel
theorem dX5_lots_1 : decode cX5_lots 1 = .ok (.iconst 1, 1) := by decide +kernel
theorem dX5_lots_2 : decode cX5_lots 2 = .ok (.if_icmp .lt 21, 3) := by decide +kernel
theorem dX5_lots_5 : decode cX5_lots 5 = .ok (.iload_n 1, 1) := by decide +kernel
theorem dX5_lots_6 : decode cX5_lots 6 = .ok (.bipush 12, 2) := by decide +kernel
theorem dX5_lots_8 : decode cX5_lots 8 = .ok (.if_icmp .gt 15, 3) := by decide +kernel
theorem dX5_lots_11 : decode cX5_lots 11 = .ok (.iload_n 2, 1) := by decide +kernel
theorem dX5_lots_12 : decode cX5_lots 12 = .ok (.iconst 1, 1) := by decide +kernel
theorem dX5_lots_13 : decode cX5_lots 13 = .ok (.if_icmp .lt 10, 3) := by decide +kernel
theorem dX5_lots_16 : decode cX5_lots 16 = .ok (.iload_n 2, 1) := by decide +kernel
theorem dX5_lots_17 : decode cX5_lots 17 = .ok (.ldc_w 286, 3) := by decide +kernel
theorem dX5_lots_20 : decode cX5_lots 20 = .ok (.if_icmp .lt 5, 3) := by decide +kernel
theorem dX5_lots_23 : decode cX5_lots 23 = .ok (.iconst (-1), 1) := by decide +kernel
theorem dX5_lots_24 : decode cX5_lots 24 = .ok (.ireturn, 1) := by decide +kernel
theorem dX5_lots_25 : decode cX5_lots 25 = .ok (.aload_n 0, 1) := by decide +kernel
theorem dX5_lots_26 : decode cX5_lots 26 = .ok (.getfield 26, 3) := by decide +kernel
theorem dX5_lots_29 : decode cX5_lots 29 = .ok (.getfield 125, 3) := by decide +kernel
theorem dX5_lots_32 : decode cX5_lots 32 = .ok (.invokevirtual 121, 3) := by decide +kernel
theorem dX5_lots_35 : decode cX5_lots 35 = .ok (.istore_n 3, 1) := by decide +kernel
theorem dX5_lots_36 : decode cX5_lots 36 = .ok (.iload_n 3, 1) := by decide +kernel
theorem dX5_lots_37 : decode cX5_lots 37 = .ok (.ifCond .ne 6, 3) := by decide +kernel
theorem dX5_lots_40 : decode cX5_lots 40 = .ok (.bipush (-4), 2) := by decide +kernel
theorem dX5_lots_42 : decode cX5_lots 42 = .ok (.ireturn, 1) := by decide +kernel
theorem dX5_lots_43 : decode cX5_lots 43 = .ok (.aload_n 0, 1) := by decide +kernel
theorem dX5_lots_44 : decode cX5_lots 44 = .ok (.getfield 26, 3) := by decide +kernel
theorem dX5_lots_47 : decode cX5_lots 47 = .ok (.iload_n 1, 1) := by decide +kernel
theorem dX5_lots_48 : decode cX5_lots 48 = .ok (.invokevirtual 170, 3) := by decide +kernel
theorem dX5_lots_51 : decode cX5_lots 51 = .ok (.ifCond .ne 6, 3) := by decide +kernel
theorem dX5_lots_54 : decode cX5_lots 54 = .ok (.bipush (-2), 2) := by decide +kernel
theorem dX5_lots_56 : decode cX5_lots 56 = .ok (.ireturn, 1) := by decide +kernel
theorem dX5_lots_57 : decode cX5_lots 57 = .ok (.iconst 0, 1) := by decide +kernel
theorem dX5_lots_58 : decode cX5_lots 58 = .ok (.istore 4, 2) := by decide +kernel
theorem dX5_lots_60 : decode cX5_lots 60 = .ok (.iload_n 2, 1) := by decide +kernel
theorem dX5_lots_61 : decode cX5_lots 61 = .ok (.i2l, 1) := by decide +kernel
theorem dX5_lots_62 : decode cX5_lots 62 = .ok (.lstore 5, 2) := by decide +kernel
theorem dX5_lots_64 : decode cX5_lots 64 = .ok (.iconst 0, 1) := by decide +kernel
theorem dX5_lots_65 : decode cX5_lots 65 = .ok (.istore 7, 2) := by decide +kernel
theorem dX5_lots_67 : decode cX5_lots 67 = .ok (.iload 7, 2) := by decide +kernel
theorem dX5_lots_69 : decode cX5_lots 69 = .ok (.iload_n 1, 1) := by decide +kernel
theorem dX5_lots_70 : decode cX5_lots 70 = .ok (.if_icmp .ge 63, 3) := by decide +kernel
theorem dX5_lots_73 : decode cX5_lots 73 = .ok (.lload 5, 2) := by decide +kernel
theorem dX5_lots_75 : decode cX5_lots 75 = .ok (.ldc2_w 287, 3) := by decide +kernel
theorem dX5_lots_78 : decode cX5_lots 78 = .ok (.lmul, 1) := by decide +kernel
theorem dX5_lots_79 : decode cX5_lots 79 = .ok (.ldc2_w 289, 3) := by decide +kernel
theorem dX5_lots_82 : decode cX5_lots 82 = .ok (.lrem, 1) := by decide +kernel
theorem dX5_lots_83 : decode cX5_lots 83 = .ok (.lstore 5, 2) := by decide +kernel
theorem dX5_lots_85 : decode cX5_lots 85 = .ok (.aload_n 0, 1) := by decide +kernel
theorem dX5_lots_86 : decode cX5_lots 86 = .ok (.lload 5, 2) := by decide +kernel
theorem dX5_lots_88 : decode cX5_lots 88 = .ok (.iload_n 3, 1) := by decide +kernel
theorem dX5_lots_89 : decode cX5_lots 89 = .ok (.i2l, 1) := by decide +kernel
theorem dX5_lots_90 : decode cX5_lots 90 = .ok (.lrem, 1) := by decide +kernel
theorem dX5_lots_91 : decode cX5_lots 91 = .ok (.l2i, 1) := by decide +kernel
theorem dX5_lots_92 : decode cX5_lots 92 = .ok (.lload 5, 2) := by decide +kernel
theorem dX5_lots_94 : decode cX5_lots 94 = .ok (.ldc2_w 291, 3) := by decide +kernel
theorem dX5_lots_97 : decode cX5_lots 97 = .ok (.ldiv, 1) := by decide +kernel
theorem dX5_lots_98 : decode cX5_lots 98 = .ok (.ldc2_w 293, 3) := by decide +kernel
theorem dX5_lots_101 : decode cX5_lots 101 = .ok (.lrem, 1) := by decide +kernel
theorem dX5_lots_102 : decode cX5_lots 102 = .ok (.l2i, 1) := by decide +kernel
theorem dX5_lots_103 : decode cX5_lots 103 = .ok (.lload 5, 2) := by decide +kernel
theorem dX5_lots_105 : decode cX5_lots 105 = .ok (.ldc2_w 295, 3) := by decide +kernel
theorem dX5_lots_108 : decode cX5_lots 108 = .ok (.ldiv, 1) := by decide +kernel
theorem dX5_lots_109 : decode cX5_lots 109 = .ok (.ldc2_w 297, 3) := by decide +kernel
theorem dX5_lots_112 : decode cX5_lots 112 = .ok (.lrem, 1) := by decide +kernel
theorem dX5_lots_113 : decode cX5_lots 113 = .ok (.l2i, 1) := by decide +kernel
theorem dX5_lots_114 : decode cX5_lots 114 = .ok (.invokevirtual 299, 3) := by decide +kernel
theorem dX5_lots_117 : decode cX5_lots 117 = .ok (.istore 8, 2) := by decide +kernel
theorem dX5_lots_119 : decode cX5_lots 119 = .ok (.iload 8, 2) := by decide +kernel
theorem dX5_lots_121 : decode cX5_lots 121 = .ok (.ifCond .lt 6, 3) := by decide +kernel
theorem dX5_lots_124 : decode cX5_lots 124 = .ok (.iinc 4 1, 3) := by decide +kernel
theorem dX5_lots_127 : decode cX5_lots 127 = .ok (.iinc 7 1, 3) := by decide +kernel
theorem dX5_lots_130 : decode cX5_lots 130 = .ok (.goto (-63), 3) := by decide +kernel
theorem dX5_lots_133 : decode cX5_lots 133 = .ok (.iload 4, 2) := by decide +kernel
theorem dX5_lots_135 : decode cX5_lots 135 = .ok (.ireturn, 1) := by decide +kernel
theorem dX5_asked_0 : decode cX5_asked 0 = .ok (.aload_n 0, 1) := by decide +kernel
theorem dX5_asked_1 : decode cX5_asked 1 = .ok (.getfield 86, 3) := by decide +kernel
theorem dX5_asked_4 : decode cX5_asked 4 = .ok (.ireturn, 1) := by decide +kernel
theorem dX5_upper_0 : decode cX5_upper 0 = .ok (.aload_n 0, 1) := by decide +kernel
theorem dX5_upper_1 : decode cX5_upper 1 = .ok (.getfield 281, 3) := by decide +kernel
theorem dX5_upper_4 : decode cX5_upper 4 = .ok (.lreturn, 1) := by decide +kernel
theorem dX5_lower_0 : decode cX5_lower 0 = .ok (.aload_n 0, 1) := by decide +kernel
theorem dX5_lower_1 : decode cX5_lower 1 = .ok (.getfield 59, 3) := by decide +kernel
theorem dX5_lower_4 : decode cX5_lower 4 = .ok (.lreturn, 1) := by decide +kernel
theorem dX5_count_0 : decode cX5_count 0 = .ok (.iload_n 1, 1) := by decide +kernel
theorem dX5_count_1 : decode cX5_count 1 = .ok (.ifCond .lt 9, 3) := by decide +kernel
theorem dX5_count_4 : decode cX5_count 4 = .ok (.iload_n 1, 1) := by decide +kernel
theorem dX5_count_5 : decode cX5_count 5 = .ok (.bipush 8, 2) := by decide +kernel
theorem dX5_count_7 : decode cX5_count 7 = .ok (.if_icmp .le 5, 3) := by decide +kernel
theorem dX5_count_10 : decode cX5_count 10 = .ok (.iconst (-1), 1) := by decide +kernel
theorem dX5_count_11 : decode cX5_count 11 = .ok (.ireturn, 1) := by decide +kernel
theorem dX5_count_12 : decode cX5_count 12 = .ok (.iload_n 1, 1) := by decide +kernel
theorem dX5_count_13 : decode cX5_count 13 = .ok (.tableswitch 128 0 7 #[47, 58, 69, 77, 88, 100, 112, 120], 47) := by decide +kernel
theorem dX5_count_60 : decode cX5_count 60 = .ok (.aload_n 0, 1) := by decide +kernel
theorem dX5_count_61 : decode cX5_count 61 = .ok (.getfield 26, 3) := by decide +kernel
theorem dX5_count_64 : decode cX5_count 64 = .ok (.getfield 125, 3) := by decide +kernel
theorem dX5_count_67 : decode cX5_count 67 = .ok (.invokevirtual 121, 3) := by decide +kernel
theorem dX5_count_70 : decode cX5_count 70 = .ok (.ireturn, 1) := by decide +kernel
theorem dX5_count_71 : decode cX5_count 71 = .ok (.aload_n 0, 1) := by decide +kernel
theorem dX5_count_72 : decode cX5_count 72 = .ok (.getfield 26, 3) := by decide +kernel
theorem dX5_count_75 : decode cX5_count 75 = .ok (.getfield 125, 3) := by decide +kernel
theorem dX5_count_78 : decode cX5_count 78 = .ok (.invokevirtual 223, 3) := by decide +kernel
theorem dX5_count_81 : decode cX5_count 81 = .ok (.ireturn, 1) := by decide +kernel
theorem dX5_count_82 : decode cX5_count 82 = .ok (.aload_n 0, 1) := by decide +kernel
theorem dX5_count_83 : decode cX5_count 83 = .ok (.getfield 26, 3) := by decide +kernel
theorem dX5_count_86 : decode cX5_count 86 = .ok (.getfield 182, 3) := by decide +kernel
theorem dX5_count_89 : decode cX5_count 89 = .ok (.ireturn, 1) := by decide +kernel
theorem dX5_count_90 : decode cX5_count 90 = .ok (.aload_n 0, 1) := by decide +kernel
theorem dX5_count_91 : decode cX5_count 91 = .ok (.getfield 26, 3) := by decide +kernel
theorem dX5_count_94 : decode cX5_count 94 = .ok (.getfield 125, 3) := by decide +kernel
theorem dX5_count_97 : decode cX5_count 97 = .ok (.invokevirtual 302, 3) := by decide +kernel
theorem dX5_count_100 : decode cX5_count 100 = .ok (.ireturn, 1) := by decide +kernel
theorem dX5_count_101 : decode cX5_count 101 = .ok (.aload_n 0, 1) := by decide +kernel
theorem dX5_count_102 : decode cX5_count 102 = .ok (.getfield 26, 3) := by decide +kernel
theorem dX5_count_105 : decode cX5_count 105 = .ok (.getfield 125, 3) := by decide +kernel
theorem dX5_count_108 : decode cX5_count 108 = .ok (.iconst 1, 1) := by decide +kernel
theorem dX5_count_109 : decode cX5_count 109 = .ok (.invokevirtual 305, 3) := by decide +kernel
theorem dX5_count_112 : decode cX5_count 112 = .ok (.ireturn, 1) := by decide +kernel
theorem dX5_count_113 : decode cX5_count 113 = .ok (.aload_n 0, 1) := by decide +kernel
theorem dX5_count_114 : decode cX5_count 114 = .ok (.getfield 26, 3) := by decide +kernel
theorem dX5_count_117 : decode cX5_count 117 = .ok (.getfield 125, 3) := by decide +kernel
theorem dX5_count_120 : decode cX5_count 120 = .ok (.iconst 2, 1) := by decide +kernel
theorem dX5_count_121 : decode cX5_count 121 = .ok (.invokevirtual 305, 3) := by decide +kernel
theorem dX5_count_124 : decode cX5_count 124 = .ok (.ireturn, 1) := by decide +kernel
theorem dX5_count_125 : decode cX5_count 125 = .ok (.aload_n 0, 1) := by decide +kernel
theorem dX5_count_126 : decode cX5_count 126 = .ok (.getfield 14, 3) := by decide +kernel
theorem dX5_count_129 : decode cX5_count 129 = .ok (.invokevirtual 308, 3) := by decide +kernel
theorem dX5_count_132 : decode cX5_count 132 = .ok (.ireturn, 1) := by decide +kernel
theorem dX5_count_133 : decode cX5_count 133 = .ok (.aload_n 0, 1) := by decide +kernel
theorem dX5_count_134 : decode cX5_count 134 = .ok (.getfield 18, 3) := by decide +kernel
theorem dX5_count_137 : decode cX5_count 137 = .ok (.invokevirtual 308, 3) := by decide +kernel
theorem dX5_count_140 : decode cX5_count 140 = .ok (.ireturn, 1) := by decide +kernel
theorem dX5_count_141 : decode cX5_count 141 = .ok (.aload_n 0, 1) := by decide +kernel
theorem dX5_count_142 : decode cX5_count 142 = .ok (.invokevirtual 311, 3) := by decide +kernel
theorem dX5_count_145 : decode cX5_count 145 = .ok (.ireturn, 1) := by decide +kernel
theorem dX5_finding_0 : decode cX5_finding 0 = .ok (.aload_n 0, 1) := by decide +kernel
theorem dX5_finding_1 : decode cX5_finding 1 = .ok (.getfield 314, 3) := by decide +kernel
theorem dX5_finding_4 : decode cX5_finding 4 = .ok (.ireturn, 1) := by decide +kernel
theorem dX5_findings_0 : decode cX5_findings 0 = .ok (.iload_n 1, 1) := by decide +kernel
theorem dX5_findings_1 : decode cX5_findings 1 = .ok (.iconst 1, 1) := by decide +kernel
theorem dX5_findings_2 : decode cX5_findings 2 = .ok (.if_icmp .lt 8, 3) := by decide +kernel
theorem dX5_findings_5 : decode cX5_findings 5 = .ok (.iload_n 1, 1) := by decide +kernel
theorem dX5_findings_6 : decode cX5_findings 6 = .ok (.iconst 5, 1) := by decide +kernel
theorem dX5_findings_7 : decode cX5_findings 7 = .ok (.if_icmp .le 7, 3) := by decide +kernel
theorem dX5_findings_10 : decode cX5_findings 10 = .ok (.iconst (-1), 1) := by decide +kernel
theorem dX5_findings_11 : decode cX5_findings 11 = .ok (.goto 9, 3) := by decide +kernel
theorem dX5_findings_14 : decode cX5_findings 14 = .ok (.aload_n 0, 1) := by decide +kernel
theorem dX5_findings_15 : decode cX5_findings 15 = .ok (.getfield 55, 3) := by decide +kernel
theorem dX5_findings_18 : decode cX5_findings 18 = .ok (.iload_n 1, 1) := by decide +kernel
theorem dX5_findings_19 : decode cX5_findings 19 = .ok (.iaload, 1) := by decide +kernel
theorem dX5_findings_20 : decode cX5_findings 20 = .ok (.ireturn, 1) := by decide +kernel
theorem dX5_digest_0 : decode cX5_digest 0 = .ok (.ldc2_w 317, 3) := by decide +kernel
theorem dX5_digest_3 : decode cX5_digest 3 = .ok (.lstore_n 1, 1) := by decide +kernel
theorem dX5_digest_4 : decode cX5_digest 4 = .ok (.iconst 0, 1) := by decide +kernel
theorem dX5_digest_5 : decode cX5_digest 5 = .ok (.istore_n 3, 1) := by decide +kernel
theorem dX5_digest_6 : decode cX5_digest 6 = .ok (.iload_n 3, 1) := by decide +kernel
theorem dX5_digest_7 : decode cX5_digest 7 = .ok (.bipush 8, 2) := by decide +kernel
theorem dX5_digest_9 : decode cX5_digest 9 = .ok (.if_icmp .gt 22, 3) := by decide +kernel
theorem dX5_digest_12 : decode cX5_digest 12 = .ok (.ldc2_w 319, 3) := by decide +kernel
theorem dX5_digest_15 : decode cX5_digest 15 = .ok (.lload_n 1, 1) := by decide +kernel
theorem dX5_digest_16 : decode cX5_digest 16 = .ok (.lmul, 1) := by decide +kernel
theorem dX5_digest_17 : decode cX5_digest 17 = .ok (.aload_n 0, 1) := by decide +kernel
theorem dX5_digest_18 : decode cX5_digest 18 = .ok (.iload_n 3, 1) := by decide +kernel
theorem dX5_digest_19 : decode cX5_digest 19 = .ok (.invokevirtual 321, 3) := by decide +kernel
theorem dX5_digest_22 : decode cX5_digest 22 = .ok (.i2l, 1) := by decide +kernel
theorem dX5_digest_23 : decode cX5_digest 23 = .ok (.ladd, 1) := by decide +kernel
theorem dX5_digest_24 : decode cX5_digest 24 = .ok (.lstore_n 1, 1) := by decide +kernel
theorem dX5_digest_25 : decode cX5_digest 25 = .ok (.iinc 3 1, 3) := by decide +kernel
theorem dX5_digest_28 : decode cX5_digest 28 = .ok (.goto (-22), 3) := by decide +kernel
theorem dX5_digest_31 : decode cX5_digest 31 = .ok (.aload_n 0, 1) := by decide +kernel
theorem dX5_digest_32 : decode cX5_digest 32 = .ok (.lload_n 1, 1) := by decide +kernel
theorem dX5_digest_33 : decode cX5_digest 33 = .ok (.invokevirtual 324, 3) := by decide +kernel
theorem dX5_digest_36 : decode cX5_digest 36 = .ok (.lstore_n 1, 1) := by decide +kernel
theorem dX5_digest_37 : decode cX5_digest 37 = .ok (.aload_n 0, 1) := by decide +kernel
theorem dX5_digest_38 : decode cX5_digest 38 = .ok (.getfield 30, 3) := by decide +kernel
theorem dX5_digest_41 : decode cX5_digest 41 = .ok (.astore_n 3, 1) := by decide +kernel
theorem dX5_digest_42 : decode cX5_digest 42 = .ok (.aload_n 3, 1) := by decide +kernel
theorem dX5_digest_43 : decode cX5_digest 43 = .ok (.arraylength, 1) := by decide +kernel
theorem dX5_digest_44 : decode cX5_digest 44 = .ok (.istore 4, 2) := by decide +kernel
theorem dX5_digest_46 : decode cX5_digest 46 = .ok (.iconst 0, 1) := by decide +kernel
theorem dX5_digest_47 : decode cX5_digest 47 = .ok (.istore 5, 2) := by decide +kernel
theorem dX5_digest_49 : decode cX5_digest 49 = .ok (.iload 5, 2) := by decide +kernel
theorem dX5_digest_51 : decode cX5_digest 51 = .ok (.iload 4, 2) := by decide +kernel
theorem dX5_digest_53 : decode cX5_digest 53 = .ok (.if_icmp .ge 28, 3) := by decide +kernel
theorem dX5_digest_56 : decode cX5_digest 56 = .ok (.aload_n 3, 1) := by decide +kernel
theorem dX5_digest_57 : decode cX5_digest 57 = .ok (.iload 5, 2) := by decide +kernel
theorem dX5_digest_59 : decode cX5_digest 59 = .ok (.aaload, 1) := by decide +kernel
theorem dX5_digest_60 : decode cX5_digest 60 = .ok (.astore 6, 2) := by decide +kernel
theorem dX5_digest_62 : decode cX5_digest 62 = .ok (.ldc2_w 319, 3) := by decide +kernel
theorem dX5_digest_65 : decode cX5_digest 65 = .ok (.lload_n 1, 1) := by decide +kernel
theorem dX5_digest_66 : decode cX5_digest 66 = .ok (.lmul, 1) := by decide +kernel
theorem dX5_digest_67 : decode cX5_digest 67 = .ok (.aload 6, 2) := by decide +kernel
theorem dX5_digest_69 : decode cX5_digest 69 = .ok (.getfield 182, 3) := by decide +kernel
theorem dX5_digest_72 : decode cX5_digest 72 = .ok (.i2l, 1) := by decide +kernel
theorem dX5_digest_73 : decode cX5_digest 73 = .ok (.ladd, 1) := by decide +kernel
theorem dX5_digest_74 : decode cX5_digest 74 = .ok (.lstore_n 1, 1) := by decide +kernel
theorem dX5_digest_75 : decode cX5_digest 75 = .ok (.iinc 5 1, 3) := by decide +kernel
theorem dX5_digest_78 : decode cX5_digest 78 = .ok (.goto (-29), 3) := by decide +kernel
theorem dX5_digest_81 : decode cX5_digest 81 = .ok (.aload_n 0, 1) := by decide +kernel
theorem dX5_digest_82 : decode cX5_digest 82 = .ok (.getfield 14, 3) := by decide +kernel
theorem dX5_digest_85 : decode cX5_digest 85 = .ok (.lload_n 1, 1) := by decide +kernel
theorem dX5_digest_86 : decode cX5_digest 86 = .ok (.invokevirtual 328, 3) := by decide +kernel
theorem dX5_digest_89 : decode cX5_digest 89 = .ok (.lstore_n 1, 1) := by decide +kernel
theorem dX5_digest_90 : decode cX5_digest 90 = .ok (.aload_n 0, 1) := by decide +kernel
theorem dX5_digest_91 : decode cX5_digest 91 = .ok (.getfield 18, 3) := by decide +kernel
theorem dX5_digest_94 : decode cX5_digest 94 = .ok (.lload_n 1, 1) := by decide +kernel
theorem dX5_digest_95 : decode cX5_digest 95 = .ok (.invokevirtual 328, 3) := by decide +kernel
theorem dX5_digest_98 : decode cX5_digest 98 = .ok (.lreturn, 1) := by decide +kernel
theorem dX5_found_0 : decode cX5_found 0 = .ok (.aload_n 0, 1) := by decide +kernel
theorem dX5_found_1 : decode cX5_found 1 = .ok (.iload_n 1, 1) := by decide +kernel
theorem dX5_found_2 : decode cX5_found 2 = .ok (.putfield 314, 3) := by decide +kernel
theorem dX5_found_5 : decode cX5_found 5 = .ok (.iload_n 1, 1) := by decide +kernel
theorem dX5_found_6 : decode cX5_found 6 = .ok (.ifCond .lt 22, 3) := by decide +kernel
theorem dX5_found_9 : decode cX5_found 9 = .ok (.iload_n 1, 1) := by decide +kernel
theorem dX5_found_10 : decode cX5_found 10 = .ok (.aload_n 0, 1) := by decide +kernel
theorem dX5_found_11 : decode cX5_found 11 = .ok (.getfield 55, 3) := by decide +kernel
theorem dX5_found_14 : decode cX5_found 14 = .ok (.arraylength, 1) := by decide +kernel
theorem dX5_found_15 : decode cX5_found 15 = .ok (.if_icmp .ge 13, 3) := by decide +kernel
theorem dX5_found_18 : decode cX5_found 18 = .ok (.aload_n 0, 1) := by decide +kernel
theorem dX5_found_19 : decode cX5_found 19 = .ok (.getfield 55, 3) := by decide +kernel
theorem dX5_found_22 : decode cX5_found 22 = .ok (.iload_n 1, 1) := by decide +kernel
theorem dX5_found_23 : decode cX5_found 23 = .ok (.dup2, 1) := by decide +kernel
theorem dX5_found_24 : decode cX5_found 24 = .ok (.iaload, 1) := by decide +kernel
theorem dX5_found_25 : decode cX5_found 25 = .ok (.iconst 1, 1) := by decide +kernel
theorem dX5_found_26 : decode cX5_found 26 = .ok (.iadd, 1) := by decide +kernel
theorem dX5_found_27 : decode cX5_found 27 = .ok (.iastore, 1) := by decide +kernel
theorem dX5_found_28 : decode cX5_found 28 = .ok (.bipush (-3), 2) := by decide +kernel
theorem dX5_found_30 : decode cX5_found 30 = .ok (.ireturn, 1) := by decide +kernel
theorem dX5_isNoPlace_0 : decode cX5_isNoPlace 0 = .ok (.aload_n 0, 1) := by decide +kernel
theorem dX5_isNoPlace_1 : decode cX5_isNoPlace 1 = .ok (.getfield 26, 3) := by decide +kernel
theorem dX5_isNoPlace_4 : decode cX5_isNoPlace 4 = .ok (.getfield 125, 3) := by decide +kernel
theorem dX5_isNoPlace_7 : decode cX5_isNoPlace 7 = .ok (.iload_n 1, 1) := by decide +kernel
theorem dX5_isNoPlace_8 : decode cX5_isNoPlace 8 = .ok (.invokevirtual 128, 3) := by decide +kernel
theorem dX5_isNoPlace_11 : decode cX5_isNoPlace 11 = .ok (.ifCond .eq 7, 3) := by decide +kernel
theorem dX5_isNoPlace_14 : decode cX5_isNoPlace 14 = .ok (.iload_n 2, 1) := by decide +kernel
theorem dX5_isNoPlace_15 : decode cX5_isNoPlace 15 = .ok (.ifCond .ge 7, 3) := by decide +kernel
theorem dX5_isNoPlace_18 : decode cX5_isNoPlace 18 = .ok (.iconst 1, 1) := by decide +kernel
theorem dX5_isNoPlace_19 : decode cX5_isNoPlace 19 = .ok (.goto 4, 3) := by decide +kernel
theorem dX5_isNoPlace_22 : decode cX5_isNoPlace 22 = .ok (.iconst 0, 1) := by decide +kernel
theorem dX5_isNoPlace_23 : decode cX5_isNoPlace 23 = .ok (.ireturn, 1) := by decide +kernel
theorem dX5_isKind_0 : decode cX5_isKind 0 = .ok (.iload_n 0, 1) := by decide +kernel
theorem dX5_isKind_1 : decode cX5_isKind 1 = .ok (.ifCond .lt 13, 3) := by decide +kernel
theorem dX5_isKind_4 : decode cX5_isKind 4 = .ok (.iload_n 0, 1) := by decide +kernel
theorem dX5_isKind_5 : decode cX5_isKind 5 = .ok (.bipush 6, 2) := by decide +kernel
theorem dX5_isKind_7 : decode cX5_isKind 7 = .ok (.if_icmp .ge 7, 3) := by decide +kernel
theorem dX5_isKind_10 : decode cX5_isKind 10 = .ok (.iconst 1, 1) := by decide +kernel
theorem dX5_isKind_11 : decode cX5_isKind 11 = .ok (.goto 4, 3) := by decide +kernel
theorem dX5_isKind_14 : decode cX5_isKind 14 = .ok (.iconst 0, 1) := by decide +kernel
theorem dX5_isKind_15 : decode cX5_isKind 15 = .ok (.ireturn, 1) := by decide +kernel
theorem dX5_isBorne_0 : decode cX5_isBorne 0 = .ok (.iload_n 0, 1) := by decide +kernel
theorem dX5_isBorne_1 : decode cX5_isBorne 1 = .ok (.ifCond .lt 13, 3) := by decide +kernel
theorem dX5_isBorne_4 : decode cX5_isBorne 4 = .ok (.iload_n 0, 1) := by decide +kernel
theorem dX5_isBorne_5 : decode cX5_isBorne 5 = .ok (.bipush 9, 2) := by decide +kernel
theorem dX5_isBorne_7 : decode cX5_isBorne 7 = .ok (.if_icmp .gt 7, 3) := by decide +kernel
theorem dX5_isBorne_10 : decode cX5_isBorne 10 = .ok (.iconst 1, 1) := by decide +kernel
theorem dX5_isBorne_11 : decode cX5_isBorne 11 = .ok (.goto 4, 3) := by decide +kernel
theorem dX5_isBorne_14 : decode cX5_isBorne 14 = .ok (.iconst 0, 1) := by decide +kernel
theorem dX5_isBorne_15 : decode cX5_isBorne 15 = .ok (.ireturn, 1) := by decide +kernel
theorem dX5_isOf_0 : decode cX5_isOf 0 = .ok (.iload_n 0, 1) := by decide +kernel
theorem dX5_isOf_1 : decode cX5_isOf 1 = .ok (.iload_n 1, 1) := by decide +kernel
theorem dX5_isOf_2 : decode cX5_isOf 2 = .ok (.if_icmp .eq 23, 3) := by decide +kernel
theorem dX5_isOf_5 : decode cX5_isOf 5 = .ok (.iload_n 0, 1) := by decide +kernel
theorem dX5_isOf_6 : decode cX5_isOf 6 = .ok (.iconst 4, 1) := by decide +kernel
theorem dX5_isOf_7 : decode cX5_isOf 7 = .ok (.if_icmp .ne 8, 3) := by decide +kernel
theorem dX5_isOf_10 : decode cX5_isOf 10 = .ok (.iload_n 1, 1) := by decide +kernel
theorem dX5_isOf_11 : decode cX5_isOf 11 = .ok (.iconst 1, 1) := by decide +kernel
theorem dX5_isOf_12 : decode cX5_isOf 12 = .ok (.if_icmp .eq 13, 3) := by decide +kernel
theorem dX5_isOf_15 : decode cX5_isOf 15 = .ok (.iload_n 0, 1) := by decide +kernel
theorem dX5_isOf_16 : decode cX5_isOf 16 = .ok (.iconst 5, 1) := by decide +kernel
theorem dX5_isOf_17 : decode cX5_isOf 17 = .ok (.if_icmp .ne 12, 3) := by decide +kernel
theorem dX5_isOf_20 : decode cX5_isOf 20 = .ok (.iload_n 1, 1) := by decide +kernel
theorem dX5_isOf_21 : decode cX5_isOf 21 = .ok (.iconst 2, 1) := by decide +kernel
theorem dX5_isOf_22 : decode cX5_isOf 22 = .ok (.if_icmp .ne 7, 3) := by decide +kernel
theorem dX5_isOf_25 : decode cX5_isOf 25 = .ok (.iconst 1, 1) := by decide +kernel
theorem dX5_isOf_26 : decode cX5_isOf 26 = .ok (.goto 4, 3) := by decide +kernel
theorem dX5_isOf_29 : decode cX5_isOf 29 = .ok (.iconst 0, 1) := by decide +kernel
theorem dX5_isOf_30 : decode cX5_isOf 30 = .ok (.ireturn, 1) := by decide +kernel
theorem dX5_kindOfLetter_0 : decode cX5_kindOfLetter 0 = .ok (.iconst 0, 1) := by decide +kernel
theorem dX5_kindOfLetter_1 : decode cX5_kindOfLetter 1 = .ok (.istore_n 1, 1) := by decide +kernel
theorem dX5_kindOfLetter_2 : decode cX5_kindOfLetter 2 = .ok (.iload_n 1, 1) := by decide +kernel
theorem dX5_kindOfLetter_3 : decode cX5_kindOfLetter 3 = .ok (.getstatic 331, 3) := by decide +kernel
theorem dX5_kindOfLetter_6 : decode cX5_kindOfLetter 6 = .ok (.arraylength, 1) := by decide +kernel
theorem dX5_kindOfLetter_7 : decode cX5_kindOfLetter 7 = .ok (.if_icmp .ge 20, 3) := by decide +kernel
theorem dX5_kindOfLetter_10 : decode cX5_kindOfLetter 10 = .ok (.getstatic 331, 3) := by decide +kernel
theorem dX5_kindOfLetter_13 : decode cX5_kindOfLetter 13 = .ok (.iload_n 1, 1) := by decide +kernel
theorem dX5_kindOfLetter_14 : decode cX5_kindOfLetter 14 = .ok (.iaload, 1) := by decide +kernel
theorem dX5_kindOfLetter_15 : decode cX5_kindOfLetter 15 = .ok (.iload_n 0, 1) := by decide +kernel
theorem dX5_kindOfLetter_16 : decode cX5_kindOfLetter 16 = .ok (.if_icmp .ne 5, 3) := by decide +kernel
theorem dX5_kindOfLetter_19 : decode cX5_kindOfLetter 19 = .ok (.iload_n 1, 1) := by decide +kernel
theorem dX5_kindOfLetter_20 : decode cX5_kindOfLetter 20 = .ok (.ireturn, 1) := by decide +kernel
theorem dX5_kindOfLetter_21 : decode cX5_kindOfLetter 21 = .ok (.iinc 1 1, 3) := by decide +kernel
theorem dX5_kindOfLetter_24 : decode cX5_kindOfLetter 24 = .ok (.goto (-22), 3) := by decide +kernel
theorem dX5_kindOfLetter_27 : decode cX5_kindOfLetter 27 = .ok (.iconst (-1), 1) := by decide +kernel
theorem dX5_kindOfLetter_28 : decode cX5_kindOfLetter 28 = .ok (.ireturn, 1) := by decide +kernel
theorem dX5_readAside_0 : decode cX5_readAside 0 = .ok (.aload_n 0, 1) := by decide +kernel
theorem dX5_readAside_1 : decode cX5_readAside 1 = .ok (.getfield 18, 3) := by decide +kernel
theorem dX5_readAside_4 : decode cX5_readAside 4 = .ok (.iload_n 1, 1) := by decide +kernel
theorem dX5_readAside_5 : decode cX5_readAside 5 = .ok (.invokevirtual 104, 3) := by decide +kernel
theorem dX5_readAside_8 : decode cX5_readAside 8 = .ok (.istore_n 2, 1) := by decide +kernel
theorem dX5_readAside_9 : decode cX5_readAside 9 = .ok (.aload_n 0, 1) := by decide +kernel
theorem dX5_readAside_10 : decode cX5_readAside 10 = .ok (.getfield 37, 3) := by decide +kernel
theorem dX5_readAside_13 : decode cX5_readAside 13 = .ok (.invokevirtual 334, 3) := by decide +kernel
theorem dX5_readAside_16 : decode cX5_readAside 16 = .ok (.iconst 0, 1) := by decide +kernel
theorem dX5_readAside_17 : decode cX5_readAside 17 = .ok (.istore_n 3, 1) := by decide +kernel
theorem dX5_readAside_18 : decode cX5_readAside 18 = .ok (.iload_n 3, 1) := by decide +kernel
theorem dX5_readAside_19 : decode cX5_readAside 19 = .ok (.iload_n 2, 1) := by decide +kernel
theorem dX5_readAside_20 : decode cX5_readAside 20 = .ok (.if_icmp .ge 146, 3) := by decide +kernel
theorem dX5_readAside_23 : decode cX5_readAside 23 = .ok (.aload_n 0, 1) := by decide +kernel
theorem dX5_readAside_24 : decode cX5_readAside 24 = .ok (.getfield 18, 3) := by decide +kernel
theorem dX5_readAside_27 : decode cX5_readAside 27 = .ok (.iload_n 1, 1) := by decide +kernel
theorem dX5_readAside_28 : decode cX5_readAside 28 = .ok (.iload_n 3, 1) := by decide +kernel
theorem dX5_readAside_29 : decode cX5_readAside 29 = .ok (.invokevirtual 82, 3) := by decide +kernel
theorem dX5_readAside_32 : decode cX5_readAside 32 = .ok (.istore 4, 2) := by decide +kernel
theorem dX5_readAside_34 : decode cX5_readAside 34 = .ok (.iload 4, 2) := by decide +kernel
theorem dX5_readAside_36 : decode cX5_readAside 36 = .ok (.bipush 114, 2) := by decide +kernel
theorem dX5_readAside_38 : decode cX5_readAside 38 = .ok (.if_icmp .ne 15, 3) := by decide +kernel
theorem dX5_readAside_41 : decode cX5_readAside 41 = .ok (.aload_n 0, 1) := by decide +kernel
theorem dX5_readAside_42 : decode cX5_readAside 42 = .ok (.getfield 37, 3) := by decide +kernel
theorem dX5_readAside_45 : decode cX5_readAside 45 = .ok (.invokevirtual 335, 3) := by decide +kernel
theorem dX5_readAside_48 : decode cX5_readAside 48 = .ok (.ifCond .ne 5, 3) := by decide +kernel
theorem dX5_readAside_51 : decode cX5_readAside 51 = .ok (.iload_n 3, 1) := by decide +kernel
theorem dX5_readAside_52 : decode cX5_readAside 52 = .ok (.ireturn, 1) := by decide +kernel
theorem dX5_readAside_53 : decode cX5_readAside 53 = .ok (.iload 4, 2) := by decide +kernel
theorem dX5_readAside_55 : decode cX5_readAside 55 = .ok (.bipush 114, 2) := by decide +kernel
theorem dX5_readAside_57 : decode cX5_readAside 57 = .ok (.if_icmp .eq 10, 3) := by decide +kernel
theorem dX5_readAside_60 : decode cX5_readAside 60 = .ok (.iload 4, 2) := by decide +kernel
theorem dX5_readAside_62 : decode cX5_readAside 62 = .ok (.bipush 32, 2) := by decide +kernel
theorem dX5_readAside_64 : decode cX5_readAside 64 = .ok (.if_icmp .ne 9, 3) := by decide +kernel
theorem dX5_readAside_67 : decode cX5_readAside 67 = .ok (.iinc 3 1, 3) := by decide +kernel
theorem dX5_readAside_70 : decode cX5_readAside 70 = .ok (.goto (-52), 3) := by decide +kernel
theorem dX5_readAside_73 : decode cX5_readAside 73 = .ok (.aload_n 0, 1) := by decide +kernel
theorem dX5_readAside_74 : decode cX5_readAside 74 = .ok (.getfield 37, 3) := by decide +kernel
theorem dX5_readAside_77 : decode cX5_readAside 77 = .ok (.invokevirtual 121, 3) := by decide +kernel
theorem dX5_readAside_80 : decode cX5_readAside 80 = .ok (.iconst 1, 1) := by decide +kernel
theorem dX5_readAside_81 : decode cX5_readAside 81 = .ok (.isub, 1) := by decide +kernel
theorem dX5_readAside_82 : decode cX5_readAside 82 = .ok (.istore 5, 2) := by decide +kernel
theorem dX5_readAside_84 : decode cX5_readAside 84 = .ok (.iload 4, 2) := by decide +kernel
theorem dX5_readAside_86 : decode cX5_readAside 86 = .ok (.invokestatic 338, 3) := by decide +kernel
theorem dX5_readAside_89 : decode cX5_readAside 89 = .ok (.istore 6, 2) := by decide +kernel
theorem dX5_readAside_91 : decode cX5_readAside 91 = .ok (.iload 6, 2) := by decide +kernel
theorem dX5_readAside_93 : decode cX5_readAside 93 = .ok (.iconst (-1), 1) := by decide +kernel
theorem dX5_readAside_94 : decode cX5_readAside 94 = .ok (.if_icmp .eq 15, 3) := by decide +kernel
theorem dX5_readAside_97 : decode cX5_readAside 97 = .ok (.aload_n 0, 1) := by decide +kernel
theorem dX5_readAside_98 : decode cX5_readAside 98 = .ok (.getfield 37, 3) := by decide +kernel
theorem dX5_readAside_101 : decode cX5_readAside 101 = .ok (.iload 5, 2) := by decide +kernel
theorem dX5_readAside_103 : decode cX5_readAside 103 = .ok (.invokevirtual 167, 3) := by decide +kernel
theorem dX5_readAside_106 : decode cX5_readAside 106 = .ok (.ifCond .ne 5, 3) := by decide +kernel
theorem dX5_readAside_109 : decode cX5_readAside 109 = .ok (.iload_n 3, 1) := by decide +kernel
theorem dX5_readAside_110 : decode cX5_readAside 110 = .ok (.ireturn, 1) := by decide +kernel
theorem dX5_readAside_111 : decode cX5_readAside 111 = .ok (.aload_n 0, 1) := by decide +kernel
theorem dX5_readAside_112 : decode cX5_readAside 112 = .ok (.getfield 18, 3) := by decide +kernel
theorem dX5_readAside_115 : decode cX5_readAside 115 = .ok (.iload_n 1, 1) := by decide +kernel
theorem dX5_readAside_116 : decode cX5_readAside 116 = .ok (.iload_n 3, 1) := by decide +kernel
theorem dX5_readAside_117 : decode cX5_readAside 117 = .ok (.iconst 1, 1) := by decide +kernel
theorem dX5_readAside_118 : decode cX5_readAside 118 = .ok (.iadd, 1) := by decide +kernel
theorem dX5_readAside_119 : decode cX5_readAside 119 = .ok (.invokevirtual 82, 3) := by decide +kernel
theorem dX5_readAside_122 : decode cX5_readAside 122 = .ok (.bipush 48, 2) := by decide +kernel
theorem dX5_readAside_124 : decode cX5_readAside 124 = .ok (.isub, 1) := by decide +kernel
theorem dX5_readAside_125 : decode cX5_readAside 125 = .ok (.istore 7, 2) := by decide +kernel
theorem dX5_readAside_127 : decode cX5_readAside 127 = .ok (.iload_n 3, 1) := by decide +kernel
theorem dX5_readAside_128 : decode cX5_readAside 128 = .ok (.iconst 1, 1) := by decide +kernel
theorem dX5_readAside_129 : decode cX5_readAside 129 = .ok (.iadd, 1) := by decide +kernel
theorem dX5_readAside_130 : decode cX5_readAside 130 = .ok (.iload_n 2, 1) := by decide +kernel
theorem dX5_readAside_131 : decode cX5_readAside 131 = .ok (.if_icmp .ge 11, 3) := by decide +kernel
theorem dX5_readAside_134 : decode cX5_readAside 134 = .ok (.iload 7, 2) := by decide +kernel
theorem dX5_readAside_136 : decode cX5_readAside 136 = .ok (.invokestatic 157, 3) := by decide +kernel
theorem dX5_readAside_139 : decode cX5_readAside 139 = .ok (.ifCond .ne 7, 3) := by decide +kernel
theorem dX5_readAside_142 : decode cX5_readAside 142 = .ok (.iload_n 3, 1) := by decide +kernel
theorem dX5_readAside_143 : decode cX5_readAside 143 = .ok (.iconst 1, 1) := by decide +kernel
theorem dX5_readAside_144 : decode cX5_readAside 144 = .ok (.iadd, 1) := by decide +kernel
theorem dX5_readAside_145 : decode cX5_readAside 145 = .ok (.ireturn, 1) := by decide +kernel
theorem dX5_readAside_146 : decode cX5_readAside 146 = .ok (.aload_n 0, 1) := by decide +kernel
theorem dX5_readAside_147 : decode cX5_readAside 147 = .ok (.getfield 37, 3) := by decide +kernel
theorem dX5_readAside_150 : decode cX5_readAside 150 = .ok (.iload 5, 2) := by decide +kernel
theorem dX5_readAside_152 : decode cX5_readAside 152 = .ok (.iload 6, 2) := by decide +kernel
theorem dX5_readAside_154 : decode cX5_readAside 154 = .ok (.iload 7, 2) := by decide +kernel
theorem dX5_readAside_156 : decode cX5_readAside 156 = .ok (.invokevirtual 176, 3) := by decide +kernel
theorem dX5_readAside_159 : decode cX5_readAside 159 = .ok (.pop, 1) := by decide +kernel
theorem dX5_readAside_160 : decode cX5_readAside 160 = .ok (.iinc 3 2, 3) := by decide +kernel
theorem dX5_readAside_163 : decode cX5_readAside 163 = .ok (.goto (-145), 3) := by decide +kernel
theorem dX5_readAside_166 : decode cX5_readAside 166 = .ok (.aload_n 0, 1) := by decide +kernel
theorem dX5_readAside_167 : decode cX5_readAside 167 = .ok (.getfield 37, 3) := by decide +kernel
theorem dX5_readAside_170 : decode cX5_readAside 170 = .ok (.invokevirtual 121, 3) := by decide +kernel
theorem dX5_readAside_173 : decode cX5_readAside 173 = .ok (.ifCond .ne 7, 3) := by decide +kernel
theorem dX5_readAside_176 : decode cX5_readAside 176 = .ok (.iload_n 2, 1) := by decide +kernel
theorem dX5_readAside_177 : decode cX5_readAside 177 = .ok (.goto 5, 3) := by decide +kernel
theorem dX5_readAside_180 : decode cX5_readAside 180 = .ok (.bipush (-9), 2) := by decide +kernel
theorem dX5_readAside_182 : decode cX5_readAside 182 = .ok (.ireturn, 1) := by decide +kernel
theorem dX5_toldOf_0 : decode cX5_toldOf 0 = .ok (.aload_n 0, 1) := by decide +kernel
theorem dX5_toldOf_1 : decode cX5_toldOf 1 = .ok (.getfield 26, 3) := by decide +kernel
theorem dX5_toldOf_4 : decode cX5_toldOf 4 = .ok (.getfield 125, 3) := by decide +kernel
theorem dX5_toldOf_7 : decode cX5_toldOf 7 = .ok (.iload_n 1, 1) := by decide +kernel
theorem dX5_toldOf_8 : decode cX5_toldOf 8 = .ok (.iload_n 2, 1) := by decide +kernel
theorem dX5_toldOf_9 : decode cX5_toldOf 9 = .ok (.invokevirtual 232, 3) := by decide +kernel
theorem dX5_toldOf_12 : decode cX5_toldOf 12 = .ok (.istore 4, 2) := by decide +kernel
theorem dX5_toldOf_14 : decode cX5_toldOf 14 = .ok (.iload_n 3, 1) := by decide +kernel
theorem dX5_toldOf_15 : decode cX5_toldOf 15 = .ok (.tableswitch 99 0 5 #[37, 40, 53, 66, 79, 89], 37) := by decide +kernel
theorem dX5_toldOf_52 : decode cX5_toldOf 52 = .ok (.iload 4, 2) := by decide +kernel
theorem dX5_toldOf_54 : decode cX5_toldOf 54 = .ok (.ireturn, 1) := by decide +kernel
theorem dX5_toldOf_55 : decode cX5_toldOf 55 = .ok (.aload_n 0, 1) := by decide +kernel
theorem dX5_toldOf_56 : decode cX5_toldOf 56 = .ok (.getfield 26, 3) := by decide +kernel
theorem dX5_toldOf_59 : decode cX5_toldOf 59 = .ok (.getfield 125, 3) := by decide +kernel
theorem dX5_toldOf_62 : decode cX5_toldOf 62 = .ok (.iload_n 1, 1) := by decide +kernel
theorem dX5_toldOf_63 : decode cX5_toldOf 63 = .ok (.iload_n 2, 1) := by decide +kernel
theorem dX5_toldOf_64 : decode cX5_toldOf 64 = .ok (.invokevirtual 148, 3) := by decide +kernel
theorem dX5_toldOf_67 : decode cX5_toldOf 67 = .ok (.ireturn, 1) := by decide +kernel
theorem dX5_toldOf_68 : decode cX5_toldOf 68 = .ok (.aload_n 0, 1) := by decide +kernel
theorem dX5_toldOf_69 : decode cX5_toldOf 69 = .ok (.getfield 26, 3) := by decide +kernel
theorem dX5_toldOf_72 : decode cX5_toldOf 72 = .ok (.getfield 125, 3) := by decide +kernel
theorem dX5_toldOf_75 : decode cX5_toldOf 75 = .ok (.iload_n 1, 1) := by decide +kernel
theorem dX5_toldOf_76 : decode cX5_toldOf 76 = .ok (.iload_n 2, 1) := by decide +kernel
theorem dX5_toldOf_77 : decode cX5_toldOf 77 = .ok (.invokevirtual 160, 3) := by decide +kernel
theorem dX5_toldOf_80 : decode cX5_toldOf 80 = .ok (.ireturn, 1) := by decide +kernel
theorem dX5_toldOf_81 : decode cX5_toldOf 81 = .ok (.aload_n 0, 1) := by decide +kernel
theorem dX5_toldOf_82 : decode cX5_toldOf 82 = .ok (.getfield 26, 3) := by decide +kernel
theorem dX5_toldOf_85 : decode cX5_toldOf 85 = .ok (.getfield 125, 3) := by decide +kernel
theorem dX5_toldOf_88 : decode cX5_toldOf 88 = .ok (.iload_n 1, 1) := by decide +kernel
theorem dX5_toldOf_89 : decode cX5_toldOf 89 = .ok (.iload_n 2, 1) := by decide +kernel
theorem dX5_toldOf_90 : decode cX5_toldOf 90 = .ok (.invokevirtual 341, 3) := by decide +kernel
theorem dX5_toldOf_93 : decode cX5_toldOf 93 = .ok (.ireturn, 1) := by decide +kernel
theorem dX5_toldOf_94 : decode cX5_toldOf 94 = .ok (.aload_n 0, 1) := by decide +kernel
theorem dX5_toldOf_95 : decode cX5_toldOf 95 = .ok (.getfield 44, 3) := by decide +kernel
theorem dX5_toldOf_98 : decode cX5_toldOf 98 = .ok (.iload 4, 2) := by decide +kernel
theorem dX5_toldOf_100 : decode cX5_toldOf 100 = .ok (.invokevirtual 256, 3) := by decide +kernel
theorem dX5_toldOf_103 : decode cX5_toldOf 103 = .ok (.ireturn, 1) := by decide +kernel
theorem dX5_toldOf_104 : decode cX5_toldOf 104 = .ok (.aload_n 0, 1) := by decide +kernel
theorem dX5_toldOf_105 : decode cX5_toldOf 105 = .ok (.getfield 44, 3) := by decide +kernel
theorem dX5_toldOf_108 : decode cX5_toldOf 108 = .ok (.iload 4, 2) := by decide +kernel
theorem dX5_toldOf_110 : decode cX5_toldOf 110 = .ok (.invokevirtual 226, 3) := by decide +kernel
theorem dX5_toldOf_113 : decode cX5_toldOf 113 = .ok (.ireturn, 1) := by decide +kernel
theorem dX5_toldOf_114 : decode cX5_toldOf 114 = .ok (.aload_n 0, 1) := by decide +kernel
theorem dX5_toldOf_115 : decode cX5_toldOf 115 = .ok (.getfield 44, 3) := by decide +kernel
theorem dX5_toldOf_118 : decode cX5_toldOf 118 = .ok (.iload 4, 2) := by decide +kernel
theorem dX5_toldOf_120 : decode cX5_toldOf 120 = .ok (.invokevirtual 344, 3) := by decide +kernel
theorem dX5_toldOf_123 : decode cX5_toldOf 123 = .ok (.ireturn, 1) := by decide +kernel
theorem dX5_markOf_0 : decode cX5_markOf 0 = .ok (.iload_n 3, 1) := by decide +kernel
theorem dX5_markOf_1 : decode cX5_markOf 1 = .ok (.tableswitch 108 1 4 #[31, 38, 58, 92], 31) := by decide +kernel
theorem dX5_markOf_32 : decode cX5_markOf 32 = .ok (.aload_n 0, 1) := by decide +kernel
theorem dX5_markOf_33 : decode cX5_markOf 33 = .ok (.iload_n 1, 1) := by decide +kernel
theorem dX5_markOf_34 : decode cX5_markOf 34 = .ok (.iload_n 2, 1) := by decide +kernel
theorem dX5_markOf_35 : decode cX5_markOf 35 = .ok (.invokevirtual 347, 3) := by decide +kernel
theorem dX5_markOf_38 : decode cX5_markOf 38 = .ok (.ireturn, 1) := by decide +kernel
theorem dX5_markOf_39 : decode cX5_markOf 39 = .ok (.aload_n 0, 1) := by decide +kernel
theorem dX5_markOf_40 : decode cX5_markOf 40 = .ok (.getfield 26, 3) := by decide +kernel
theorem dX5_markOf_43 : decode cX5_markOf 43 = .ok (.getfield 125, 3) := by decide +kernel
theorem dX5_markOf_46 : decode cX5_markOf 46 = .ok (.iload_n 1, 1) := by decide +kernel
theorem dX5_markOf_47 : decode cX5_markOf 47 = .ok (.iconst 1, 1) := by decide +kernel
theorem dX5_markOf_48 : decode cX5_markOf 48 = .ok (.iadd, 1) := by decide +kernel
theorem dX5_markOf_49 : decode cX5_markOf 49 = .ok (.invokevirtual 131, 3) := by decide +kernel
theorem dX5_markOf_52 : decode cX5_markOf 52 = .ok (.iload_n 2, 1) := by decide +kernel
theorem dX5_markOf_53 : decode cX5_markOf 53 = .ok (.iconst 1, 1) := by decide +kernel
theorem dX5_markOf_54 : decode cX5_markOf 54 = .ok (.iadd, 1) := by decide +kernel
theorem dX5_markOf_55 : decode cX5_markOf 55 = .ok (.invokestatic 350, 3) := by decide +kernel
theorem dX5_markOf_58 : decode cX5_markOf 58 = .ok (.ireturn, 1) := by decide +kernel
theorem dX5_markOf_59 : decode cX5_markOf 59 = .ok (.aload_n 0, 1) := by decide +kernel
theorem dX5_markOf_60 : decode cX5_markOf 60 = .ok (.getfield 44, 3) := by decide +kernel
theorem dX5_markOf_63 : decode cX5_markOf 63 = .ok (.aload_n 0, 1) := by decide +kernel
theorem dX5_markOf_64 : decode cX5_markOf 64 = .ok (.getfield 26, 3) := by decide +kernel
theorem dX5_markOf_67 : decode cX5_markOf 67 = .ok (.getfield 125, 3) := by decide +kernel
theorem dX5_markOf_70 : decode cX5_markOf 70 = .ok (.invokevirtual 138, 3) := by decide +kernel
theorem dX5_markOf_73 : decode cX5_markOf 73 = .ok (.aload_n 0, 1) := by decide +kernel
theorem dX5_markOf_74 : decode cX5_markOf 74 = .ok (.getfield 44, 3) := by decide +kernel
theorem dX5_markOf_77 : decode cX5_markOf 77 = .ok (.aload_n 0, 1) := by decide +kernel
theorem dX5_markOf_78 : decode cX5_markOf 78 = .ok (.getfield 26, 3) := by decide +kernel
theorem dX5_markOf_81 : decode cX5_markOf 81 = .ok (.getfield 125, 3) := by decide +kernel
theorem dX5_markOf_84 : decode cX5_markOf 84 = .ok (.iload_n 1, 1) := by decide +kernel
theorem dX5_markOf_85 : decode cX5_markOf 85 = .ok (.iload_n 2, 1) := by decide +kernel
theorem dX5_markOf_86 : decode cX5_markOf 86 = .ok (.invokevirtual 232, 3) := by decide +kernel
theorem dX5_markOf_89 : decode cX5_markOf 89 = .ok (.invokevirtual 344, 3) := by decide +kernel
theorem dX5_markOf_92 : decode cX5_markOf 92 = .ok (.ireturn, 1) := by decide +kernel
theorem dX5_markOf_93 : decode cX5_markOf 93 = .ok (.aload_n 0, 1) := by decide +kernel
theorem dX5_markOf_94 : decode cX5_markOf 94 = .ok (.getfield 26, 3) := by decide +kernel
theorem dX5_markOf_97 : decode cX5_markOf 97 = .ok (.getfield 125, 3) := by decide +kernel
theorem dX5_markOf_100 : decode cX5_markOf 100 = .ok (.iload_n 1, 1) := by decide +kernel
theorem dX5_markOf_101 : decode cX5_markOf 101 = .ok (.invokevirtual 131, 3) := by decide +kernel
theorem dX5_markOf_104 : decode cX5_markOf 104 = .ok (.iconst 1, 1) := by decide +kernel
theorem dX5_markOf_105 : decode cX5_markOf 105 = .ok (.isub, 1) := by decide +kernel
theorem dX5_markOf_106 : decode cX5_markOf 106 = .ok (.iload_n 2, 1) := by decide +kernel
theorem dX5_markOf_107 : decode cX5_markOf 107 = .ok (.isub, 1) := by decide +kernel
theorem dX5_markOf_108 : decode cX5_markOf 108 = .ok (.ireturn, 1) := by decide +kernel
theorem dX5_markOf_109 : decode cX5_markOf 109 = .ok (.aload_n 0, 1) := by decide +kernel
theorem dX5_markOf_110 : decode cX5_markOf 110 = .ok (.iload_n 1, 1) := by decide +kernel
theorem dX5_markOf_111 : decode cX5_markOf 111 = .ok (.iload_n 2, 1) := by decide +kernel
theorem dX5_markOf_112 : decode cX5_markOf 112 = .ok (.invokevirtual 355, 3) := by decide +kernel
theorem dX5_markOf_115 : decode cX5_markOf 115 = .ok (.ireturn, 1) := by decide +kernel
theorem dX5_hoursTakenIfHouse_0 : decode cX5_hoursTakenIfHouse 0 = .ok (.aload_n 0, 1) := by decide +kernel
theorem dX5_hoursTakenIfHouse_1 : decode cX5_hoursTakenIfHouse 1 = .ok (.getfield 26, 3) := by decide +kernel
theorem dX5_hoursTakenIfHouse_4 : decode cX5_hoursTakenIfHouse 4 = .ok (.getfield 125, 3) := by decide +kernel
theorem dX5_hoursTakenIfHouse_7 : decode cX5_hoursTakenIfHouse 7 = .ok (.invokestatic 358, 3) := by decide +kernel
theorem dX5_hoursTakenIfHouse_10 : decode cX5_hoursTakenIfHouse 10 = .ok (.istore_n 3, 1) := by decide +kernel
theorem dX5_hoursTakenIfHouse_11 : decode cX5_hoursTakenIfHouse 11 = .ok (.aload_n 0, 1) := by decide +kernel
theorem dX5_hoursTakenIfHouse_12 : decode cX5_hoursTakenIfHouse 12 = .ok (.getfield 37, 3) := by decide +kernel
theorem dX5_hoursTakenIfHouse_15 : decode cX5_hoursTakenIfHouse 15 = .ok (.aload_n 0, 1) := by decide +kernel
theorem dX5_hoursTakenIfHouse_16 : decode cX5_hoursTakenIfHouse 16 = .ok (.getfield 26, 3) := by decide +kernel
theorem dX5_hoursTakenIfHouse_19 : decode cX5_hoursTakenIfHouse 19 = .ok (.getfield 125, 3) := by decide +kernel
theorem dX5_hoursTakenIfHouse_22 : decode cX5_hoursTakenIfHouse 22 = .ok (.invokevirtual 235, 3) := by decide +kernel
theorem dX5_hoursTakenIfHouse_25 : decode cX5_hoursTakenIfHouse 25 = .ok (.aload_n 0, 1) := by decide +kernel
theorem dX5_hoursTakenIfHouse_26 : decode cX5_hoursTakenIfHouse 26 = .ok (.getfield 37, 3) := by decide +kernel
theorem dX5_hoursTakenIfHouse_29 : decode cX5_hoursTakenIfHouse 29 = .ok (.iload_n 1, 1) := by decide +kernel
theorem dX5_hoursTakenIfHouse_30 : decode cX5_hoursTakenIfHouse 30 = .ok (.iload_n 2, 1) := by decide +kernel
theorem dX5_hoursTakenIfHouse_31 : decode cX5_hoursTakenIfHouse 31 = .ok (.iconst 0, 1) := by decide +kernel
theorem dX5_hoursTakenIfHouse_32 : decode cX5_hoursTakenIfHouse 32 = .ok (.aload_n 0, 1) := by decide +kernel
theorem dX5_hoursTakenIfHouse_33 : decode cX5_hoursTakenIfHouse 33 = .ok (.getfield 37, 3) := by decide +kernel
theorem dX5_hoursTakenIfHouse_36 : decode cX5_hoursTakenIfHouse 36 = .ok (.iload_n 1, 1) := by decide +kernel
theorem dX5_hoursTakenIfHouse_37 : decode cX5_hoursTakenIfHouse 37 = .ok (.iload_n 2, 1) := by decide +kernel
theorem dX5_hoursTakenIfHouse_38 : decode cX5_hoursTakenIfHouse 38 = .ok (.invokevirtual 160, 3) := by decide +kernel
theorem dX5_hoursTakenIfHouse_41 : decode cX5_hoursTakenIfHouse 41 = .ok (.invokevirtual 163, 3) := by decide +kernel
theorem dX5_hoursTakenIfHouse_44 : decode cX5_hoursTakenIfHouse 44 = .ok (.iload_n 3, 1) := by decide +kernel
theorem dX5_hoursTakenIfHouse_45 : decode cX5_hoursTakenIfHouse 45 = .ok (.aload_n 0, 1) := by decide +kernel
theorem dX5_hoursTakenIfHouse_46 : decode cX5_hoursTakenIfHouse 46 = .ok (.getfield 37, 3) := by decide +kernel
theorem dX5_hoursTakenIfHouse_49 : decode cX5_hoursTakenIfHouse 49 = .ok (.invokestatic 358, 3) := by decide +kernel
theorem dX5_hoursTakenIfHouse_52 : decode cX5_hoursTakenIfHouse 52 = .ok (.isub, 1) := by decide +kernel
theorem dX5_hoursTakenIfHouse_53 : decode cX5_hoursTakenIfHouse 53 = .ok (.ireturn, 1) := by decide +kernel
theorem dX5_hoursSeenInAll_0 : decode cX5_hoursSeenInAll 0 = .ok (.iconst 0, 1) := by decide +kernel
theorem dX5_hoursSeenInAll_1 : decode cX5_hoursSeenInAll 1 = .ok (.istore_n 1, 1) := by decide +kernel
theorem dX5_hoursSeenInAll_2 : decode cX5_hoursSeenInAll 2 = .ok (.iconst 0, 1) := by decide +kernel
theorem dX5_hoursSeenInAll_3 : decode cX5_hoursSeenInAll 3 = .ok (.istore_n 2, 1) := by decide +kernel
theorem dX5_hoursSeenInAll_4 : decode cX5_hoursSeenInAll 4 = .ok (.iload_n 2, 1) := by decide +kernel
theorem dX5_hoursSeenInAll_5 : decode cX5_hoursSeenInAll 5 = .ok (.aload_n 0, 1) := by decide +kernel
theorem dX5_hoursSeenInAll_6 : decode cX5_hoursSeenInAll 6 = .ok (.invokevirtual 121, 3) := by decide +kernel
theorem dX5_hoursSeenInAll_9 : decode cX5_hoursSeenInAll 9 = .ok (.if_icmp .ge 38, 3) := by decide +kernel
theorem dX5_hoursSeenInAll_12 : decode cX5_hoursSeenInAll 12 = .ok (.iconst 0, 1) := by decide +kernel
theorem dX5_hoursSeenInAll_13 : decode cX5_hoursSeenInAll 13 = .ok (.istore_n 3, 1) := by decide +kernel
theorem dX5_hoursSeenInAll_14 : decode cX5_hoursSeenInAll 14 = .ok (.iload_n 3, 1) := by decide +kernel
theorem dX5_hoursSeenInAll_15 : decode cX5_hoursSeenInAll 15 = .ok (.aload_n 0, 1) := by decide +kernel
theorem dX5_hoursSeenInAll_16 : decode cX5_hoursSeenInAll 16 = .ok (.iload_n 2, 1) := by decide +kernel
theorem dX5_hoursSeenInAll_17 : decode cX5_hoursSeenInAll 17 = .ok (.invokevirtual 131, 3) := by decide +kernel
theorem dX5_hoursSeenInAll_20 : decode cX5_hoursSeenInAll 20 = .ok (.if_icmp .ge 21, 3) := by decide +kernel
theorem dX5_hoursSeenInAll_23 : decode cX5_hoursSeenInAll 23 = .ok (.iload_n 1, 1) := by decide +kernel
theorem dX5_hoursSeenInAll_24 : decode cX5_hoursSeenInAll 24 = .ok (.aload_n 0, 1) := by decide +kernel
theorem dX5_hoursSeenInAll_25 : decode cX5_hoursSeenInAll 25 = .ok (.iload_n 2, 1) := by decide +kernel
theorem dX5_hoursSeenInAll_26 : decode cX5_hoursSeenInAll 26 = .ok (.iload_n 3, 1) := by decide +kernel
theorem dX5_hoursSeenInAll_27 : decode cX5_hoursSeenInAll 27 = .ok (.invokevirtual 205, 3) := by decide +kernel
theorem dX5_hoursSeenInAll_30 : decode cX5_hoursSeenInAll 30 = .ok (.invokestatic 244, 3) := by decide +kernel
theorem dX5_hoursSeenInAll_33 : decode cX5_hoursSeenInAll 33 = .ok (.iadd, 1) := by decide +kernel
theorem dX5_hoursSeenInAll_34 : decode cX5_hoursSeenInAll 34 = .ok (.istore_n 1, 1) := by decide +kernel
theorem dX5_hoursSeenInAll_35 : decode cX5_hoursSeenInAll 35 = .ok (.iinc 3 1, 3) := by decide +kernel
theorem dX5_hoursSeenInAll_38 : decode cX5_hoursSeenInAll 38 = .ok (.goto (-24), 3) := by decide +kernel
theorem dX5_hoursSeenInAll_41 : decode cX5_hoursSeenInAll 41 = .ok (.iinc 2 1, 3) := by decide +kernel
theorem dX5_hoursSeenInAll_44 : decode cX5_hoursSeenInAll 44 = .ok (.goto (-40), 3) := by decide +kernel
theorem dX5_hoursSeenInAll_47 : decode cX5_hoursSeenInAll 47 = .ok (.iload_n 1, 1) := by decide +kernel
theorem dX5_hoursSeenInAll_48 : decode cX5_hoursSeenInAll 48 = .ok (.ireturn, 1) := by decide +kernel
theorem dX5_lightenedBelow_0 : decode cX5_lightenedBelow 0 = .ok (.iconst 0, 1) := by decide +kernel
theorem dX5_lightenedBelow_1 : decode cX5_lightenedBelow 1 = .ok (.istore_n 3, 1) := by decide +kernel
theorem dX5_lightenedBelow_2 : decode cX5_lightenedBelow 2 = .ok (.iconst 0, 1) := by decide +kernel
theorem dX5_lightenedBelow_3 : decode cX5_lightenedBelow 3 = .ok (.istore 4, 2) := by decide +kernel
theorem dX5_lightenedBelow_5 : decode cX5_lightenedBelow 5 = .ok (.iload 4, 2) := by decide +kernel
theorem dX5_lightenedBelow_7 : decode cX5_lightenedBelow 7 = .ok (.iload_n 2, 1) := by decide +kernel
theorem dX5_lightenedBelow_8 : decode cX5_lightenedBelow 8 = .ok (.if_icmp .ge 50, 3) := by decide +kernel
theorem dX5_lightenedBelow_11 : decode cX5_lightenedBelow 11 = .ok (.aload_n 0, 1) := by decide +kernel
theorem dX5_lightenedBelow_12 : decode cX5_lightenedBelow 12 = .ok (.getfield 26, 3) := by decide +kernel
theorem dX5_lightenedBelow_15 : decode cX5_lightenedBelow 15 = .ok (.getfield 125, 3) := by decide +kernel
theorem dX5_lightenedBelow_18 : decode cX5_lightenedBelow 18 = .ok (.iload_n 1, 1) := by decide +kernel
theorem dX5_lightenedBelow_19 : decode cX5_lightenedBelow 19 = .ok (.iload 4, 2) := by decide +kernel
theorem dX5_lightenedBelow_21 : decode cX5_lightenedBelow 21 = .ok (.invokevirtual 205, 3) := by decide +kernel
theorem dX5_lightenedBelow_24 : decode cX5_lightenedBelow 24 = .ok (.invokestatic 244, 3) := by decide +kernel
theorem dX5_lightenedBelow_27 : decode cX5_lightenedBelow 27 = .ok (.istore 5, 2) := by decide +kernel
theorem dX5_lightenedBelow_29 : decode cX5_lightenedBelow 29 = .ok (.iload 5, 2) := by decide +kernel
theorem dX5_lightenedBelow_31 : decode cX5_lightenedBelow 31 = .ok (.aload_n 0, 1) := by decide +kernel
theorem dX5_lightenedBelow_32 : decode cX5_lightenedBelow 32 = .ok (.getfield 26, 3) := by decide +kernel
theorem dX5_lightenedBelow_35 : decode cX5_lightenedBelow 35 = .ok (.getfield 125, 3) := by decide +kernel
theorem dX5_lightenedBelow_38 : decode cX5_lightenedBelow 38 = .ok (.iload_n 1, 1) := by decide +kernel
theorem dX5_lightenedBelow_39 : decode cX5_lightenedBelow 39 = .ok (.iload 4, 2) := by decide +kernel
theorem dX5_lightenedBelow_41 : decode cX5_lightenedBelow 41 = .ok (.invokevirtual 202, 3) := by decide +kernel
theorem dX5_lightenedBelow_44 : decode cX5_lightenedBelow 44 = .ok (.iadd, 1) := by decide +kernel
theorem dX5_lightenedBelow_45 : decode cX5_lightenedBelow 45 = .ok (.iconst 5, 1) := by decide +kernel
theorem dX5_lightenedBelow_46 : decode cX5_lightenedBelow 46 = .ok (.if_icmp .gt 6, 3) := by decide +kernel
theorem dX5_lightenedBelow_49 : decode cX5_lightenedBelow 49 = .ok (.iinc 3 1, 3) := by decide +kernel
theorem dX5_lightenedBelow_52 : decode cX5_lightenedBelow 52 = .ok (.iinc 4 1, 3) := by decide +kernel
theorem dX5_lightenedBelow_55 : decode cX5_lightenedBelow 55 = .ok (.goto (-50), 3) := by decide +kernel
theorem dX5_lightenedBelow_58 : decode cX5_lightenedBelow 58 = .ok (.iload_n 3, 1) := by decide +kernel
theorem dX5_lightenedBelow_59 : decode cX5_lightenedBelow 59 = .ok (.ireturn, 1) := by decide +kernel
theorem dX5_keptAt_0 : decode cX5_keptAt 0 = .ok (.iload_n 1, 1) := by decide +kernel
theorem dX5_keptAt_1 : decode cX5_keptAt 1 = .ok (.ifCond .lt 21, 3) := by decide +kernel
theorem dX5_keptAt_4 : decode cX5_keptAt 4 = .ok (.iload_n 1, 1) := by decide +kernel
theorem dX5_keptAt_5 : decode cX5_keptAt 5 = .ok (.aload_n 0, 1) := by decide +kernel
theorem dX5_keptAt_6 : decode cX5_keptAt 6 = .ok (.getfield 30, 3) := by decide +kernel
theorem dX5_keptAt_9 : decode cX5_keptAt 9 = .ok (.arraylength, 1) := by decide +kernel
theorem dX5_keptAt_10 : decode cX5_keptAt 10 = .ok (.if_icmp .ge 12, 3) := by decide +kernel
theorem dX5_keptAt_13 : decode cX5_keptAt 13 = .ok (.aload_n 0, 1) := by decide +kernel
theorem dX5_keptAt_14 : decode cX5_keptAt 14 = .ok (.getfield 30, 3) := by decide +kernel
theorem dX5_keptAt_17 : decode cX5_keptAt 17 = .ok (.iload_n 1, 1) := by decide +kernel
theorem dX5_keptAt_18 : decode cX5_keptAt 18 = .ok (.aaload, 1) := by decide +kernel
theorem dX5_keptAt_19 : decode cX5_keptAt 19 = .ok (.goto 4, 3) := by decide +kernel
theorem dX5_keptAt_22 : decode cX5_keptAt 22 = .ok (.aconst_null, 1) := by decide +kernel
theorem dX5_keptAt_23 : decode cX5_keptAt 23 = .ok (.areturn, 1) := by decide +kernel
theorem dX5_keptCount_0 : decode cX5_keptCount 0 = .ok (.iconst 0, 1) := by decide +kernel
theorem dX5_keptCount_1 : decode cX5_keptCount 1 = .ok (.istore_n 1, 1) := by decide +kernel
theorem dX5_keptCount_2 : decode cX5_keptCount 2 = .ok (.aload_n 0, 1) := by decide +kernel
theorem dX5_keptCount_3 : decode cX5_keptCount 3 = .ok (.getfield 30, 3) := by decide +kernel
theorem dX5_keptCount_6 : decode cX5_keptCount 6 = .ok (.astore_n 2, 1) := by decide +kernel
theorem dX5_keptCount_7 : decode cX5_keptCount 7 = .ok (.aload_n 2, 1) := by decide +kernel
theorem dX5_keptCount_8 : decode cX5_keptCount 8 = .ok (.arraylength, 1) := by decide +kernel
theorem dX5_keptCount_9 : decode cX5_keptCount 9 = .ok (.istore_n 3, 1) := by decide +kernel
theorem dX5_keptCount_10 : decode cX5_keptCount 10 = .ok (.iconst 0, 1) := by decide +kernel
theorem dX5_keptCount_11 : decode cX5_keptCount 11 = .ok (.istore 4, 2) := by decide +kernel
theorem dX5_keptCount_13 : decode cX5_keptCount 13 = .ok (.iload 4, 2) := by decide +kernel
theorem dX5_keptCount_15 : decode cX5_keptCount 15 = .ok (.iload_n 3, 1) := by decide +kernel
theorem dX5_keptCount_16 : decode cX5_keptCount 16 = .ok (.if_icmp .ge 26, 3) := by decide +kernel
theorem dX5_keptCount_19 : decode cX5_keptCount 19 = .ok (.aload_n 2, 1) := by decide +kernel
theorem dX5_keptCount_20 : decode cX5_keptCount 20 = .ok (.iload 4, 2) := by decide +kernel
theorem dX5_keptCount_22 : decode cX5_keptCount 22 = .ok (.aaload, 1) := by decide +kernel
theorem dX5_keptCount_23 : decode cX5_keptCount 23 = .ok (.astore 5, 2) := by decide +kernel
theorem dX5_keptCount_25 : decode cX5_keptCount 25 = .ok (.aload 5, 2) := by decide +kernel
theorem dX5_keptCount_27 : decode cX5_keptCount 27 = .ok (.invokevirtual 196, 3) := by decide +kernel
theorem dX5_keptCount_30 : decode cX5_keptCount 30 = .ok (.ifCond .eq 6, 3) := by decide +kernel
theorem dX5_keptCount_33 : decode cX5_keptCount 33 = .ok (.iinc 1 1, 3) := by decide +kernel
theorem dX5_keptCount_36 : decode cX5_keptCount 36 = .ok (.iinc 4 1, 3) := by decide +kernel
theorem dX5_keptCount_39 : decode cX5_keptCount 39 = .ok (.goto (-26), 3) := by decide +kernel
theorem dX5_keptCount_42 : decode cX5_keptCount 42 = .ok (.iload_n 1, 1) := by decide +kernel
theorem dX5_keptCount_43 : decode cX5_keptCount 43 = .ok (.ireturn, 1) := by decide +kernel
theorem dX5_lampsWhereSteady_0 : decode cX5_lampsWhereSteady 0 = .ok (.aload_n 1, 1) := by decide +kernel
theorem dX5_lampsWhereSteady_1 : decode cX5_lampsWhereSteady 1 = .ok (.invokevirtual 253, 3) := by decide +kernel
theorem dX5_lampsWhereSteady_4 : decode cX5_lampsWhereSteady 4 = .ok (.ifCond .ne 6, 3) := by decide +kernel
theorem dX5_lampsWhereSteady_7 : decode cX5_lampsWhereSteady 7 = .ok (.bipush (-9), 2) := by decide +kernel
theorem dX5_lampsWhereSteady_9 : decode cX5_lampsWhereSteady 9 = .ok (.ireturn, 1) := by decide +kernel
theorem dX5_lampsWhereSteady_10 : decode cX5_lampsWhereSteady 10 = .ok (.aload_n 0, 1) := by decide +kernel
theorem dX5_lampsWhereSteady_11 : decode cX5_lampsWhereSteady 11 = .ok (.getfield 44, 3) := by decide +kernel
theorem dX5_lampsWhereSteady_14 : decode cX5_lampsWhereSteady 14 = .ok (.aload_n 1, 1) := by decide +kernel
theorem dX5_lampsWhereSteady_15 : decode cX5_lampsWhereSteady 15 = .ok (.invokevirtual 138, 3) := by decide +kernel
theorem dX5_lampsWhereSteady_18 : decode cX5_lampsWhereSteady 18 = .ok (.aload_n 0, 1) := by decide +kernel
theorem dX5_lampsWhereSteady_19 : decode cX5_lampsWhereSteady 19 = .ok (.getfield 44, 3) := by decide +kernel
theorem dX5_lampsWhereSteady_22 : decode cX5_lampsWhereSteady 22 = .ok (.getfield 217, 3) := by decide +kernel
theorem dX5_lampsWhereSteady_25 : decode cX5_lampsWhereSteady 25 = .ok (.ireturn, 1) := by decide +kernel
theorem dX5_winningTower_0 : decode cX5_winningTower 0 = .ok (.iload_n 2, 1) := by decide +kernel
theorem dX5_winningTower_1 : decode cX5_winningTower 1 = .ok (.ifCond .gt 6, 3) := by decide +kernel
theorem dX5_winningTower_4 : decode cX5_winningTower 4 = .ok (.bipush (-9), 2) := by decide +kernel
theorem dX5_winningTower_6 : decode cX5_winningTower 6 = .ok (.ireturn, 1) := by decide +kernel
theorem dX5_winningTower_7 : decode cX5_winningTower 7 = .ok (.iconst 0, 1) := by decide +kernel
theorem dX5_winningTower_8 : decode cX5_winningTower 8 = .ok (.istore_n 3, 1) := by decide +kernel
theorem dX5_winningTower_9 : decode cX5_winningTower 9 = .ok (.iload_n 3, 1) := by decide +kernel
theorem dX5_winningTower_10 : decode cX5_winningTower 10 = .ok (.aload_n 0, 1) := by decide +kernel
theorem dX5_winningTower_11 : decode cX5_winningTower 11 = .ok (.invokevirtual 121, 3) := by decide +kernel
theorem dX5_winningTower_14 : decode cX5_winningTower 14 = .ok (.if_icmp .ge 58, 3) := by decide +kernel
theorem dX5_winningTower_17 : decode cX5_winningTower 17 = .ok (.aload_n 0, 1) := by decide +kernel
theorem dX5_winningTower_18 : decode cX5_winningTower 18 = .ok (.iload_n 3, 1) := by decide +kernel
theorem dX5_winningTower_19 : decode cX5_winningTower 19 = .ok (.iconst 0, 1) := by decide +kernel
theorem dX5_winningTower_20 : decode cX5_winningTower 20 = .ok (.iload_n 1, 1) := by decide +kernel
theorem dX5_winningTower_21 : decode cX5_winningTower 21 = .ok (.invokevirtual 176, 3) := by decide +kernel
theorem dX5_winningTower_24 : decode cX5_winningTower 24 = .ok (.ifCond .eq 42, 3) := by decide +kernel
theorem dX5_winningTower_27 : decode cX5_winningTower 27 = .ok (.aload_n 0, 1) := by decide +kernel
theorem dX5_winningTower_28 : decode cX5_winningTower 28 = .ok (.invokevirtual 253, 3) := by decide +kernel
theorem dX5_winningTower_31 : decode cX5_winningTower 31 = .ok (.ifCond .eq 20, 3) := by decide +kernel
theorem dX5_winningTower_34 : decode cX5_winningTower 34 = .ok (.aload_n 0, 1) := by decide +kernel
theorem dX5_winningTower_35 : decode cX5_winningTower 35 = .ok (.iload_n 1, 1) := by decide +kernel
theorem dX5_winningTower_36 : decode cX5_winningTower 36 = .ok (.iload_n 2, 1) := by decide +kernel
theorem dX5_winningTower_37 : decode cX5_winningTower 37 = .ok (.iconst 1, 1) := by decide +kernel
theorem dX5_winningTower_38 : decode cX5_winningTower 38 = .ok (.isub, 1) := by decide +kernel
theorem dX5_winningTower_39 : decode cX5_winningTower 39 = .ok (.invokestatic 274, 3) := by decide +kernel
theorem dX5_winningTower_42 : decode cX5_winningTower 42 = .ok (.bipush (-9), 2) := by decide +kernel
theorem dX5_winningTower_44 : decode cX5_winningTower 44 = .ok (.if_icmp .ne 7, 3) := by decide +kernel
theorem dX5_winningTower_47 : decode cX5_winningTower 47 = .ok (.iconst 1, 1) := by decide +kernel
theorem dX5_winningTower_48 : decode cX5_winningTower 48 = .ok (.goto 4, 3) := by decide +kernel
theorem dX5_winningTower_51 : decode cX5_winningTower 51 = .ok (.iconst 0, 1) := by decide +kernel
theorem dX5_winningTower_52 : decode cX5_winningTower 52 = .ok (.istore 4, 2) := by decide +kernel
theorem dX5_winningTower_54 : decode cX5_winningTower 54 = .ok (.aload_n 0, 1) := by decide +kernel
theorem dX5_winningTower_55 : decode cX5_winningTower 55 = .ok (.iload_n 3, 1) := by decide +kernel
theorem dX5_winningTower_56 : decode cX5_winningTower 56 = .ok (.invokevirtual 241, 3) := by decide +kernel
theorem dX5_winningTower_59 : decode cX5_winningTower 59 = .ok (.iload 4, 2) := by decide +kernel
theorem dX5_winningTower_61 : decode cX5_winningTower 61 = .ok (.ifCond .eq 5, 3) := by decide +kernel
theorem dX5_winningTower_64 : decode cX5_winningTower 64 = .ok (.iload_n 3, 1) := by decide +kernel
theorem dX5_winningTower_65 : decode cX5_winningTower 65 = .ok (.ireturn, 1) := by decide +kernel
theorem dX5_winningTower_66 : decode cX5_winningTower 66 = .ok (.iinc 3 1, 3) := by decide +kernel
theorem dX5_winningTower_69 : decode cX5_winningTower 69 = .ok (.goto (-60), 3) := by decide +kernel
theorem dX5_winningTower_72 : decode cX5_winningTower 72 = .ok (.bipush (-9), 2) := by decide +kernel
theorem dX5_winningTower_74 : decode cX5_winningTower 74 = .ok (.ireturn, 1) := by decide +kernel
theorem dX5_isLightAsIn_0 : decode cX5_isLightAsIn 0 = .ok (.iconst 0, 1) := by decide +kernel
theorem dX5_isLightAsIn_1 : decode cX5_isLightAsIn 1 = .ok (.istore_n 3, 1) := by decide +kernel
theorem dX5_isLightAsIn_2 : decode cX5_isLightAsIn 2 = .ok (.iload_n 3, 1) := by decide +kernel
theorem dX5_isLightAsIn_3 : decode cX5_isLightAsIn 3 = .ok (.aload_n 0, 1) := by decide +kernel
theorem dX5_isLightAsIn_4 : decode cX5_isLightAsIn 4 = .ok (.getfield 14, 3) := by decide +kernel
theorem dX5_isLightAsIn_7 : decode cX5_isLightAsIn 7 = .ok (.iload_n 1, 1) := by decide +kernel
theorem dX5_isLightAsIn_8 : decode cX5_isLightAsIn 8 = .ok (.invokevirtual 104, 3) := by decide +kernel
theorem dX5_isLightAsIn_11 : decode cX5_isLightAsIn 11 = .ok (.if_icmp .ge 32, 3) := by decide +kernel
theorem dX5_isLightAsIn_14 : decode cX5_isLightAsIn 14 = .ok (.aload_n 0, 1) := by decide +kernel
theorem dX5_isLightAsIn_15 : decode cX5_isLightAsIn 15 = .ok (.getfield 14, 3) := by decide +kernel
theorem dX5_isLightAsIn_18 : decode cX5_isLightAsIn 18 = .ok (.iload_n 1, 1) := by decide +kernel
theorem dX5_isLightAsIn_19 : decode cX5_isLightAsIn 19 = .ok (.iload_n 3, 1) := by decide +kernel
theorem dX5_isLightAsIn_20 : decode cX5_isLightAsIn 20 = .ok (.invokevirtual 82, 3) := by decide +kernel
theorem dX5_isLightAsIn_23 : decode cX5_isLightAsIn 23 = .ok (.aload_n 0, 1) := by decide +kernel
theorem dX5_isLightAsIn_24 : decode cX5_isLightAsIn 24 = .ok (.getfield 44, 3) := by decide +kernel
theorem dX5_isLightAsIn_27 : decode cX5_isLightAsIn 27 = .ok (.iload_n 3, 1) := by decide +kernel
theorem dX5_isLightAsIn_28 : decode cX5_isLightAsIn 28 = .ok (.iload_n 2, 1) := by decide +kernel
theorem dX5_isLightAsIn_29 : decode cX5_isLightAsIn 29 = .ok (.invokevirtual 361, 3) := by decide +kernel
theorem dX5_isLightAsIn_32 : decode cX5_isLightAsIn 32 = .ok (.if_icmp .eq 5, 3) := by decide +kernel
theorem dX5_isLightAsIn_35 : decode cX5_isLightAsIn 35 = .ok (.iconst 0, 1) := by decide +kernel
theorem dX5_isLightAsIn_36 : decode cX5_isLightAsIn 36 = .ok (.ireturn, 1) := by decide +kernel
theorem dX5_isLightAsIn_37 : decode cX5_isLightAsIn 37 = .ok (.iinc 3 1, 3) := by decide +kernel
theorem dX5_isLightAsIn_40 : decode cX5_isLightAsIn 40 = .ok (.goto (-38), 3) := by decide +kernel
theorem dX5_isLightAsIn_43 : decode cX5_isLightAsIn 43 = .ok (.iconst 1, 1) := by decide +kernel
theorem dX5_isLightAsIn_44 : decode cX5_isLightAsIn 44 = .ok (.ireturn, 1) := by decide +kernel
theorem dX5_digestHouses_0 : decode cX5_digestHouses 0 = .ok (.lload_n 1, 1) := by decide +kernel
theorem dX5_digestHouses_1 : decode cX5_digestHouses 1 = .ok (.lstore_n 3, 1) := by decide +kernel
theorem dX5_digestHouses_2 : decode cX5_digestHouses 2 = .ok (.aload_n 0, 1) := by decide +kernel
theorem dX5_digestHouses_3 : decode cX5_digestHouses 3 = .ok (.getfield 44, 3) := by decide +kernel
theorem dX5_digestHouses_6 : decode cX5_digestHouses 6 = .ok (.aload_n 0, 1) := by decide +kernel
theorem dX5_digestHouses_7 : decode cX5_digestHouses 7 = .ok (.getfield 26, 3) := by decide +kernel
theorem dX5_digestHouses_10 : decode cX5_digestHouses 10 = .ok (.getfield 125, 3) := by decide +kernel
theorem dX5_digestHouses_13 : decode cX5_digestHouses 13 = .ok (.invokevirtual 138, 3) := by decide +kernel
theorem dX5_digestHouses_16 : decode cX5_digestHouses 16 = .ok (.iconst 0, 1) := by decide +kernel
theorem dX5_digestHouses_17 : decode cX5_digestHouses 17 = .ok (.istore 5, 2) := by decide +kernel
theorem dX5_digestHouses_19 : decode cX5_digestHouses 19 = .ok (.iload 5, 2) := by decide +kernel
theorem dX5_digestHouses_21 : decode cX5_digestHouses 21 = .ok (.aload_n 0, 1) := by decide +kernel
theorem dX5_digestHouses_22 : decode cX5_digestHouses 22 = .ok (.getfield 26, 3) := by decide +kernel
theorem dX5_digestHouses_25 : decode cX5_digestHouses 25 = .ok (.getfield 125, 3) := by decide +kernel
theorem dX5_digestHouses_28 : decode cX5_digestHouses 28 = .ok (.invokevirtual 121, 3) := by decide +kernel
theorem dX5_digestHouses_31 : decode cX5_digestHouses 31 = .ok (.if_icmp .ge 89, 3) := by decide +kernel
theorem dX5_digestHouses_34 : decode cX5_digestHouses 34 = .ok (.ldc2_w 319, 3) := by decide +kernel
theorem dX5_digestHouses_37 : decode cX5_digestHouses 37 = .ok (.lload_n 3, 1) := by decide +kernel
theorem dX5_digestHouses_38 : decode cX5_digestHouses 38 = .ok (.lmul, 1) := by decide +kernel
theorem dX5_digestHouses_39 : decode cX5_digestHouses 39 = .ok (.aload_n 0, 1) := by decide +kernel
theorem dX5_digestHouses_40 : decode cX5_digestHouses 40 = .ok (.getfield 26, 3) := by decide +kernel
theorem dX5_digestHouses_43 : decode cX5_digestHouses 43 = .ok (.getfield 125, 3) := by decide +kernel
theorem dX5_digestHouses_46 : decode cX5_digestHouses 46 = .ok (.iload 5, 2) := by decide +kernel
theorem dX5_digestHouses_48 : decode cX5_digestHouses 48 = .ok (.invokevirtual 131, 3) := by decide +kernel
theorem dX5_digestHouses_51 : decode cX5_digestHouses 51 = .ok (.i2l, 1) := by decide +kernel
theorem dX5_digestHouses_52 : decode cX5_digestHouses 52 = .ok (.ladd, 1) := by decide +kernel
theorem dX5_digestHouses_53 : decode cX5_digestHouses 53 = .ok (.lstore_n 3, 1) := by decide +kernel
theorem dX5_digestHouses_54 : decode cX5_digestHouses 54 = .ok (.iconst 0, 1) := by decide +kernel
theorem dX5_digestHouses_55 : decode cX5_digestHouses 55 = .ok (.istore 6, 2) := by decide +kernel
theorem dX5_digestHouses_57 : decode cX5_digestHouses 57 = .ok (.iload 6, 2) := by decide +kernel
theorem dX5_digestHouses_59 : decode cX5_digestHouses 59 = .ok (.aload_n 0, 1) := by decide +kernel
theorem dX5_digestHouses_60 : decode cX5_digestHouses 60 = .ok (.getfield 26, 3) := by decide +kernel
theorem dX5_digestHouses_63 : decode cX5_digestHouses 63 = .ok (.getfield 125, 3) := by decide +kernel
theorem dX5_digestHouses_66 : decode cX5_digestHouses 66 = .ok (.iload 5, 2) := by decide +kernel
theorem dX5_digestHouses_68 : decode cX5_digestHouses 68 = .ok (.invokevirtual 131, 3) := by decide +kernel
theorem dX5_digestHouses_71 : decode cX5_digestHouses 71 = .ok (.if_icmp .ge 43, 3) := by decide +kernel
theorem dX5_digestHouses_74 : decode cX5_digestHouses 74 = .ok (.iconst 0, 1) := by decide +kernel
theorem dX5_digestHouses_75 : decode cX5_digestHouses 75 = .ok (.istore 7, 2) := by decide +kernel
theorem dX5_digestHouses_77 : decode cX5_digestHouses 77 = .ok (.iload 7, 2) := by decide +kernel
theorem dX5_digestHouses_79 : decode cX5_digestHouses 79 = .ok (.bipush 6, 2) := by decide +kernel
theorem dX5_digestHouses_81 : decode cX5_digestHouses 81 = .ok (.if_icmp .gt 27, 3) := by decide +kernel
theorem dX5_digestHouses_84 : decode cX5_digestHouses 84 = .ok (.ldc2_w 319, 3) := by decide +kernel
theorem dX5_digestHouses_87 : decode cX5_digestHouses 87 = .ok (.lload_n 3, 1) := by decide +kernel
theorem dX5_digestHouses_88 : decode cX5_digestHouses 88 = .ok (.lmul, 1) := by decide +kernel
theorem dX5_digestHouses_89 : decode cX5_digestHouses 89 = .ok (.aload_n 0, 1) := by decide +kernel
theorem dX5_digestHouses_90 : decode cX5_digestHouses 90 = .ok (.iload 5, 2) := by decide +kernel
theorem dX5_digestHouses_92 : decode cX5_digestHouses 92 = .ok (.iload 6, 2) := by decide +kernel
theorem dX5_digestHouses_94 : decode cX5_digestHouses 94 = .ok (.iload 7, 2) := by decide +kernel
theorem dX5_digestHouses_96 : decode cX5_digestHouses 96 = .ok (.invokevirtual 141, 3) := by decide +kernel
theorem dX5_digestHouses_99 : decode cX5_digestHouses 99 = .ok (.i2l, 1) := by decide +kernel
theorem dX5_digestHouses_100 : decode cX5_digestHouses 100 = .ok (.ladd, 1) := by decide +kernel
theorem dX5_digestHouses_101 : decode cX5_digestHouses 101 = .ok (.lstore_n 3, 1) := by decide +kernel
theorem dX5_digestHouses_102 : decode cX5_digestHouses 102 = .ok (.iinc 7 1, 3) := by decide +kernel
theorem dX5_digestHouses_105 : decode cX5_digestHouses 105 = .ok (.goto (-28), 3) := by decide +kernel
theorem dX5_digestHouses_108 : decode cX5_digestHouses 108 = .ok (.iinc 6 1, 3) := by decide +kernel
theorem dX5_digestHouses_111 : decode cX5_digestHouses 111 = .ok (.goto (-54), 3) := by decide +kernel
theorem dX5_digestHouses_114 : decode cX5_digestHouses 114 = .ok (.iinc 5 1, 3) := by decide +kernel
theorem dX5_digestHouses_117 : decode cX5_digestHouses 117 = .ok (.goto (-98), 3) := by decide +kernel
theorem dX5_digestHouses_120 : decode cX5_digestHouses 120 = .ok (.lload_n 3, 1) := by decide +kernel
theorem dX5_digestHouses_121 : decode cX5_digestHouses 121 = .ok (.lreturn, 1) := by decide +kernel
theorem dX6_init_0 : decode cX6_init 0 = .ok (.aload_n 0, 1) := by decide +kernel
theorem dX6_init_1 : decode cX6_init 1 = .ok (.invokespecial 1, 3) := by decide +kernel
theorem dX6_init_4 : decode cX6_init 4 = .ok (.aload_n 0, 1) := by decide +kernel
theorem dX6_init_5 : decode cX6_init 5 = .ok (.sipush 10956, 3) := by decide +kernel
theorem dX6_init_8 : decode cX6_init 8 = .ok (.newarray .int, 2) := by decide +kernel
theorem dX6_init_10 : decode cX6_init 10 = .ok (.putfield 7, 3) := by decide +kernel
theorem dX6_init_13 : decode cX6_init 13 = .ok (.aload_n 0, 1) := by decide +kernel
theorem dX6_init_14 : decode cX6_init 14 = .ok (.iconst 3, 1) := by decide +kernel
theorem dX6_init_15 : decode cX6_init 15 = .ok (.newarray .int, 2) := by decide +kernel
theorem dX6_init_17 : decode cX6_init 17 = .ok (.putfield 13, 3) := by decide +kernel
theorem dX6_init_20 : decode cX6_init 20 = .ok (.aload_n 0, 1) := by decide +kernel
theorem dX6_init_21 : decode cX6_init 21 = .ok (.sipush 240, 3) := by decide +kernel
theorem dX6_init_24 : decode cX6_init 24 = .ok (.newarray .int, 2) := by decide +kernel
theorem dX6_init_26 : decode cX6_init 26 = .ok (.putfield 16, 3) := by decide +kernel
theorem dX6_init_29 : decode cX6_init 29 = .ok (.aload_n 0, 1) := by decide +kernel
theorem dX6_init_30 : decode cX6_init 30 = .ok (.bipush 6, 2) := by decide +kernel
theorem dX6_init_32 : decode cX6_init 32 = .ok (.newarray .int, 2) := by decide +kernel
theorem dX6_init_34 : decode cX6_init 34 = .ok (.putfield 19, 3) := by decide +kernel
theorem dX6_init_37 : decode cX6_init 37 = .ok (.aload_n 0, 1) := by decide +kernel
theorem dX6_init_38 : decode cX6_init 38 = .ok (.sipush 240, 3) := by decide +kernel
theorem dX6_init_41 : decode cX6_init 41 = .ok (.newarray .int, 2) := by decide +kernel
theorem dX6_init_43 : decode cX6_init 43 = .ok (.putfield 22, 3) := by decide +kernel
theorem dX6_init_46 : decode cX6_init 46 = .ok (.aload_n 0, 1) := by decide +kernel
theorem dX6_init_47 : decode cX6_init 47 = .ok (.iconst 4, 1) := by decide +kernel
theorem dX6_init_48 : decode cX6_init 48 = .ok (.newarray .int, 2) := by decide +kernel
theorem dX6_init_50 : decode cX6_init 50 = .ok (.putfield 25, 3) := by decide +kernel
theorem dX6_init_53 : decode cX6_init 53 = .ok (.aload_n 0, 1) := by decide +kernel
theorem dX6_init_54 : decode cX6_init 54 = .ok (.bipush 40, 2) := by decide +kernel
theorem dX6_init_56 : decode cX6_init 56 = .ok (.newarray .int, 2) := by decide +kernel
theorem dX6_init_58 : decode cX6_init 58 = .ok (.putfield 28, 3) := by decide +kernel
theorem dX6_init_61 : decode cX6_init 61 = .ok (.aload_n 0, 1) := by decide +kernel
theorem dX6_init_62 : decode cX6_init 62 = .ok (.bipush 6, 2) := by decide +kernel
theorem dX6_init_64 : decode cX6_init 64 = .ok (.newarray .int, 2) := by decide +kernel
theorem dX6_init_66 : decode cX6_init 66 = .ok (.putfield 31, 3) := by decide +kernel
theorem dX6_init_69 : decode cX6_init 69 = .ok (.aload_n 0, 1) := by decide +kernel
theorem dX6_init_70 : decode cX6_init 70 = .ok (.lconst 1, 1) := by decide +kernel
theorem dX6_init_71 : decode cX6_init 71 = .ok (.putfield 34, 3) := by decide +kernel
theorem dX6_init_74 : decode cX6_init 74 = .ok (.aload_n 0, 1) := by decide +kernel
theorem dX6_init_75 : decode cX6_init 75 = .ok (.sipush 144, 3) := by decide +kernel
theorem dX6_init_78 : decode cX6_init 78 = .ok (.newarray .int, 2) := by decide +kernel
theorem dX6_init_80 : decode cX6_init 80 = .ok (.putfield 38, 3) := by decide +kernel
theorem dX6_init_83 : decode cX6_init 83 = .ok (.aload_n 0, 1) := by decide +kernel
theorem dX6_init_84 : decode cX6_init 84 = .ok (.sipush 4096, 3) := by decide +kernel
theorem dX6_init_87 : decode cX6_init 87 = .ok (.newarray .int, 2) := by decide +kernel
theorem dX6_init_89 : decode cX6_init 89 = .ok (.putfield 41, 3) := by decide +kernel
theorem dX6_init_92 : decode cX6_init 92 = .ok (.aload_n 0, 1) := by decide +kernel
theorem dX6_init_93 : decode cX6_init 93 = .ok (.sipush 4096, 3) := by decide +kernel
theorem dX6_init_96 : decode cX6_init 96 = .ok (.newarray .int, 2) := by decide +kernel
theorem dX6_init_98 : decode cX6_init 98 = .ok (.putfield 44, 3) := by decide +kernel
theorem dX6_init_101 : decode cX6_init 101 = .ok (.aload_n 0, 1) := by decide +kernel
theorem dX6_init_102 : decode cX6_init 102 = .ok (.iconst 5, 1) := by decide +kernel
theorem dX6_init_103 : decode cX6_init 103 = .ok (.newarray .int, 2) := by decide +kernel
theorem dX6_init_105 : decode cX6_init 105 = .ok (.putfield 47, 3) := by decide +kernel
theorem dX6_init_108 : decode cX6_init 108 = .ok (.aload_n 0, 1) := by decide +kernel
theorem dX6_init_109 : decode cX6_init 109 = .ok (.iconst 5, 1) := by decide +kernel
theorem dX6_init_110 : decode cX6_init 110 = .ok (.newarray .boolean, 2) := by decide +kernel
theorem dX6_init_112 : decode cX6_init 112 = .ok (.putfield 50, 3) := by decide +kernel
theorem dX6_init_115 : decode cX6_init 115 = .ok (.iconst 0, 1) := by decide +kernel
theorem dX6_init_116 : decode cX6_init 116 = .ok (.istore_n 1, 1) := by decide +kernel
theorem dX6_init_117 : decode cX6_init 117 = .ok (.iload_n 1, 1) := by decide +kernel
theorem dX6_init_118 : decode cX6_init 118 = .ok (.bipush 6, 2) := by decide +kernel
theorem dX6_init_120 : decode cX6_init 120 = .ok (.if_icmp .ge 16, 3) := by decide +kernel
theorem dX6_init_123 : decode cX6_init 123 = .ok (.aload_n 0, 1) := by decide +kernel
theorem dX6_init_124 : decode cX6_init 124 = .ok (.getfield 19, 3) := by decide +kernel
theorem dX6_init_127 : decode cX6_init 127 = .ok (.iload_n 1, 1) := by decide +kernel
theorem dX6_init_128 : decode cX6_init 128 = .ok (.iconst (-1), 1) := by decide +kernel
theorem dX6_init_129 : decode cX6_init 129 = .ok (.iastore, 1) := by decide +kernel
theorem dX6_init_130 : decode cX6_init 130 = .ok (.iinc 1 1, 3) := by decide +kernel
theorem dX6_init_133 : decode cX6_init 133 = .ok (.goto (-16), 3) := by decide +kernel
theorem dX6_init_136 : decode cX6_init 136 = .ok (.iconst 0, 1) := by decide +kernel
theorem dX6_init_137 : decode cX6_init 137 = .ok (.istore_n 1, 1) := by decide +kernel
theorem dX6_init_138 : decode cX6_init 138 = .ok (.iload_n 1, 1) := by decide +kernel
theorem dX6_init_139 : decode cX6_init 139 = .ok (.iconst 4, 1) := by decide +kernel
theorem dX6_init_140 : decode cX6_init 140 = .ok (.if_icmp .ge 16, 3) := by decide +kernel
theorem dX6_init_143 : decode cX6_init 143 = .ok (.aload_n 0, 1) := by decide +kernel
theorem dX6_init_144 : decode cX6_init 144 = .ok (.getfield 25, 3) := by decide +kernel
theorem dX6_init_147 : decode cX6_init 147 = .ok (.iload_n 1, 1) := by decide +kernel
theorem dX6_init_148 : decode cX6_init 148 = .ok (.iconst (-1), 1) := by decide +kernel
theorem dX6_init_149 : decode cX6_init 149 = .ok (.iastore, 1) := by decide +kernel
theorem dX6_init_150 : decode cX6_init 150 = .ok (.iinc 1 1, 3) := by decide +kernel
theorem dX6_init_153 : decode cX6_init 153 = .ok (.goto (-15), 3) := by decide +kernel
theorem dX6_init_156 : decode cX6_init 156 = .ok (.iconst 0, 1) := by decide +kernel
theorem dX6_init_157 : decode cX6_init 157 = .ok (.istore_n 1, 1) := by decide +kernel
theorem dX6_init_158 : decode cX6_init 158 = .ok (.iload_n 1, 1) := by decide +kernel
theorem dX6_init_159 : decode cX6_init 159 = .ok (.iconst 3, 1) := by decide +kernel
theorem dX6_init_160 : decode cX6_init 160 = .ok (.if_icmp .ge 16, 3) := by decide +kernel
theorem dX6_init_163 : decode cX6_init 163 = .ok (.aload_n 0, 1) := by decide +kernel
theorem dX6_init_164 : decode cX6_init 164 = .ok (.getfield 13, 3) := by decide +kernel
theorem dX6_init_167 : decode cX6_init 167 = .ok (.iload_n 1, 1) := by decide +kernel
theorem dX6_init_168 : decode cX6_init 168 = .ok (.iconst (-1), 1) := by decide +kernel
theorem dX6_init_169 : decode cX6_init 169 = .ok (.iastore, 1) := by decide +kernel
theorem dX6_init_170 : decode cX6_init 170 = .ok (.iinc 1 1, 3) := by decide +kernel
theorem dX6_init_173 : decode cX6_init 173 = .ok (.goto (-15), 3) := by decide +kernel
theorem dX6_init_176 : decode cX6_init 176 = .ok (.return_, 1) := by decide +kernel
theorem dX6_in_0 : decode cX6_in 0 = .ok (.lload_n 0, 1) := by decide +kernel
theorem dX6_in_1 : decode cX6_in 1 = .ok (.lload_n 2, 1) := by decide +kernel
theorem dX6_in_2 : decode cX6_in 2 = .ok (.lcmp, 1) := by decide +kernel
theorem dX6_in_3 : decode cX6_in 3 = .ok (.ifCond .lt 14, 3) := by decide +kernel
theorem dX6_in_6 : decode cX6_in 6 = .ok (.lload_n 0, 1) := by decide +kernel
theorem dX6_in_7 : decode cX6_in 7 = .ok (.lload 4, 2) := by decide +kernel
theorem dX6_in_9 : decode cX6_in 9 = .ok (.lcmp, 1) := by decide +kernel
theorem dX6_in_10 : decode cX6_in 10 = .ok (.ifCond .gt 7, 3) := by decide +kernel
theorem dX6_in_13 : decode cX6_in 13 = .ok (.iconst 1, 1) := by decide +kernel
theorem dX6_in_14 : decode cX6_in 14 = .ok (.goto 4, 3) := by decide +kernel
theorem dX6_in_17 : decode cX6_in 17 = .ok (.iconst 0, 1) := by decide +kernel
theorem dX6_in_18 : decode cX6_in 18 = .ok (.ireturn, 1) := by decide +kernel
theorem dX6_has_0 : decode cX6_has 0 = .ok (.iload_n 0, 1) := by decide +kernel
theorem dX6_has_1 : decode cX6_has 1 = .ok (.iload_n 1, 1) := by decide +kernel
theorem dX6_has_2 : decode cX6_has 2 = .ok (.ishr, 1) := by decide +kernel
theorem dX6_has_3 : decode cX6_has 3 = .ok (.iconst 1, 1) := by decide +kernel
theorem dX6_has_4 : decode cX6_has 4 = .ok (.iand, 1) := by decide +kernel
theorem dX6_has_5 : decode cX6_has 5 = .ok (.iconst 1, 1) := by decide +kernel
theorem dX6_has_6 : decode cX6_has 6 = .ok (.if_icmp .ne 7, 3) := by decide +kernel
theorem dX6_has_9 : decode cX6_has 9 = .ok (.iconst 1, 1) := by decide +kernel
theorem dX6_has_10 : decode cX6_has 10 = .ok (.goto 4, 3) := by decide +kernel
theorem dX6_has_13 : decode cX6_has 13 = .ok (.iconst 0, 1) := by decide +kernel
theorem dX6_has_14 : decode cX6_has 14 = .ok (.ireturn, 1) := by decide +kernel
theorem dX6_ones_0 : decode cX6_ones 0 = .ok (.iconst 0, 1) := by decide +kernel
theorem dX6_ones_1 : decode cX6_ones 1 = .ok (.istore_n 1, 1) := by decide +kernel
theorem dX6_ones_2 : decode cX6_ones 2 = .ok (.iload_n 0, 1) := by decide +kernel
theorem dX6_ones_3 : decode cX6_ones 3 = .ok (.istore_n 2, 1) := by decide +kernel
theorem dX6_ones_4 : decode cX6_ones 4 = .ok (.iload_n 2, 1) := by decide +kernel
theorem dX6_ones_5 : decode cX6_ones 5 = .ok (.ifCond .le 16, 3) := by decide +kernel
theorem dX6_ones_8 : decode cX6_ones 8 = .ok (.iload_n 1, 1) := by decide +kernel
theorem dX6_ones_9 : decode cX6_ones 9 = .ok (.iload_n 2, 1) := by decide +kernel
theorem dX6_ones_10 : decode cX6_ones 10 = .ok (.iconst 1, 1) := by decide +kernel
theorem dX6_ones_11 : decode cX6_ones 11 = .ok (.iand, 1) := by decide +kernel
theorem dX6_ones_12 : decode cX6_ones 12 = .ok (.iadd, 1) := by decide +kernel
theorem dX6_ones_13 : decode cX6_ones 13 = .ok (.istore_n 1, 1) := by decide +kernel
theorem dX6_ones_14 : decode cX6_ones 14 = .ok (.iload_n 2, 1) := by decide +kernel
theorem dX6_ones_15 : decode cX6_ones 15 = .ok (.iconst 1, 1) := by decide +kernel
theorem dX6_ones_16 : decode cX6_ones 16 = .ok (.ishr, 1) := by decide +kernel
theorem dX6_ones_17 : decode cX6_ones 17 = .ok (.istore_n 2, 1) := by decide +kernel
theorem dX6_ones_18 : decode cX6_ones 18 = .ok (.goto (-14), 3) := by decide +kernel
theorem dX6_ones_21 : decode cX6_ones 21 = .ok (.iload_n 1, 1) := by decide +kernel
theorem dX6_ones_22 : decode cX6_ones 22 = .ok (.ireturn, 1) := by decide +kernel
theorem dX6_found_0 : decode cX6_found 0 = .ok (.aload_n 0, 1) := by decide +kernel
theorem dX6_found_1 : decode cX6_found 1 = .ok (.iload_n 1, 1) := by decide +kernel
theorem dX6_found_2 : decode cX6_found 2 = .ok (.putfield 54, 3) := by decide +kernel
theorem dX6_found_5 : decode cX6_found 5 = .ok (.aload_n 0, 1) := by decide +kernel
theorem dX6_found_6 : decode cX6_found 6 = .ok (.getfield 31, 3) := by decide +kernel
theorem dX6_found_9 : decode cX6_found 9 = .ok (.iload_n 1, 1) := by decide +kernel
theorem dX6_found_10 : decode cX6_found 10 = .ok (.dup2, 1) := by decide +kernel
theorem dX6_found_11 : decode cX6_found 11 = .ok (.iaload, 1) := by decide +kernel
theorem dX6_found_12 : decode cX6_found 12 = .ok (.iconst 1, 1) := by decide +kernel
theorem dX6_found_13 : decode cX6_found 13 = .ok (.iadd, 1) := by decide +kernel
theorem dX6_found_14 : decode cX6_found 14 = .ok (.iastore, 1) := by decide +kernel
theorem dX6_found_15 : decode cX6_found 15 = .ok (.bipush (-3), 2) := by decide +kernel
theorem dX6_found_17 : decode cX6_found 17 = .ok (.ireturn, 1) := by decide +kernel
theorem dX6_tells_0 : decode cX6_tells 0 = .ok (.aload_n 0, 1) := by decide +kernel
theorem dX6_tells_1 : decode cX6_tells 1 = .ok (.iload_n 1, 1) := by decide +kernel
theorem dX6_tells_2 : decode cX6_tells 2 = .ok (.putfield 58, 3) := by decide +kernel
theorem dX6_tells_5 : decode cX6_tells 5 = .ok (.iload_n 2, 1) := by decide +kernel
theorem dX6_tells_6 : decode cX6_tells 6 = .ok (.ireturn, 1) := by decide +kernel
theorem dX6_copyAll_0 : decode cX6_copyAll 0 = .ok (.iconst 0, 1) := by decide +kernel
theorem dX6_copyAll_1 : decode cX6_copyAll 1 = .ok (.istore 4, 2) := by decide +kernel
theorem dX6_copyAll_3 : decode cX6_copyAll 3 = .ok (.iload 4, 2) := by decide +kernel
theorem dX6_copyAll_5 : decode cX6_copyAll 5 = .ok (.iload_n 3, 1) := by decide +kernel
theorem dX6_copyAll_6 : decode cX6_copyAll 6 = .ok (.if_icmp .ge 27, 3) := by decide +kernel
theorem dX6_copyAll_9 : decode cX6_copyAll 9 = .ok (.aload_n 0, 1) := by decide +kernel
theorem dX6_copyAll_10 : decode cX6_copyAll 10 = .ok (.getfield 7, 3) := by decide +kernel
theorem dX6_copyAll_13 : decode cX6_copyAll 13 = .ok (.iload_n 2, 1) := by decide +kernel
theorem dX6_copyAll_14 : decode cX6_copyAll 14 = .ok (.iload 4, 2) := by decide +kernel
theorem dX6_copyAll_16 : decode cX6_copyAll 16 = .ok (.iadd, 1) := by decide +kernel
theorem dX6_copyAll_17 : decode cX6_copyAll 17 = .ok (.aload_n 0, 1) := by decide +kernel
theorem dX6_copyAll_18 : decode cX6_copyAll 18 = .ok (.getfield 7, 3) := by decide +kernel
theorem dX6_copyAll_21 : decode cX6_copyAll 21 = .ok (.iload_n 1, 1) := by decide +kernel
theorem dX6_copyAll_22 : decode cX6_copyAll 22 = .ok (.iload 4, 2) := by decide +kernel
theorem dX6_copyAll_24 : decode cX6_copyAll 24 = .ok (.iadd, 1) := by decide +kernel
theorem dX6_copyAll_25 : decode cX6_copyAll 25 = .ok (.iaload, 1) := by decide +kernel
theorem dX6_copyAll_26 : decode cX6_copyAll 26 = .ok (.iastore, 1) := by decide +kernel
theorem dX6_copyAll_27 : decode cX6_copyAll 27 = .ok (.iinc 4 1, 3) := by decide +kernel
theorem dX6_copyAll_30 : decode cX6_copyAll 30 = .ok (.goto (-27), 3) := by decide +kernel
theorem dX6_copyAll_33 : decode cX6_copyAll 33 = .ok (.return_, 1) := by decide +kernel
theorem dX6_isRow_0 : decode cX6_isRow 0 = .ok (.iload_n 0, 1) := by decide +kernel
theorem dX6_isRow_1 : decode cX6_isRow 1 = .ok (.i2l, 1) := by decide +kernel
theorem dX6_isRow_2 : decode cX6_isRow 2 = .ok (.lconst 0, 1) := by decide +kernel
theorem dX6_isRow_3 : decode cX6_isRow 3 = .ok (.ldc2_w 61, 3) := by decide +kernel
theorem dX6_isRow_6 : decode cX6_isRow 6 = .ok (.invokestatic 63, 3) := by decide +kernel
theorem dX6_isRow_9 : decode cX6_isRow 9 = .ok (.ireturn, 1) := by decide +kernel
theorem dX6_isText_0 : decode cX6_isText 0 = .ok (.iload_n 0, 1) := by decide +kernel
theorem dX6_isText_1 : decode cX6_isText 1 = .ok (.i2l, 1) := by decide +kernel
theorem dX6_isText_2 : decode cX6_isText 2 = .ok (.lconst 0, 1) := by decide +kernel
theorem dX6_isText_3 : decode cX6_isText 3 = .ok (.ldc2_w 67, 3) := by decide +kernel
theorem dX6_isText_6 : decode cX6_isText 6 = .ok (.invokestatic 63, 3) := by decide +kernel
theorem dX6_isText_9 : decode cX6_isText 9 = .ok (.ireturn, 1) := by decide +kernel
theorem dX6_row_0 : decode cX6_row 0 = .ok (.iload_n 1, 1) := by decide +kernel
theorem dX6_row_1 : decode cX6_row 1 = .ok (.invokestatic 69, 3) := by decide +kernel
theorem dX6_row_4 : decode cX6_row 4 = .ok (.ifCond .eq 9, 3) := by decide +kernel
theorem dX6_row_7 : decode cX6_row 7 = .ok (.iload_n 2, 1) := by decide +kernel
theorem dX6_row_8 : decode cX6_row 8 = .ok (.bipush 40, 2) := by decide +kernel
theorem dX6_row_10 : decode cX6_row 10 = .ok (.if_icmp .le 5, 3) := by decide +kernel
theorem dX6_row_13 : decode cX6_row 13 = .ok (.iconst (-1), 1) := by decide +kernel
theorem dX6_row_14 : decode cX6_row 14 = .ok (.ireturn, 1) := by decide +kernel
theorem dX6_row_15 : decode cX6_row 15 = .ok (.iload_n 2, 1) := by decide +kernel
theorem dX6_row_16 : decode cX6_row 16 = .ok (.ifCond .ge 9, 3) := by decide +kernel
theorem dX6_row_19 : decode cX6_row 19 = .ok (.aload_n 0, 1) := by decide +kernel
theorem dX6_row_20 : decode cX6_row 20 = .ok (.iconst 5, 1) := by decide +kernel
theorem dX6_row_21 : decode cX6_row 21 = .ok (.invokevirtual 73, 3) := by decide +kernel
theorem dX6_row_24 : decode cX6_row 24 = .ok (.ireturn, 1) := by decide +kernel
theorem dX6_row_25 : decode cX6_row 25 = .ok (.aload_n 0, 1) := by decide +kernel
theorem dX6_row_26 : decode cX6_row 26 = .ok (.getfield 19, 3) := by decide +kernel
theorem dX6_row_29 : decode cX6_row 29 = .ok (.iload_n 1, 1) := by decide +kernel
theorem dX6_row_30 : decode cX6_row 30 = .ok (.iload_n 2, 1) := by decide +kernel
theorem dX6_row_31 : decode cX6_row 31 = .ok (.iastore, 1) := by decide +kernel
theorem dX6_row_32 : decode cX6_row 32 = .ok (.iconst 0, 1) := by decide +kernel
theorem dX6_row_33 : decode cX6_row 33 = .ok (.istore_n 3, 1) := by decide +kernel
theorem dX6_row_34 : decode cX6_row 34 = .ok (.iload_n 3, 1) := by decide +kernel
theorem dX6_row_35 : decode cX6_row 35 = .ok (.bipush 40, 2) := by decide +kernel
theorem dX6_row_37 : decode cX6_row 37 = .ok (.if_icmp .ge 21, 3) := by decide +kernel
theorem dX6_row_40 : decode cX6_row 40 = .ok (.aload_n 0, 1) := by decide +kernel
theorem dX6_row_41 : decode cX6_row 41 = .ok (.getfield 16, 3) := by decide +kernel
theorem dX6_row_44 : decode cX6_row 44 = .ok (.bipush 40, 2) := by decide +kernel
theorem dX6_row_46 : decode cX6_row 46 = .ok (.iload_n 1, 1) := by decide +kernel
theorem dX6_row_47 : decode cX6_row 47 = .ok (.imul, 1) := by decide +kernel
theorem dX6_row_48 : decode cX6_row 48 = .ok (.iload_n 3, 1) := by decide +kernel
theorem dX6_row_49 : decode cX6_row 49 = .ok (.iadd, 1) := by decide +kernel
theorem dX6_row_50 : decode cX6_row 50 = .ok (.iconst 0, 1) := by decide +kernel
theorem dX6_row_51 : decode cX6_row 51 = .ok (.iastore, 1) := by decide +kernel
theorem dX6_row_52 : decode cX6_row 52 = .ok (.iinc 3 1, 3) := by decide +kernel
theorem dX6_row_55 : decode cX6_row 55 = .ok (.goto (-21), 3) := by decide +kernel
theorem dX6_row_58 : decode cX6_row 58 = .ok (.iload_n 2, 1) := by decide +kernel
theorem dX6_row_59 : decode cX6_row 59 = .ok (.ireturn, 1) := by decide +kernel
theorem dX6_lay_0 : decode cX6_lay 0 = .ok (.aload_n 0, 1) := by decide +kernel
theorem dX6_lay_1 : decode cX6_lay 1 = .ok (.iload_n 1, 1) := by decide +kernel
theorem dX6_lay_2 : decode cX6_lay 2 = .ok (.iload_n 2, 1) := by decide +kernel
theorem dX6_lay_3 : decode cX6_lay 3 = .ok (.invokevirtual 77, 3) := by decide +kernel
theorem dX6_lay_6 : decode cX6_lay 6 = .ok (.istore 4, 2) := by decide +kernel
theorem dX6_lay_8 : decode cX6_lay 8 = .ok (.iload 4, 2) := by decide +kernel
theorem dX6_lay_10 : decode cX6_lay 10 = .ok (.iconst 1, 1) := by decide +kernel
theorem dX6_lay_11 : decode cX6_lay 11 = .ok (.if_icmp .ne 15, 3) := by decide +kernel
theorem dX6_lay_14 : decode cX6_lay 14 = .ok (.aload_n 0, 1) := by decide +kernel
theorem dX6_lay_15 : decode cX6_lay 15 = .ok (.getfield 16, 3) := by decide +kernel
theorem dX6_lay_18 : decode cX6_lay 18 = .ok (.bipush 40, 2) := by decide +kernel
theorem dX6_lay_20 : decode cX6_lay 20 = .ok (.iload_n 1, 1) := by decide +kernel
theorem dX6_lay_21 : decode cX6_lay 21 = .ok (.imul, 1) := by decide +kernel
theorem dX6_lay_22 : decode cX6_lay 22 = .ok (.iload_n 2, 1) := by decide +kernel
theorem dX6_lay_23 : decode cX6_lay 23 = .ok (.iadd, 1) := by decide +kernel
theorem dX6_lay_24 : decode cX6_lay 24 = .ok (.iload_n 3, 1) := by decide +kernel
theorem dX6_lay_25 : decode cX6_lay 25 = .ok (.iastore, 1) := by decide +kernel
theorem dX6_lay_26 : decode cX6_lay 26 = .ok (.iload 4, 2) := by decide +kernel
theorem dX6_lay_28 : decode cX6_lay 28 = .ok (.ireturn, 1) := by decide +kernel
theorem dX6_at_0 : decode cX6_at 0 = .ok (.iload_n 1, 1) := by decide +kernel
theorem dX6_at_1 : decode cX6_at 1 = .ok (.invokestatic 69, 3) := by decide +kernel
theorem dX6_at_4 : decode cX6_at 4 = .ok (.ifCond .ne 5, 3) := by decide +kernel
theorem dX6_at_7 : decode cX6_at 7 = .ok (.iconst (-1), 1) := by decide +kernel
theorem dX6_at_8 : decode cX6_at 8 = .ok (.ireturn, 1) := by decide +kernel
theorem dX6_at_9 : decode cX6_at 9 = .ok (.aload_n 0, 1) := by decide +kernel
theorem dX6_at_10 : decode cX6_at 10 = .ok (.getfield 19, 3) := by decide +kernel
theorem dX6_at_13 : decode cX6_at 13 = .ok (.iload_n 1, 1) := by decide +kernel
theorem dX6_at_14 : decode cX6_at 14 = .ok (.iaload, 1) := by decide +kernel
theorem dX6_at_15 : decode cX6_at 15 = .ok (.ifCond .ge 9, 3) := by decide +kernel
theorem dX6_at_18 : decode cX6_at 18 = .ok (.aload_n 0, 1) := by decide +kernel
theorem dX6_at_19 : decode cX6_at 19 = .ok (.iconst 1, 1) := by decide +kernel
theorem dX6_at_20 : decode cX6_at 20 = .ok (.invokevirtual 73, 3) := by decide +kernel
theorem dX6_at_23 : decode cX6_at 23 = .ok (.ireturn, 1) := by decide +kernel
theorem dX6_at_24 : decode cX6_at 24 = .ok (.iload_n 2, 1) := by decide +kernel
theorem dX6_at_25 : decode cX6_at 25 = .ok (.i2l, 1) := by decide +kernel
theorem dX6_at_26 : decode cX6_at 26 = .ok (.lconst 0, 1) := by decide +kernel
theorem dX6_at_27 : decode cX6_at 27 = .ok (.aload_n 0, 1) := by decide +kernel
theorem dX6_at_28 : decode cX6_at 28 = .ok (.getfield 19, 3) := by decide +kernel
theorem dX6_at_31 : decode cX6_at 31 = .ok (.iload_n 1, 1) := by decide +kernel
theorem dX6_at_32 : decode cX6_at 32 = .ok (.iaload, 1) := by decide +kernel
theorem dX6_at_33 : decode cX6_at 33 = .ok (.iconst 1, 1) := by decide +kernel
theorem dX6_at_34 : decode cX6_at 34 = .ok (.isub, 1) := by decide +kernel
theorem dX6_at_35 : decode cX6_at 35 = .ok (.i2l, 1) := by decide +kernel
theorem dX6_at_36 : decode cX6_at 36 = .ok (.invokestatic 63, 3) := by decide +kernel
theorem dX6_at_39 : decode cX6_at 39 = .ok (.ifCond .eq 22, 3) := by decide +kernel
theorem dX6_at_42 : decode cX6_at 42 = .ok (.aload_n 0, 1) := by decide +kernel
theorem dX6_at_43 : decode cX6_at 43 = .ok (.aload_n 0, 1) := by decide +kernel
theorem dX6_at_44 : decode cX6_at 44 = .ok (.getfield 16, 3) := by decide +kernel
theorem dX6_at_47 : decode cX6_at 47 = .ok (.bipush 40, 2) := by decide +kernel
theorem dX6_at_49 : decode cX6_at 49 = .ok (.iload_n 1, 1) := by decide +kernel
theorem dX6_at_50 : decode cX6_at 50 = .ok (.imul, 1) := by decide +kernel
theorem dX6_at_51 : decode cX6_at 51 = .ok (.iload_n 2, 1) := by decide +kernel
theorem dX6_at_52 : decode cX6_at 52 = .ok (.iadd, 1) := by decide +kernel
theorem dX6_at_53 : decode cX6_at 53 = .ok (.iaload, 1) := by decide +kernel
theorem dX6_at_54 : decode cX6_at 54 = .ok (.iconst 1, 1) := by decide +kernel
theorem dX6_at_55 : decode cX6_at 55 = .ok (.invokevirtual 81, 3) := by decide +kernel
theorem dX6_at_58 : decode cX6_at 58 = .ok (.goto 8, 3) := by decide +kernel
theorem dX6_at_61 : decode cX6_at 61 = .ok (.aload_n 0, 1) := by decide +kernel
theorem dX6_at_62 : decode cX6_at 62 = .ok (.iconst 2, 1) := by decide +kernel
theorem dX6_at_63 : decode cX6_at 63 = .ok (.invokevirtual 73, 3) := by decide +kernel
theorem dX6_at_66 : decode cX6_at 66 = .ok (.ireturn, 1) := by decide +kernel
theorem dX6_tear_0 : decode cX6_tear 0 = .ok (.iload_n 1, 1) := by decide +kernel
theorem dX6_tear_1 : decode cX6_tear 1 = .ok (.invokestatic 69, 3) := by decide +kernel
theorem dX6_tear_4 : decode cX6_tear 4 = .ok (.ifCond .ne 5, 3) := by decide +kernel
theorem dX6_tear_7 : decode cX6_tear 7 = .ok (.iconst (-1), 1) := by decide +kernel
theorem dX6_tear_8 : decode cX6_tear 8 = .ok (.ireturn, 1) := by decide +kernel
theorem dX6_tear_9 : decode cX6_tear 9 = .ok (.aload_n 0, 1) := by decide +kernel
theorem dX6_tear_10 : decode cX6_tear 10 = .ok (.getfield 19, 3) := by decide +kernel
theorem dX6_tear_13 : decode cX6_tear 13 = .ok (.iload_n 1, 1) := by decide +kernel
theorem dX6_tear_14 : decode cX6_tear 14 = .ok (.iaload, 1) := by decide +kernel
theorem dX6_tear_15 : decode cX6_tear 15 = .ok (.ifCond .ge 9, 3) := by decide +kernel
theorem dX6_tear_18 : decode cX6_tear 18 = .ok (.aload_n 0, 1) := by decide +kernel
theorem dX6_tear_19 : decode cX6_tear 19 = .ok (.iconst 1, 1) := by decide +kernel
theorem dX6_tear_20 : decode cX6_tear 20 = .ok (.invokevirtual 73, 3) := by decide +kernel
theorem dX6_tear_23 : decode cX6_tear 23 = .ok (.ireturn, 1) := by decide +kernel
theorem dX6_tear_24 : decode cX6_tear 24 = .ok (.aload_n 0, 1) := by decide +kernel
theorem dX6_tear_25 : decode cX6_tear 25 = .ok (.getfield 19, 3) := by decide +kernel
theorem dX6_tear_28 : decode cX6_tear 28 = .ok (.iload_n 1, 1) := by decide +kernel
theorem dX6_tear_29 : decode cX6_tear 29 = .ok (.iconst (-1), 1) := by decide +kernel
theorem dX6_tear_30 : decode cX6_tear 30 = .ok (.iastore, 1) := by decide +kernel
theorem dX6_tear_31 : decode cX6_tear 31 = .ok (.iconst 1, 1) := by decide +kernel
theorem dX6_tear_32 : decode cX6_tear 32 = .ok (.ireturn, 1) := by decide +kernel
theorem dX6_fits_0 : decode cX6_fits 0 = .ok (.iload_n 0, 1) := by decide +kernel
theorem dX6_fits_1 : decode cX6_fits 1 = .ok (.ifCond .lt 18, 3) := by decide +kernel
theorem dX6_fits_4 : decode cX6_fits 4 = .ok (.iload_n 0, 1) := by decide +kernel
theorem dX6_fits_5 : decode cX6_fits 5 = .ok (.i2l, 1) := by decide +kernel
theorem dX6_fits_6 : decode cX6_fits 6 = .ok (.iload_n 1, 1) := by decide +kernel
theorem dX6_fits_7 : decode cX6_fits 7 = .ok (.i2l, 1) := by decide +kernel
theorem dX6_fits_8 : decode cX6_fits 8 = .ok (.ladd, 1) := by decide +kernel
theorem dX6_fits_9 : decode cX6_fits 9 = .ok (.iload_n 2, 1) := by decide +kernel
theorem dX6_fits_10 : decode cX6_fits 10 = .ok (.i2l, 1) := by decide +kernel
theorem dX6_fits_11 : decode cX6_fits 11 = .ok (.lcmp, 1) := by decide +kernel
theorem dX6_fits_12 : decode cX6_fits 12 = .ok (.ifCond .gt 7, 3) := by decide +kernel
theorem dX6_fits_15 : decode cX6_fits 15 = .ok (.iconst 1, 1) := by decide +kernel
theorem dX6_fits_16 : decode cX6_fits 16 = .ok (.goto 4, 3) := by decide +kernel
theorem dX6_fits_19 : decode cX6_fits 19 = .ok (.iconst 0, 1) := by decide +kernel
theorem dX6_fits_20 : decode cX6_fits 20 = .ok (.ireturn, 1) := by decide +kernel
theorem dX6_copy_0 : decode cX6_copy 0 = .ok (.iload_n 1, 1) := by decide +kernel
theorem dX6_copy_1 : decode cX6_copy 1 = .ok (.invokestatic 69, 3) := by decide +kernel
theorem dX6_copy_4 : decode cX6_copy 4 = .ok (.ifCond .eq 10, 3) := by decide +kernel
theorem dX6_copy_7 : decode cX6_copy 7 = .ok (.iload_n 3, 1) := by decide +kernel
theorem dX6_copy_8 : decode cX6_copy 8 = .ok (.invokestatic 69, 3) := by decide +kernel
theorem dX6_copy_11 : decode cX6_copy 11 = .ok (.ifCond .ne 5, 3) := by decide +kernel
theorem dX6_copy_14 : decode cX6_copy 14 = .ok (.iconst (-1), 1) := by decide +kernel
theorem dX6_copy_15 : decode cX6_copy 15 = .ok (.ireturn, 1) := by decide +kernel
theorem dX6_copy_16 : decode cX6_copy 16 = .ok (.iload 5, 2) := by decide +kernel
theorem dX6_copy_18 : decode cX6_copy 18 = .ok (.ifCond .ge 9, 3) := by decide +kernel
theorem dX6_copy_21 : decode cX6_copy 21 = .ok (.aload_n 0, 1) := by decide +kernel
theorem dX6_copy_22 : decode cX6_copy 22 = .ok (.iconst 5, 1) := by decide +kernel
theorem dX6_copy_23 : decode cX6_copy 23 = .ok (.invokevirtual 73, 3) := by decide +kernel
theorem dX6_copy_26 : decode cX6_copy 26 = .ok (.ireturn, 1) := by decide +kernel
theorem dX6_copy_27 : decode cX6_copy 27 = .ok (.aload_n 0, 1) := by decide +kernel
theorem dX6_copy_28 : decode cX6_copy 28 = .ok (.getfield 19, 3) := by decide +kernel
theorem dX6_copy_31 : decode cX6_copy 31 = .ok (.iload_n 1, 1) := by decide +kernel
theorem dX6_copy_32 : decode cX6_copy 32 = .ok (.iaload, 1) := by decide +kernel
theorem dX6_copy_33 : decode cX6_copy 33 = .ok (.ifCond .lt 12, 3) := by decide +kernel
theorem dX6_copy_36 : decode cX6_copy 36 = .ok (.aload_n 0, 1) := by decide +kernel
theorem dX6_copy_37 : decode cX6_copy 37 = .ok (.getfield 19, 3) := by decide +kernel
theorem dX6_copy_40 : decode cX6_copy 40 = .ok (.iload_n 3, 1) := by decide +kernel
theorem dX6_copy_41 : decode cX6_copy 41 = .ok (.iaload, 1) := by decide +kernel
theorem dX6_copy_42 : decode cX6_copy 42 = .ok (.ifCond .ge 9, 3) := by decide +kernel
theorem dX6_copy_45 : decode cX6_copy 45 = .ok (.aload_n 0, 1) := by decide +kernel
theorem dX6_copy_46 : decode cX6_copy 46 = .ok (.iconst 1, 1) := by decide +kernel
theorem dX6_copy_47 : decode cX6_copy 47 = .ok (.invokevirtual 73, 3) := by decide +kernel
theorem dX6_copy_50 : decode cX6_copy 50 = .ok (.ireturn, 1) := by decide +kernel
theorem dX6_copy_51 : decode cX6_copy 51 = .ok (.iload_n 2, 1) := by decide +kernel
theorem dX6_copy_52 : decode cX6_copy 52 = .ok (.iload 5, 2) := by decide +kernel
theorem dX6_copy_54 : decode cX6_copy 54 = .ok (.aload_n 0, 1) := by decide +kernel
theorem dX6_copy_55 : decode cX6_copy 55 = .ok (.getfield 19, 3) := by decide +kernel
theorem dX6_copy_58 : decode cX6_copy 58 = .ok (.iload_n 1, 1) := by decide +kernel
theorem dX6_copy_59 : decode cX6_copy 59 = .ok (.iaload, 1) := by decide +kernel
theorem dX6_copy_60 : decode cX6_copy 60 = .ok (.invokestatic 84, 3) := by decide +kernel
theorem dX6_copy_63 : decode cX6_copy 63 = .ok (.ifCond .eq 19, 3) := by decide +kernel
theorem dX6_copy_66 : decode cX6_copy 66 = .ok (.iload 4, 2) := by decide +kernel
theorem dX6_copy_68 : decode cX6_copy 68 = .ok (.iload 5, 2) := by decide +kernel
theorem dX6_copy_70 : decode cX6_copy 70 = .ok (.aload_n 0, 1) := by decide +kernel
theorem dX6_copy_71 : decode cX6_copy 71 = .ok (.getfield 19, 3) := by decide +kernel
theorem dX6_copy_74 : decode cX6_copy 74 = .ok (.iload_n 3, 1) := by decide +kernel
theorem dX6_copy_75 : decode cX6_copy 75 = .ok (.iaload, 1) := by decide +kernel
theorem dX6_copy_76 : decode cX6_copy 76 = .ok (.invokestatic 84, 3) := by decide +kernel
theorem dX6_copy_79 : decode cX6_copy 79 = .ok (.ifCond .ne 9, 3) := by decide +kernel
theorem dX6_copy_82 : decode cX6_copy 82 = .ok (.aload_n 0, 1) := by decide +kernel
theorem dX6_copy_83 : decode cX6_copy 83 = .ok (.iconst 2, 1) := by decide +kernel
theorem dX6_copy_84 : decode cX6_copy 84 = .ok (.invokevirtual 73, 3) := by decide +kernel
theorem dX6_copy_87 : decode cX6_copy 87 = .ok (.ireturn, 1) := by decide +kernel
theorem dX6_copy_88 : decode cX6_copy 88 = .ok (.iconst 0, 1) := by decide +kernel
theorem dX6_copy_89 : decode cX6_copy 89 = .ok (.istore 6, 2) := by decide +kernel
theorem dX6_copy_91 : decode cX6_copy 91 = .ok (.iload 6, 2) := by decide +kernel
theorem dX6_copy_93 : decode cX6_copy 93 = .ok (.iload 5, 2) := by decide +kernel
theorem dX6_copy_95 : decode cX6_copy 95 = .ok (.if_icmp .ge 30, 3) := by decide +kernel
theorem dX6_copy_98 : decode cX6_copy 98 = .ok (.aload_n 0, 1) := by decide +kernel
theorem dX6_copy_99 : decode cX6_copy 99 = .ok (.getfield 28, 3) := by decide +kernel
theorem dX6_copy_102 : decode cX6_copy 102 = .ok (.iload 6, 2) := by decide +kernel
theorem dX6_copy_104 : decode cX6_copy 104 = .ok (.aload_n 0, 1) := by decide +kernel
theorem dX6_copy_105 : decode cX6_copy 105 = .ok (.getfield 16, 3) := by decide +kernel
theorem dX6_copy_108 : decode cX6_copy 108 = .ok (.bipush 40, 2) := by decide +kernel
theorem dX6_copy_110 : decode cX6_copy 110 = .ok (.iload_n 1, 1) := by decide +kernel
theorem dX6_copy_111 : decode cX6_copy 111 = .ok (.imul, 1) := by decide +kernel
theorem dX6_copy_112 : decode cX6_copy 112 = .ok (.iload_n 2, 1) := by decide +kernel
theorem dX6_copy_113 : decode cX6_copy 113 = .ok (.iadd, 1) := by decide +kernel
theorem dX6_copy_114 : decode cX6_copy 114 = .ok (.iload 6, 2) := by decide +kernel
theorem dX6_copy_116 : decode cX6_copy 116 = .ok (.iadd, 1) := by decide +kernel
theorem dX6_copy_117 : decode cX6_copy 117 = .ok (.iaload, 1) := by decide +kernel
theorem dX6_copy_118 : decode cX6_copy 118 = .ok (.iastore, 1) := by decide +kernel
theorem dX6_copy_119 : decode cX6_copy 119 = .ok (.iinc 6 1, 3) := by decide +kernel
theorem dX6_copy_122 : decode cX6_copy 122 = .ok (.goto (-31), 3) := by decide +kernel
theorem dX6_copy_125 : decode cX6_copy 125 = .ok (.iconst 0, 1) := by decide +kernel
theorem dX6_copy_126 : decode cX6_copy 126 = .ok (.istore 6, 2) := by decide +kernel
theorem dX6_copy_128 : decode cX6_copy 128 = .ok (.iload 6, 2) := by decide +kernel
theorem dX6_copy_130 : decode cX6_copy 130 = .ok (.iload 5, 2) := by decide +kernel
theorem dX6_copy_132 : decode cX6_copy 132 = .ok (.if_icmp .ge 31, 3) := by decide +kernel
theorem dX6_copy_135 : decode cX6_copy 135 = .ok (.aload_n 0, 1) := by decide +kernel
theorem dX6_copy_136 : decode cX6_copy 136 = .ok (.getfield 16, 3) := by decide +kernel
theorem dX6_copy_139 : decode cX6_copy 139 = .ok (.bipush 40, 2) := by decide +kernel
theorem dX6_copy_141 : decode cX6_copy 141 = .ok (.iload_n 3, 1) := by decide +kernel
theorem dX6_copy_142 : decode cX6_copy 142 = .ok (.imul, 1) := by decide +kernel
theorem dX6_copy_143 : decode cX6_copy 143 = .ok (.iload 4, 2) := by decide +kernel
theorem dX6_copy_145 : decode cX6_copy 145 = .ok (.iadd, 1) := by decide +kernel
theorem dX6_copy_146 : decode cX6_copy 146 = .ok (.iload 6, 2) := by decide +kernel
theorem dX6_copy_148 : decode cX6_copy 148 = .ok (.iadd, 1) := by decide +kernel
theorem dX6_copy_149 : decode cX6_copy 149 = .ok (.aload_n 0, 1) := by decide +kernel
theorem dX6_copy_150 : decode cX6_copy 150 = .ok (.getfield 28, 3) := by decide +kernel
theorem dX6_copy_153 : decode cX6_copy 153 = .ok (.iload 6, 2) := by decide +kernel
theorem dX6_copy_155 : decode cX6_copy 155 = .ok (.iaload, 1) := by decide +kernel
theorem dX6_copy_156 : decode cX6_copy 156 = .ok (.iastore, 1) := by decide +kernel
theorem dX6_copy_157 : decode cX6_copy 157 = .ok (.iinc 6 1, 3) := by decide +kernel
theorem dX6_copy_160 : decode cX6_copy 160 = .ok (.goto (-32), 3) := by decide +kernel
theorem dX6_copy_163 : decode cX6_copy 163 = .ok (.iconst 1, 1) := by decide +kernel
theorem dX6_copy_164 : decode cX6_copy 164 = .ok (.ireturn, 1) := by decide +kernel
theorem dX6_mean_0 : decode cX6_mean 0 = .ok (.iload_n 1, 1) := by decide +kernel
theorem dX6_mean_1 : decode cX6_mean 1 = .ok (.invokestatic 69, 3) := by decide +kernel
theorem dX6_mean_4 : decode cX6_mean 4 = .ok (.ifCond .ne 5, 3) := by decide +kernel
theorem dX6_mean_7 : decode cX6_mean 7 = .ok (.iconst (-1), 1) := by decide +kernel
theorem dX6_mean_8 : decode cX6_mean 8 = .ok (.ireturn, 1) := by decide +kernel
theorem dX6_mean_9 : decode cX6_mean 9 = .ok (.aload_n 0, 1) := by decide +kernel
theorem dX6_mean_10 : decode cX6_mean 10 = .ok (.getfield 19, 3) := by decide +kernel
theorem dX6_mean_13 : decode cX6_mean 13 = .ok (.iload_n 1, 1) := by decide +kernel
theorem dX6_mean_14 : decode cX6_mean 14 = .ok (.iaload, 1) := by decide +kernel
theorem dX6_mean_15 : decode cX6_mean 15 = .ok (.ifCond .ge 9, 3) := by decide +kernel
theorem dX6_mean_18 : decode cX6_mean 18 = .ok (.aload_n 0, 1) := by decide +kernel
theorem dX6_mean_19 : decode cX6_mean 19 = .ok (.iconst 1, 1) := by decide +kernel
theorem dX6_mean_20 : decode cX6_mean 20 = .ok (.invokevirtual 73, 3) := by decide +kernel
theorem dX6_mean_23 : decode cX6_mean 23 = .ok (.ireturn, 1) := by decide +kernel
theorem dX6_mean_24 : decode cX6_mean 24 = .ok (.aload_n 0, 1) := by decide +kernel
theorem dX6_mean_25 : decode cX6_mean 25 = .ok (.getfield 19, 3) := by decide +kernel
theorem dX6_mean_28 : decode cX6_mean 28 = .ok (.iload_n 1, 1) := by decide +kernel
theorem dX6_mean_29 : decode cX6_mean 29 = .ok (.iaload, 1) := by decide +kernel
theorem dX6_mean_30 : decode cX6_mean 30 = .ok (.ifCond .ne 9, 3) := by decide +kernel
theorem dX6_mean_33 : decode cX6_mean 33 = .ok (.aload_n 0, 1) := by decide +kernel
theorem dX6_mean_34 : decode cX6_mean 34 = .ok (.iconst 4, 1) := by decide +kernel
theorem dX6_mean_35 : decode cX6_mean 35 = .ok (.invokevirtual 73, 3) := by decide +kernel
theorem dX6_mean_38 : decode cX6_mean 38 = .ok (.ireturn, 1) := by decide +kernel
theorem dX6_mean_39 : decode cX6_mean 39 = .ok (.lconst 0, 1) := by decide +kernel
theorem dX6_mean_40 : decode cX6_mean 40 = .ok (.lstore_n 2, 1) := by decide +kernel
theorem dX6_mean_41 : decode cX6_mean 41 = .ok (.iconst 0, 1) := by decide +kernel
theorem dX6_mean_42 : decode cX6_mean 42 = .ok (.istore 4, 2) := by decide +kernel
theorem dX6_mean_44 : decode cX6_mean 44 = .ok (.iload 4, 2) := by decide +kernel
theorem dX6_mean_46 : decode cX6_mean 46 = .ok (.aload_n 0, 1) := by decide +kernel
theorem dX6_mean_47 : decode cX6_mean 47 = .ok (.getfield 19, 3) := by decide +kernel
theorem dX6_mean_50 : decode cX6_mean 50 = .ok (.iload_n 1, 1) := by decide +kernel
theorem dX6_mean_51 : decode cX6_mean 51 = .ok (.iaload, 1) := by decide +kernel
theorem dX6_mean_52 : decode cX6_mean 52 = .ok (.if_icmp .ge 25, 3) := by decide +kernel
theorem dX6_mean_55 : decode cX6_mean 55 = .ok (.lload_n 2, 1) := by decide +kernel
theorem dX6_mean_56 : decode cX6_mean 56 = .ok (.aload_n 0, 1) := by decide +kernel
theorem dX6_mean_57 : decode cX6_mean 57 = .ok (.getfield 16, 3) := by decide +kernel
theorem dX6_mean_60 : decode cX6_mean 60 = .ok (.bipush 40, 2) := by decide +kernel
theorem dX6_mean_62 : decode cX6_mean 62 = .ok (.iload_n 1, 1) := by decide +kernel
theorem dX6_mean_63 : decode cX6_mean 63 = .ok (.imul, 1) := by decide +kernel
theorem dX6_mean_64 : decode cX6_mean 64 = .ok (.iload 4, 2) := by decide +kernel
theorem dX6_mean_66 : decode cX6_mean 66 = .ok (.iadd, 1) := by decide +kernel
theorem dX6_mean_67 : decode cX6_mean 67 = .ok (.iaload, 1) := by decide +kernel
theorem dX6_mean_68 : decode cX6_mean 68 = .ok (.i2l, 1) := by decide +kernel
theorem dX6_mean_69 : decode cX6_mean 69 = .ok (.ladd, 1) := by decide +kernel
theorem dX6_mean_70 : decode cX6_mean 70 = .ok (.lstore_n 2, 1) := by decide +kernel
theorem dX6_mean_71 : decode cX6_mean 71 = .ok (.iinc 4 1, 3) := by decide +kernel
theorem dX6_mean_74 : decode cX6_mean 74 = .ok (.goto (-30), 3) := by decide +kernel
theorem dX6_mean_77 : decode cX6_mean 77 = .ok (.aload_n 0, 1) := by decide +kernel
theorem dX6_mean_78 : decode cX6_mean 78 = .ok (.lload_n 2, 1) := by decide +kernel
theorem dX6_mean_79 : decode cX6_mean 79 = .ok (.aload_n 0, 1) := by decide +kernel
theorem dX6_mean_80 : decode cX6_mean 80 = .ok (.getfield 19, 3) := by decide +kernel
theorem dX6_mean_83 : decode cX6_mean 83 = .ok (.iload_n 1, 1) := by decide +kernel
theorem dX6_mean_84 : decode cX6_mean 84 = .ok (.iaload, 1) := by decide +kernel
theorem dX6_mean_85 : decode cX6_mean 85 = .ok (.i2l, 1) := by decide +kernel
theorem dX6_mean_86 : decode cX6_mean 86 = .ok (.ldiv, 1) := by decide +kernel
theorem dX6_mean_87 : decode cX6_mean 87 = .ok (.l2i, 1) := by decide +kernel
theorem dX6_mean_88 : decode cX6_mean 88 = .ok (.iconst 1, 1) := by decide +kernel
theorem dX6_mean_89 : decode cX6_mean 89 = .ok (.invokevirtual 81, 3) := by decide +kernel
theorem dX6_mean_92 : decode cX6_mean 92 = .ok (.ireturn, 1) := by decide +kernel
theorem dX6_text_0 : decode cX6_text 0 = .ok (.iload_n 1, 1) := by decide +kernel
theorem dX6_text_1 : decode cX6_text 1 = .ok (.invokestatic 88, 3) := by decide +kernel
theorem dX6_text_4 : decode cX6_text 4 = .ok (.ifCond .eq 9, 3) := by decide +kernel
theorem dX6_text_7 : decode cX6_text 7 = .ok (.iload_n 2, 1) := by decide +kernel
theorem dX6_text_8 : decode cX6_text 8 = .ok (.bipush 60, 2) := by decide +kernel
theorem dX6_text_10 : decode cX6_text 10 = .ok (.if_icmp .le 5, 3) := by decide +kernel
theorem dX6_text_13 : decode cX6_text 13 = .ok (.iconst (-1), 1) := by decide +kernel
theorem dX6_text_14 : decode cX6_text 14 = .ok (.ireturn, 1) := by decide +kernel
theorem dX6_text_15 : decode cX6_text 15 = .ok (.iload_n 2, 1) := by decide +kernel
theorem dX6_text_16 : decode cX6_text 16 = .ok (.ifCond .ge 9, 3) := by decide +kernel
theorem dX6_text_19 : decode cX6_text 19 = .ok (.aload_n 0, 1) := by decide +kernel
theorem dX6_text_20 : decode cX6_text 20 = .ok (.iconst 5, 1) := by decide +kernel
theorem dX6_text_21 : decode cX6_text 21 = .ok (.invokevirtual 73, 3) := by decide +kernel
theorem dX6_text_24 : decode cX6_text 24 = .ok (.ireturn, 1) := by decide +kernel
theorem dX6_text_25 : decode cX6_text 25 = .ok (.aload_n 0, 1) := by decide +kernel
theorem dX6_text_26 : decode cX6_text 26 = .ok (.getfield 25, 3) := by decide +kernel
theorem dX6_text_29 : decode cX6_text 29 = .ok (.iload_n 1, 1) := by decide +kernel
theorem dX6_text_30 : decode cX6_text 30 = .ok (.iload_n 2, 1) := by decide +kernel
theorem dX6_text_31 : decode cX6_text 31 = .ok (.iastore, 1) := by decide +kernel
theorem dX6_text_32 : decode cX6_text 32 = .ok (.iconst 0, 1) := by decide +kernel
theorem dX6_text_33 : decode cX6_text 33 = .ok (.istore_n 3, 1) := by decide +kernel
theorem dX6_text_34 : decode cX6_text 34 = .ok (.iload_n 3, 1) := by decide +kernel
theorem dX6_text_35 : decode cX6_text 35 = .ok (.bipush 60, 2) := by decide +kernel
theorem dX6_text_37 : decode cX6_text 37 = .ok (.if_icmp .ge 22, 3) := by decide +kernel
theorem dX6_text_40 : decode cX6_text 40 = .ok (.aload_n 0, 1) := by decide +kernel
theorem dX6_text_41 : decode cX6_text 41 = .ok (.getfield 22, 3) := by decide +kernel
theorem dX6_text_44 : decode cX6_text 44 = .ok (.bipush 60, 2) := by decide +kernel
theorem dX6_text_46 : decode cX6_text 46 = .ok (.iload_n 1, 1) := by decide +kernel
theorem dX6_text_47 : decode cX6_text 47 = .ok (.imul, 1) := by decide +kernel
theorem dX6_text_48 : decode cX6_text 48 = .ok (.iload_n 3, 1) := by decide +kernel
theorem dX6_text_49 : decode cX6_text 49 = .ok (.iadd, 1) := by decide +kernel
theorem dX6_text_50 : decode cX6_text 50 = .ok (.bipush 32, 2) := by decide +kernel
theorem dX6_text_52 : decode cX6_text 52 = .ok (.iastore, 1) := by decide +kernel
theorem dX6_text_53 : decode cX6_text 53 = .ok (.iinc 3 1, 3) := by decide +kernel
theorem dX6_text_56 : decode cX6_text 56 = .ok (.goto (-22), 3) := by decide +kernel
theorem dX6_text_59 : decode cX6_text 59 = .ok (.iload_n 2, 1) := by decide +kernel
theorem dX6_text_60 : decode cX6_text 60 = .ok (.ireturn, 1) := by decide +kernel
theorem dX6_put_0 : decode cX6_put 0 = .ok (.iload_n 1, 1) := by decide +kernel
theorem dX6_put_1 : decode cX6_put 1 = .ok (.invokestatic 88, 3) := by decide +kernel
theorem dX6_put_4 : decode cX6_put 4 = .ok (.ifCond .ne 5, 3) := by decide +kernel
theorem dX6_put_7 : decode cX6_put 7 = .ok (.iconst (-1), 1) := by decide +kernel
theorem dX6_put_8 : decode cX6_put 8 = .ok (.ireturn, 1) := by decide +kernel
theorem dX6_put_9 : decode cX6_put 9 = .ok (.aload_n 0, 1) := by decide +kernel
theorem dX6_put_10 : decode cX6_put 10 = .ok (.getfield 25, 3) := by decide +kernel
theorem dX6_put_13 : decode cX6_put 13 = .ok (.iload_n 1, 1) := by decide +kernel
theorem dX6_put_14 : decode cX6_put 14 = .ok (.iaload, 1) := by decide +kernel
theorem dX6_put_15 : decode cX6_put 15 = .ok (.ifCond .ge 9, 3) := by decide +kernel
theorem dX6_put_18 : decode cX6_put 18 = .ok (.aload_n 0, 1) := by decide +kernel
theorem dX6_put_19 : decode cX6_put 19 = .ok (.iconst 1, 1) := by decide +kernel
theorem dX6_put_20 : decode cX6_put 20 = .ok (.invokevirtual 73, 3) := by decide +kernel
theorem dX6_put_23 : decode cX6_put 23 = .ok (.ireturn, 1) := by decide +kernel
theorem dX6_put_24 : decode cX6_put 24 = .ok (.iload_n 2, 1) := by decide +kernel
theorem dX6_put_25 : decode cX6_put 25 = .ok (.i2l, 1) := by decide +kernel
theorem dX6_put_26 : decode cX6_put 26 = .ok (.lconst 0, 1) := by decide +kernel
theorem dX6_put_27 : decode cX6_put 27 = .ok (.aload_n 0, 1) := by decide +kernel
theorem dX6_put_28 : decode cX6_put 28 = .ok (.getfield 25, 3) := by decide +kernel
theorem dX6_put_31 : decode cX6_put 31 = .ok (.iload_n 1, 1) := by decide +kernel
theorem dX6_put_32 : decode cX6_put 32 = .ok (.iaload, 1) := by decide +kernel
theorem dX6_put_33 : decode cX6_put 33 = .ok (.iconst 1, 1) := by decide +kernel
theorem dX6_put_34 : decode cX6_put 34 = .ok (.isub, 1) := by decide +kernel
theorem dX6_put_35 : decode cX6_put 35 = .ok (.i2l, 1) := by decide +kernel
theorem dX6_put_36 : decode cX6_put 36 = .ok (.invokestatic 63, 3) := by decide +kernel
theorem dX6_put_39 : decode cX6_put 39 = .ok (.ifCond .ne 9, 3) := by decide +kernel
theorem dX6_put_42 : decode cX6_put 42 = .ok (.aload_n 0, 1) := by decide +kernel
theorem dX6_put_43 : decode cX6_put 43 = .ok (.iconst 2, 1) := by decide +kernel
theorem dX6_put_44 : decode cX6_put 44 = .ok (.invokevirtual 73, 3) := by decide +kernel
theorem dX6_put_47 : decode cX6_put 47 = .ok (.ireturn, 1) := by decide +kernel
theorem dX6_put_48 : decode cX6_put 48 = .ok (.aload_n 0, 1) := by decide +kernel
theorem dX6_put_49 : decode cX6_put 49 = .ok (.getfield 22, 3) := by decide +kernel
theorem dX6_put_52 : decode cX6_put 52 = .ok (.bipush 60, 2) := by decide +kernel
theorem dX6_put_54 : decode cX6_put 54 = .ok (.iload_n 1, 1) := by decide +kernel
theorem dX6_put_55 : decode cX6_put 55 = .ok (.imul, 1) := by decide +kernel
theorem dX6_put_56 : decode cX6_put 56 = .ok (.iload_n 2, 1) := by decide +kernel
theorem dX6_put_57 : decode cX6_put 57 = .ok (.iadd, 1) := by decide +kernel
theorem dX6_put_58 : decode cX6_put 58 = .ok (.iaload, 1) := by decide +kernel
theorem dX6_put_59 : decode cX6_put 59 = .ok (.istore 4, 2) := by decide +kernel
theorem dX6_put_61 : decode cX6_put 61 = .ok (.aload_n 0, 1) := by decide +kernel
theorem dX6_put_62 : decode cX6_put 62 = .ok (.getfield 22, 3) := by decide +kernel
theorem dX6_put_65 : decode cX6_put 65 = .ok (.bipush 60, 2) := by decide +kernel
theorem dX6_put_67 : decode cX6_put 67 = .ok (.iload_n 1, 1) := by decide +kernel
theorem dX6_put_68 : decode cX6_put 68 = .ok (.imul, 1) := by decide +kernel
theorem dX6_put_69 : decode cX6_put 69 = .ok (.iload_n 2, 1) := by decide +kernel
theorem dX6_put_70 : decode cX6_put 70 = .ok (.iadd, 1) := by decide +kernel
theorem dX6_put_71 : decode cX6_put 71 = .ok (.iload_n 3, 1) := by decide +kernel
theorem dX6_put_72 : decode cX6_put 72 = .ok (.i2b, 1) := by decide +kernel
theorem dX6_put_73 : decode cX6_put 73 = .ok (.iastore, 1) := by decide +kernel
theorem dX6_put_74 : decode cX6_put 74 = .ok (.iload 4, 2) := by decide +kernel
theorem dX6_put_76 : decode cX6_put 76 = .ok (.sipush 1000, 3) := by decide +kernel
theorem dX6_put_79 : decode cX6_put 79 = .ok (.iadd, 1) := by decide +kernel
theorem dX6_put_80 : decode cX6_put 80 = .ok (.ireturn, 1) := by decide +kernel
theorem dX6_kindOf_0 : decode cX6_kindOf 0 = .ok (.iload_n 0, 1) := by decide +kernel
theorem dX6_kindOf_1 : decode cX6_kindOf 1 = .ok (.bipush 104, 2) := by decide +kernel
theorem dX6_kindOf_3 : decode cX6_kindOf 3 = .ok (.if_icmp .ne 7, 3) := by decide +kernel
theorem dX6_kindOf_6 : decode cX6_kindOf 6 = .ok (.iconst 0, 1) := by decide +kernel
theorem dX6_kindOf_7 : decode cX6_kindOf 7 = .ok (.goto 54, 3) := by decide +kernel
theorem dX6_kindOf_10 : decode cX6_kindOf 10 = .ok (.iload_n 0, 1) := by decide +kernel
theorem dX6_kindOf_11 : decode cX6_kindOf 11 = .ok (.bipush 103, 2) := by decide +kernel
theorem dX6_kindOf_13 : decode cX6_kindOf 13 = .ok (.if_icmp .ne 7, 3) := by decide +kernel
theorem dX6_kindOf_16 : decode cX6_kindOf 16 = .ok (.iconst 1, 1) := by decide +kernel
theorem dX6_kindOf_17 : decode cX6_kindOf 17 = .ok (.goto 44, 3) := by decide +kernel
theorem dX6_kindOf_20 : decode cX6_kindOf 20 = .ok (.iload_n 0, 1) := by decide +kernel
theorem dX6_kindOf_21 : decode cX6_kindOf 21 = .ok (.bipush 108, 2) := by decide +kernel
theorem dX6_kindOf_23 : decode cX6_kindOf 23 = .ok (.if_icmp .ne 7, 3) := by decide +kernel
theorem dX6_kindOf_26 : decode cX6_kindOf 26 = .ok (.iconst 2, 1) := by decide +kernel
theorem dX6_kindOf_27 : decode cX6_kindOf 27 = .ok (.goto 34, 3) := by decide +kernel
theorem dX6_kindOf_30 : decode cX6_kindOf 30 = .ok (.iload_n 0, 1) := by decide +kernel
theorem dX6_kindOf_31 : decode cX6_kindOf 31 = .ok (.bipush 97, 2) := by decide +kernel
theorem dX6_kindOf_33 : decode cX6_kindOf 33 = .ok (.if_icmp .ne 7, 3) := by decide +kernel
theorem dX6_kindOf_36 : decode cX6_kindOf 36 = .ok (.iconst 3, 1) := by decide +kernel
theorem dX6_kindOf_37 : decode cX6_kindOf 37 = .ok (.goto 24, 3) := by decide +kernel
theorem dX6_kindOf_40 : decode cX6_kindOf 40 = .ok (.iload_n 0, 1) := by decide +kernel
theorem dX6_kindOf_41 : decode cX6_kindOf 41 = .ok (.bipush 101, 2) := by decide +kernel
theorem dX6_kindOf_43 : decode cX6_kindOf 43 = .ok (.if_icmp .ne 7, 3) := by decide +kernel
theorem dX6_kindOf_46 : decode cX6_kindOf 46 = .ok (.iconst 4, 1) := by decide +kernel
theorem dX6_kindOf_47 : decode cX6_kindOf 47 = .ok (.goto 14, 3) := by decide +kernel
theorem dX6_kindOf_50 : decode cX6_kindOf 50 = .ok (.iload_n 0, 1) := by decide +kernel
theorem dX6_kindOf_51 : decode cX6_kindOf 51 = .ok (.bipush 109, 2) := by decide +kernel
theorem dX6_kindOf_53 : decode cX6_kindOf 53 = .ok (.if_icmp .ne 7, 3) := by decide +kernel
theorem dX6_kindOf_56 : decode cX6_kindOf 56 = .ok (.iconst 5, 1) := by decide +kernel
theorem dX6_kindOf_57 : decode cX6_kindOf 57 = .ok (.goto 4, 3) := by decide +kernel
theorem dX6_kindOf_60 : decode cX6_kindOf 60 = .ok (.iconst (-1), 1) := by decide +kernel
theorem dX6_kindOf_61 : decode cX6_kindOf 61 = .ok (.ireturn, 1) := by decide +kernel
theorem dX6_housesOf_0 : decode cX6_housesOf 0 = .ok (.iconst 0, 1) := by decide +kernel
theorem dX6_housesOf_1 : decode cX6_housesOf 1 = .ok (.istore_n 2, 1) := by decide +kernel
theorem dX6_housesOf_2 : decode cX6_housesOf 2 = .ok (.iconst 0, 1) := by decide +kernel
theorem dX6_housesOf_3 : decode cX6_housesOf 3 = .ok (.istore_n 3, 1) := by decide +kernel
theorem dX6_housesOf_4 : decode cX6_housesOf 4 = .ok (.iload_n 3, 1) := by decide +kernel
theorem dX6_housesOf_5 : decode cX6_housesOf 5 = .ok (.aload_n 0, 1) := by decide +kernel
theorem dX6_housesOf_6 : decode cX6_housesOf 6 = .ok (.getfield 7, 3) := by decide +kernel
theorem dX6_housesOf_9 : decode cX6_housesOf 9 = .ok (.iload_n 1, 1) := by decide +kernel
theorem dX6_housesOf_10 : decode cX6_housesOf 10 = .ok (.iconst 0, 1) := by decide +kernel
theorem dX6_housesOf_11 : decode cX6_housesOf 11 = .ok (.iadd, 1) := by decide +kernel
theorem dX6_housesOf_12 : decode cX6_housesOf 12 = .ok (.iaload, 1) := by decide +kernel
theorem dX6_housesOf_13 : decode cX6_housesOf 13 = .ok (.if_icmp .ge 22, 3) := by decide +kernel
theorem dX6_housesOf_16 : decode cX6_housesOf 16 = .ok (.iload_n 2, 1) := by decide +kernel
theorem dX6_housesOf_17 : decode cX6_housesOf 17 = .ok (.aload_n 0, 1) := by decide +kernel
theorem dX6_housesOf_18 : decode cX6_housesOf 18 = .ok (.getfield 7, 3) := by decide +kernel
theorem dX6_housesOf_21 : decode cX6_housesOf 21 = .ok (.iload_n 1, 1) := by decide +kernel
theorem dX6_housesOf_22 : decode cX6_housesOf 22 = .ok (.iconst 1, 1) := by decide +kernel
theorem dX6_housesOf_23 : decode cX6_housesOf 23 = .ok (.iadd, 1) := by decide +kernel
theorem dX6_housesOf_24 : decode cX6_housesOf 24 = .ok (.iload_n 3, 1) := by decide +kernel
theorem dX6_housesOf_25 : decode cX6_housesOf 25 = .ok (.iadd, 1) := by decide +kernel
theorem dX6_housesOf_26 : decode cX6_housesOf 26 = .ok (.iaload, 1) := by decide +kernel
theorem dX6_housesOf_27 : decode cX6_housesOf 27 = .ok (.iadd, 1) := by decide +kernel
theorem dX6_housesOf_28 : decode cX6_housesOf 28 = .ok (.istore_n 2, 1) := by decide +kernel
theorem dX6_housesOf_29 : decode cX6_housesOf 29 = .ok (.iinc 3 1, 3) := by decide +kernel
theorem dX6_housesOf_32 : decode cX6_housesOf 32 = .ok (.goto (-28), 3) := by decide +kernel
theorem dX6_housesOf_35 : decode cX6_housesOf 35 = .ok (.iload_n 2, 1) := by decide +kernel
theorem dX6_housesOf_36 : decode cX6_housesOf 36 = .ok (.ireturn, 1) := by decide +kernel
theorem dX6_byteAt_0 : decode cX6_byteAt 0 = .ok (.iload_n 2, 1) := by decide +kernel
theorem dX6_byteAt_1 : decode cX6_byteAt 1 = .ok (.aload_n 0, 1) := by decide +kernel
theorem dX6_byteAt_2 : decode cX6_byteAt 2 = .ok (.getfield 25, 3) := by decide +kernel
theorem dX6_byteAt_5 : decode cX6_byteAt 5 = .ok (.iload_n 1, 1) := by decide +kernel
theorem dX6_byteAt_6 : decode cX6_byteAt 6 = .ok (.iaload, 1) := by decide +kernel
theorem dX6_byteAt_7 : decode cX6_byteAt 7 = .ok (.if_icmp .ge 17, 3) := by decide +kernel
theorem dX6_byteAt_10 : decode cX6_byteAt 10 = .ok (.aload_n 0, 1) := by decide +kernel
theorem dX6_byteAt_11 : decode cX6_byteAt 11 = .ok (.getfield 22, 3) := by decide +kernel
theorem dX6_byteAt_14 : decode cX6_byteAt 14 = .ok (.bipush 60, 2) := by decide +kernel
theorem dX6_byteAt_16 : decode cX6_byteAt 16 = .ok (.iload_n 1, 1) := by decide +kernel
theorem dX6_byteAt_17 : decode cX6_byteAt 17 = .ok (.imul, 1) := by decide +kernel
theorem dX6_byteAt_18 : decode cX6_byteAt 18 = .ok (.iload_n 2, 1) := by decide +kernel
theorem dX6_byteAt_19 : decode cX6_byteAt 19 = .ok (.iadd, 1) := by decide +kernel
theorem dX6_byteAt_20 : decode cX6_byteAt 20 = .ok (.iaload, 1) := by decide +kernel
theorem dX6_byteAt_21 : decode cX6_byteAt 21 = .ok (.goto 6, 3) := by decide +kernel
theorem dX6_byteAt_24 : decode cX6_byteAt 24 = .ok (.sipush (-1000), 3) := by decide +kernel
theorem dX6_byteAt_27 : decode cX6_byteAt 27 = .ok (.ireturn, 1) := by decide +kernel
theorem dX6_faultOf_0 : decode cX6_faultOf 0 = .ok (.iconst 0, 1) := by decide +kernel
theorem dX6_faultOf_1 : decode cX6_faultOf 1 = .ok (.istore_n 2, 1) := by decide +kernel
theorem dX6_faultOf_2 : decode cX6_faultOf 2 = .ok (.iload_n 2, 1) := by decide +kernel
theorem dX6_faultOf_3 : decode cX6_faultOf 3 = .ok (.bipush 66, 2) := by decide +kernel
theorem dX6_faultOf_5 : decode cX6_faultOf 5 = .ok (.if_icmp .ge 20, 3) := by decide +kernel
theorem dX6_faultOf_8 : decode cX6_faultOf 8 = .ok (.aload_n 0, 1) := by decide +kernel
theorem dX6_faultOf_9 : decode cX6_faultOf 9 = .ok (.getfield 7, 3) := by decide +kernel
theorem dX6_faultOf_12 : decode cX6_faultOf 12 = .ok (.sipush 10824, 3) := by decide +kernel
theorem dX6_faultOf_15 : decode cX6_faultOf 15 = .ok (.iload_n 2, 1) := by decide +kernel
theorem dX6_faultOf_16 : decode cX6_faultOf 16 = .ok (.iadd, 1) := by decide +kernel
theorem dX6_faultOf_17 : decode cX6_faultOf 17 = .ok (.iconst 0, 1) := by decide +kernel
theorem dX6_faultOf_18 : decode cX6_faultOf 18 = .ok (.iastore, 1) := by decide +kernel
theorem dX6_faultOf_19 : decode cX6_faultOf 19 = .ok (.iinc 2 1, 3) := by decide +kernel
theorem dX6_faultOf_22 : decode cX6_faultOf 22 = .ok (.goto (-20), 3) := by decide +kernel
theorem dX6_faultOf_25 : decode cX6_faultOf 25 = .ok (.iconst 0, 1) := by decide +kernel
theorem dX6_faultOf_26 : decode cX6_faultOf 26 = .ok (.istore_n 2, 1) := by decide +kernel
theorem dX6_faultOf_27 : decode cX6_faultOf 27 = .ok (.iload_n 2, 1) := by decide +kernel
theorem dX6_faultOf_28 : decode cX6_faultOf 28 = .ok (.aload_n 0, 1) := by decide +kernel
theorem dX6_faultOf_29 : decode cX6_faultOf 29 = .ok (.getfield 25, 3) := by decide +kernel
theorem dX6_faultOf_32 : decode cX6_faultOf 32 = .ok (.iload_n 1, 1) := by decide +kernel
theorem dX6_faultOf_33 : decode cX6_faultOf 33 = .ok (.iaload, 1) := by decide +kernel
theorem dX6_faultOf_34 : decode cX6_faultOf 34 = .ok (.if_icmp .ge 153, 3) := by decide +kernel
theorem dX6_faultOf_37 : decode cX6_faultOf 37 = .ok (.aload_n 0, 1) := by decide +kernel
theorem dX6_faultOf_38 : decode cX6_faultOf 38 = .ok (.iload_n 1, 1) := by decide +kernel
theorem dX6_faultOf_39 : decode cX6_faultOf 39 = .ok (.iload_n 2, 1) := by decide +kernel
theorem dX6_faultOf_40 : decode cX6_faultOf 40 = .ok (.invokevirtual 91, 3) := by decide +kernel
theorem dX6_faultOf_43 : decode cX6_faultOf 43 = .ok (.istore_n 3, 1) := by decide +kernel
theorem dX6_faultOf_44 : decode cX6_faultOf 44 = .ok (.iload_n 3, 1) := by decide +kernel
theorem dX6_faultOf_45 : decode cX6_faultOf 45 = .ok (.invokestatic 94, 3) := by decide +kernel
theorem dX6_faultOf_48 : decode cX6_faultOf 48 = .ok (.istore 4, 2) := by decide +kernel
theorem dX6_faultOf_50 : decode cX6_faultOf 50 = .ok (.aload_n 0, 1) := by decide +kernel
theorem dX6_faultOf_51 : decode cX6_faultOf 51 = .ok (.getfield 7, 3) := by decide +kernel
theorem dX6_faultOf_54 : decode cX6_faultOf 54 = .ok (.sipush 10824, 3) := by decide +kernel
theorem dX6_faultOf_57 : decode cX6_faultOf 57 = .ok (.iaload, 1) := by decide +kernel
theorem dX6_faultOf_58 : decode cX6_faultOf 58 = .ok (.iconst 1, 1) := by decide +kernel
theorem dX6_faultOf_59 : decode cX6_faultOf 59 = .ok (.isub, 1) := by decide +kernel
theorem dX6_faultOf_60 : decode cX6_faultOf 60 = .ok (.istore 5, 2) := by decide +kernel
theorem dX6_faultOf_62 : decode cX6_faultOf 62 = .ok (.iload_n 3, 1) := by decide +kernel
theorem dX6_faultOf_63 : decode cX6_faultOf 63 = .ok (.bipush 114, 2) := by decide +kernel
theorem dX6_faultOf_65 : decode cX6_faultOf 65 = .ok (.if_icmp .ne 26, 3) := by decide +kernel
theorem dX6_faultOf_68 : decode cX6_faultOf 68 = .ok (.iload 5, 2) := by decide +kernel
theorem dX6_faultOf_70 : decode cX6_faultOf 70 = .ok (.iconst 4, 1) := by decide +kernel
theorem dX6_faultOf_71 : decode cX6_faultOf 71 = .ok (.if_icmp .ne 5, 3) := by decide +kernel
theorem dX6_faultOf_74 : decode cX6_faultOf 74 = .ok (.iload_n 2, 1) := by decide +kernel
theorem dX6_faultOf_75 : decode cX6_faultOf 75 = .ok (.ireturn, 1) := by decide +kernel
theorem dX6_faultOf_76 : decode cX6_faultOf 76 = .ok (.aload_n 0, 1) := by decide +kernel
theorem dX6_faultOf_77 : decode cX6_faultOf 77 = .ok (.getfield 7, 3) := by decide +kernel
theorem dX6_faultOf_80 : decode cX6_faultOf 80 = .ok (.sipush 10824, 3) := by decide +kernel
theorem dX6_faultOf_83 : decode cX6_faultOf 83 = .ok (.dup2, 1) := by decide +kernel
theorem dX6_faultOf_84 : decode cX6_faultOf 84 = .ok (.iaload, 1) := by decide +kernel
theorem dX6_faultOf_85 : decode cX6_faultOf 85 = .ok (.iconst 1, 1) := by decide +kernel
theorem dX6_faultOf_86 : decode cX6_faultOf 86 = .ok (.iadd, 1) := by decide +kernel
theorem dX6_faultOf_87 : decode cX6_faultOf 87 = .ok (.iastore, 1) := by decide +kernel
theorem dX6_faultOf_88 : decode cX6_faultOf 88 = .ok (.goto 93, 3) := by decide +kernel
theorem dX6_faultOf_91 : decode cX6_faultOf 91 = .ok (.iload_n 3, 1) := by decide +kernel
theorem dX6_faultOf_92 : decode cX6_faultOf 92 = .ok (.bipush 32, 2) := by decide +kernel
theorem dX6_faultOf_94 : decode cX6_faultOf 94 = .ok (.if_icmp .eq 87, 3) := by decide +kernel
theorem dX6_faultOf_97 : decode cX6_faultOf 97 = .ok (.iload 4, 2) := by decide +kernel
theorem dX6_faultOf_99 : decode cX6_faultOf 99 = .ok (.ifCond .lt 36, 3) := by decide +kernel
theorem dX6_faultOf_102 : decode cX6_faultOf 102 = .ok (.iload 5, 2) := by decide +kernel
theorem dX6_faultOf_104 : decode cX6_faultOf 104 = .ok (.ifCond .lt 31, 3) := by decide +kernel
theorem dX6_faultOf_107 : decode cX6_faultOf 107 = .ok (.aload_n 0, 1) := by decide +kernel
theorem dX6_faultOf_108 : decode cX6_faultOf 108 = .ok (.getfield 7, 3) := by decide +kernel
theorem dX6_faultOf_111 : decode cX6_faultOf 111 = .ok (.sipush 10825, 3) := by decide +kernel
theorem dX6_faultOf_114 : decode cX6_faultOf 114 = .ok (.iload 5, 2) := by decide +kernel
theorem dX6_faultOf_116 : decode cX6_faultOf 116 = .ok (.iadd, 1) := by decide +kernel
theorem dX6_faultOf_117 : decode cX6_faultOf 117 = .ok (.iaload, 1) := by decide +kernel
theorem dX6_faultOf_118 : decode cX6_faultOf 118 = .ok (.bipush 6, 2) := by decide +kernel
theorem dX6_faultOf_120 : decode cX6_faultOf 120 = .ok (.if_icmp .eq 15, 3) := by decide +kernel
theorem dX6_faultOf_123 : decode cX6_faultOf 123 = .ok (.aload_n 0, 1) := by decide +kernel
theorem dX6_faultOf_124 : decode cX6_faultOf 124 = .ok (.sipush 10824, 3) := by decide +kernel
theorem dX6_faultOf_127 : decode cX6_faultOf 127 = .ok (.invokevirtual 97, 3) := by decide +kernel
theorem dX6_faultOf_130 : decode cX6_faultOf 130 = .ok (.bipush 12, 2) := by decide +kernel
theorem dX6_faultOf_132 : decode cX6_faultOf 132 = .ok (.if_icmp .ne 5, 3) := by decide +kernel
theorem dX6_faultOf_135 : decode cX6_faultOf 135 = .ok (.iload_n 2, 1) := by decide +kernel
theorem dX6_faultOf_136 : decode cX6_faultOf 136 = .ok (.ireturn, 1) := by decide +kernel
theorem dX6_faultOf_137 : decode cX6_faultOf 137 = .ok (.iinc 2 1, 3) := by decide +kernel
theorem dX6_faultOf_140 : decode cX6_faultOf 140 = .ok (.aload_n 0, 1) := by decide +kernel
theorem dX6_faultOf_141 : decode cX6_faultOf 141 = .ok (.iload_n 1, 1) := by decide +kernel
theorem dX6_faultOf_142 : decode cX6_faultOf 142 = .ok (.iload_n 2, 1) := by decide +kernel
theorem dX6_faultOf_143 : decode cX6_faultOf 143 = .ok (.invokevirtual 91, 3) := by decide +kernel
theorem dX6_faultOf_146 : decode cX6_faultOf 146 = .ok (.i2l, 1) := by decide +kernel
theorem dX6_faultOf_147 : decode cX6_faultOf 147 = .ok (.ldc2_w 100, 3) := by decide +kernel
theorem dX6_faultOf_150 : decode cX6_faultOf 150 = .ok (.ldc2_w 102, 3) := by decide +kernel
theorem dX6_faultOf_153 : decode cX6_faultOf 153 = .ok (.invokestatic 63, 3) := by decide +kernel
theorem dX6_faultOf_156 : decode cX6_faultOf 156 = .ok (.ifCond .ne 5, 3) := by decide +kernel
theorem dX6_faultOf_159 : decode cX6_faultOf 159 = .ok (.iload_n 2, 1) := by decide +kernel
theorem dX6_faultOf_160 : decode cX6_faultOf 160 = .ok (.ireturn, 1) := by decide +kernel
theorem dX6_faultOf_161 : decode cX6_faultOf 161 = .ok (.aload_n 0, 1) := by decide +kernel
theorem dX6_faultOf_162 : decode cX6_faultOf 162 = .ok (.sipush 10824, 3) := by decide +kernel
theorem dX6_faultOf_165 : decode cX6_faultOf 165 = .ok (.iload 5, 2) := by decide +kernel
theorem dX6_faultOf_167 : decode cX6_faultOf 167 = .ok (.iload 4, 2) := by decide +kernel
theorem dX6_faultOf_169 : decode cX6_faultOf 169 = .ok (.aload_n 0, 1) := by decide +kernel
theorem dX6_faultOf_170 : decode cX6_faultOf 170 = .ok (.iload_n 1, 1) := by decide +kernel
theorem dX6_faultOf_171 : decode cX6_faultOf 171 = .ok (.iload_n 2, 1) := by decide +kernel
theorem dX6_faultOf_172 : decode cX6_faultOf 172 = .ok (.invokevirtual 91, 3) := by decide +kernel
theorem dX6_faultOf_175 : decode cX6_faultOf 175 = .ok (.bipush 48, 2) := by decide +kernel
theorem dX6_faultOf_177 : decode cX6_faultOf 177 = .ok (.isub, 1) := by decide +kernel
theorem dX6_faultOf_178 : decode cX6_faultOf 178 = .ok (.invokevirtual 104, 3) := by decide +kernel
theorem dX6_faultOf_181 : decode cX6_faultOf 181 = .ok (.iinc 2 1, 3) := by decide +kernel
theorem dX6_faultOf_184 : decode cX6_faultOf 184 = .ok (.goto (-157), 3) := by decide +kernel
theorem dX6_faultOf_187 : decode cX6_faultOf 187 = .ok (.aload_n 0, 1) := by decide +kernel
theorem dX6_faultOf_188 : decode cX6_faultOf 188 = .ok (.getfield 7, 3) := by decide +kernel
theorem dX6_faultOf_191 : decode cX6_faultOf 191 = .ok (.sipush 10824, 3) := by decide +kernel
theorem dX6_faultOf_194 : decode cX6_faultOf 194 = .ok (.iaload, 1) := by decide +kernel
theorem dX6_faultOf_195 : decode cX6_faultOf 195 = .ok (.ifCond .ne 12, 3) := by decide +kernel
theorem dX6_faultOf_198 : decode cX6_faultOf 198 = .ok (.aload_n 0, 1) := by decide +kernel
theorem dX6_faultOf_199 : decode cX6_faultOf 199 = .ok (.getfield 25, 3) := by decide +kernel
theorem dX6_faultOf_202 : decode cX6_faultOf 202 = .ok (.iload_n 1, 1) := by decide +kernel
theorem dX6_faultOf_203 : decode cX6_faultOf 203 = .ok (.iaload, 1) := by decide +kernel
theorem dX6_faultOf_204 : decode cX6_faultOf 204 = .ok (.goto 5, 3) := by decide +kernel
theorem dX6_faultOf_207 : decode cX6_faultOf 207 = .ok (.bipush (-9), 2) := by decide +kernel
theorem dX6_faultOf_209 : decode cX6_faultOf 209 = .ok (.ireturn, 1) := by decide +kernel
theorem dX6_fault_0 : decode cX6_fault 0 = .ok (.iload_n 1, 1) := by decide +kernel
theorem dX6_fault_1 : decode cX6_fault 1 = .ok (.invokestatic 88, 3) := by decide +kernel
theorem dX6_fault_4 : decode cX6_fault 4 = .ok (.ifCond .ne 5, 3) := by decide +kernel
theorem dX6_fault_7 : decode cX6_fault 7 = .ok (.iconst (-1), 1) := by decide +kernel
theorem dX6_fault_8 : decode cX6_fault 8 = .ok (.ireturn, 1) := by decide +kernel
theorem dX6_fault_9 : decode cX6_fault 9 = .ok (.aload_n 0, 1) := by decide +kernel
theorem dX6_fault_10 : decode cX6_fault 10 = .ok (.getfield 25, 3) := by decide +kernel
theorem dX6_fault_13 : decode cX6_fault 13 = .ok (.iload_n 1, 1) := by decide +kernel
theorem dX6_fault_14 : decode cX6_fault 14 = .ok (.iaload, 1) := by decide +kernel
theorem dX6_fault_15 : decode cX6_fault 15 = .ok (.ifCond .ge 11, 3) := by decide +kernel
theorem dX6_fault_18 : decode cX6_fault 18 = .ok (.aload_n 0, 1) := by decide +kernel
theorem dX6_fault_19 : decode cX6_fault 19 = .ok (.iconst 1, 1) := by decide +kernel
theorem dX6_fault_20 : decode cX6_fault 20 = .ok (.invokevirtual 73, 3) := by decide +kernel
theorem dX6_fault_23 : decode cX6_fault 23 = .ok (.goto 8, 3) := by decide +kernel
theorem dX6_fault_26 : decode cX6_fault 26 = .ok (.aload_n 0, 1) := by decide +kernel
theorem dX6_fault_27 : decode cX6_fault 27 = .ok (.iload_n 1, 1) := by decide +kernel
theorem dX6_fault_28 : decode cX6_fault 28 = .ok (.invokevirtual 108, 3) := by decide +kernel
theorem dX6_fault_31 : decode cX6_fault 31 = .ok (.ireturn, 1) := by decide +kernel
theorem dX6_rock_0 : decode cX6_rock 0 = .ok (.iload_n 1, 1) := by decide +kernel
theorem dX6_rock_1 : decode cX6_rock 1 = .ok (.invokestatic 88, 3) := by decide +kernel
theorem dX6_rock_4 : decode cX6_rock 4 = .ok (.ifCond .ne 5, 3) := by decide +kernel
theorem dX6_rock_7 : decode cX6_rock 7 = .ok (.iconst (-1), 1) := by decide +kernel
theorem dX6_rock_8 : decode cX6_rock 8 = .ok (.ireturn, 1) := by decide +kernel
theorem dX6_rock_9 : decode cX6_rock 9 = .ok (.aload_n 0, 1) := by decide +kernel
theorem dX6_rock_10 : decode cX6_rock 10 = .ok (.getfield 25, 3) := by decide +kernel
theorem dX6_rock_13 : decode cX6_rock 13 = .ok (.iload_n 1, 1) := by decide +kernel
theorem dX6_rock_14 : decode cX6_rock 14 = .ok (.iaload, 1) := by decide +kernel
theorem dX6_rock_15 : decode cX6_rock 15 = .ok (.ifCond .ge 9, 3) := by decide +kernel
theorem dX6_rock_18 : decode cX6_rock 18 = .ok (.aload_n 0, 1) := by decide +kernel
theorem dX6_rock_19 : decode cX6_rock 19 = .ok (.iconst 1, 1) := by decide +kernel
theorem dX6_rock_20 : decode cX6_rock 20 = .ok (.invokevirtual 73, 3) := by decide +kernel
theorem dX6_rock_23 : decode cX6_rock 23 = .ok (.ireturn, 1) := by decide +kernel
theorem dX6_rock_24 : decode cX6_rock 24 = .ok (.aload_n 0, 1) := by decide +kernel
theorem dX6_rock_25 : decode cX6_rock 25 = .ok (.iload_n 1, 1) := by decide +kernel
theorem dX6_rock_26 : decode cX6_rock 26 = .ok (.invokevirtual 108, 3) := by decide +kernel
theorem dX6_rock_29 : decode cX6_rock 29 = .ok (.bipush (-9), 2) := by decide +kernel
theorem dX6_rock_31 : decode cX6_rock 31 = .ok (.if_icmp .eq 6, 3) := by decide +kernel
theorem dX6_rock_34 : decode cX6_rock 34 = .ok (.bipush (-4), 2) := by decide +kernel
theorem dX6_rock_36 : decode cX6_rock 36 = .ok (.ireturn, 1) := by decide +kernel
theorem dX6_rock_37 : decode cX6_rock 37 = .ok (.aload_n 0, 1) := by decide +kernel
theorem dX6_rock_38 : decode cX6_rock 38 = .ok (.sipush 10824, 3) := by decide +kernel
theorem dX6_rock_41 : decode cX6_rock 41 = .ok (.iconst 0, 1) := by decide +kernel
theorem dX6_rock_42 : decode cX6_rock 42 = .ok (.bipush 66, 2) := by decide +kernel
theorem dX6_rock_44 : decode cX6_rock 44 = .ok (.invokevirtual 111, 3) := by decide +kernel
theorem dX6_rock_47 : decode cX6_rock 47 = .ok (.aload_n 0, 1) := by decide +kernel
theorem dX6_rock_48 : decode cX6_rock 48 = .ok (.iconst 0, 1) := by decide +kernel
theorem dX6_rock_49 : decode cX6_rock 49 = .ok (.putfield 115, 3) := by decide +kernel
theorem dX6_rock_52 : decode cX6_rock 52 = .ok (.iconst 0, 1) := by decide +kernel
theorem dX6_rock_53 : decode cX6_rock 53 = .ok (.istore_n 2, 1) := by decide +kernel
theorem dX6_rock_54 : decode cX6_rock 54 = .ok (.iload_n 2, 1) := by decide +kernel
theorem dX6_rock_55 : decode cX6_rock 55 = .ok (.iconst 3, 1) := by decide +kernel
theorem dX6_rock_56 : decode cX6_rock 56 = .ok (.if_icmp .ge 16, 3) := by decide +kernel
theorem dX6_rock_59 : decode cX6_rock 59 = .ok (.aload_n 0, 1) := by decide +kernel
theorem dX6_rock_60 : decode cX6_rock 60 = .ok (.getfield 13, 3) := by decide +kernel
theorem dX6_rock_63 : decode cX6_rock 63 = .ok (.iload_n 2, 1) := by decide +kernel
theorem dX6_rock_64 : decode cX6_rock 64 = .ok (.iconst (-1), 1) := by decide +kernel
theorem dX6_rock_65 : decode cX6_rock 65 = .ok (.iastore, 1) := by decide +kernel
theorem dX6_rock_66 : decode cX6_rock 66 = .ok (.iinc 2 1, 3) := by decide +kernel
theorem dX6_rock_69 : decode cX6_rock 69 = .ok (.goto (-15), 3) := by decide +kernel
theorem dX6_rock_72 : decode cX6_rock 72 = .ok (.aload_n 0, 1) := by decide +kernel
theorem dX6_rock_73 : decode cX6_rock 73 = .ok (.getfield 7, 3) := by decide +kernel
theorem dX6_rock_76 : decode cX6_rock 76 = .ok (.iconst 0, 1) := by decide +kernel
theorem dX6_rock_77 : decode cX6_rock 77 = .ok (.iaload, 1) := by decide +kernel
theorem dX6_rock_78 : decode cX6_rock 78 = .ok (.ireturn, 1) := by decide +kernel
theorem dX6_isTower_0 : decode cX6_isTower 0 = .ok (.iload_n 1, 1) := by decide +kernel
theorem dX6_isTower_1 : decode cX6_isTower 1 = .ok (.i2l, 1) := by decide +kernel
theorem dX6_isTower_2 : decode cX6_isTower 2 = .ok (.lconst 0, 1) := by decide +kernel
theorem dX6_isTower_3 : decode cX6_isTower 3 = .ok (.aload_n 0, 1) := by decide +kernel
theorem dX6_isTower_4 : decode cX6_isTower 4 = .ok (.getfield 7, 3) := by decide +kernel
theorem dX6_isTower_7 : decode cX6_isTower 7 = .ok (.iconst 0, 1) := by decide +kernel
theorem dX6_isTower_8 : decode cX6_isTower 8 = .ok (.iaload, 1) := by decide +kernel
theorem dX6_isTower_9 : decode cX6_isTower 9 = .ok (.iconst 1, 1) := by decide +kernel
theorem dX6_isTower_10 : decode cX6_isTower 10 = .ok (.isub, 1) := by decide +kernel
theorem dX6_isTower_11 : decode cX6_isTower 11 = .ok (.i2l, 1) := by decide +kernel
theorem dX6_isTower_12 : decode cX6_isTower 12 = .ok (.invokestatic 63, 3) := by decide +kernel
theorem dX6_isTower_15 : decode cX6_isTower 15 = .ok (.ireturn, 1) := by decide +kernel
theorem dX6_isNone_0 : decode cX6_isNone 0 = .ok (.aload_n 0, 1) := by decide +kernel
theorem dX6_isNone_1 : decode cX6_isNone 1 = .ok (.getfield 7, 3) := by decide +kernel
theorem dX6_isNone_4 : decode cX6_isNone 4 = .ok (.iconst 0, 1) := by decide +kernel
theorem dX6_isNone_5 : decode cX6_isNone 5 = .ok (.iaload, 1) := by decide +kernel
theorem dX6_isNone_6 : decode cX6_isNone 6 = .ok (.ifCond .ne 7, 3) := by decide +kernel
theorem dX6_isNone_9 : decode cX6_isNone 9 = .ok (.iconst 1, 1) := by decide +kernel
theorem dX6_isNone_10 : decode cX6_isNone 10 = .ok (.goto 4, 3) := by decide +kernel
theorem dX6_isNone_13 : decode cX6_isNone 13 = .ok (.iconst 0, 1) := by decide +kernel
theorem dX6_isNone_14 : decode cX6_isNone 14 = .ok (.ireturn, 1) := by decide +kernel
theorem dX6_houses_0 : decode cX6_houses 0 = .ok (.aload_n 0, 1) := by decide +kernel
theorem dX6_houses_1 : decode cX6_houses 1 = .ok (.iconst 0, 1) := by decide +kernel
theorem dX6_houses_2 : decode cX6_houses 2 = .ok (.invokevirtual 97, 3) := by decide +kernel
theorem dX6_houses_5 : decode cX6_houses 5 = .ok (.ireturn, 1) := by decide +kernel
theorem dX6_isTold_0 : decode cX6_isTold 0 = .ok (.aload_n 0, 1) := by decide +kernel
theorem dX6_isTold_1 : decode cX6_isTold 1 = .ok (.iload_n 1, 1) := by decide +kernel
theorem dX6_isTold_2 : decode cX6_isTold 2 = .ok (.invokevirtual 118, 3) := by decide +kernel
theorem dX6_isTold_5 : decode cX6_isTold 5 = .ok (.ifCond .eq 11, 3) := by decide +kernel
theorem dX6_isTold_8 : decode cX6_isTold 8 = .ok (.iload_n 2, 1) := by decide +kernel
theorem dX6_isTold_9 : decode cX6_isTold 9 = .ok (.ifCond .lt 7, 3) := by decide +kernel
theorem dX6_isTold_12 : decode cX6_isTold 12 = .ok (.iconst 1, 1) := by decide +kernel
theorem dX6_isTold_13 : decode cX6_isTold 13 = .ok (.goto 4, 3) := by decide +kernel
theorem dX6_isTold_16 : decode cX6_isTold 16 = .ok (.iconst 0, 1) := by decide +kernel
theorem dX6_isTold_17 : decode cX6_isTold 17 = .ok (.ireturn, 1) := by decide +kernel
theorem dX6_isThere_0 : decode cX6_isThere 0 = .ok (.iload_n 1, 1) := by decide +kernel
theorem dX6_isThere_1 : decode cX6_isThere 1 = .ok (.ifCond .lt 33, 3) := by decide +kernel
theorem dX6_isThere_4 : decode cX6_isThere 4 = .ok (.iload_n 1, 1) := by decide +kernel
theorem dX6_isThere_5 : decode cX6_isThere 5 = .ok (.aload_n 0, 1) := by decide +kernel
theorem dX6_isThere_6 : decode cX6_isThere 6 = .ok (.getfield 7, 3) := by decide +kernel
theorem dX6_isThere_9 : decode cX6_isThere 9 = .ok (.iconst 0, 1) := by decide +kernel
theorem dX6_isThere_10 : decode cX6_isThere 10 = .ok (.iaload, 1) := by decide +kernel
theorem dX6_isThere_11 : decode cX6_isThere 11 = .ok (.if_icmp .ge 23, 3) := by decide +kernel
theorem dX6_isThere_14 : decode cX6_isThere 14 = .ok (.iload_n 2, 1) := by decide +kernel
theorem dX6_isThere_15 : decode cX6_isThere 15 = .ok (.ifCond .lt 19, 3) := by decide +kernel
theorem dX6_isThere_18 : decode cX6_isThere 18 = .ok (.iload_n 2, 1) := by decide +kernel
theorem dX6_isThere_19 : decode cX6_isThere 19 = .ok (.aload_n 0, 1) := by decide +kernel
theorem dX6_isThere_20 : decode cX6_isThere 20 = .ok (.getfield 7, 3) := by decide +kernel
theorem dX6_isThere_23 : decode cX6_isThere 23 = .ok (.iconst 1, 1) := by decide +kernel
theorem dX6_isThere_24 : decode cX6_isThere 24 = .ok (.iload_n 1, 1) := by decide +kernel
theorem dX6_isThere_25 : decode cX6_isThere 25 = .ok (.iadd, 1) := by decide +kernel
theorem dX6_isThere_26 : decode cX6_isThere 26 = .ok (.iaload, 1) := by decide +kernel
theorem dX6_isThere_27 : decode cX6_isThere 27 = .ok (.if_icmp .ge 7, 3) := by decide +kernel
theorem dX6_isThere_30 : decode cX6_isThere 30 = .ok (.iconst 1, 1) := by decide +kernel
theorem dX6_isThere_31 : decode cX6_isThere 31 = .ok (.goto 4, 3) := by decide +kernel
theorem dX6_isThere_34 : decode cX6_isThere 34 = .ok (.iconst 0, 1) := by decide +kernel
theorem dX6_isThere_35 : decode cX6_isThere 35 = .ok (.ireturn, 1) := by decide +kernel
theorem dX6_kindAt_0 : decode cX6_kindAt 0 = .ok (.aload_n 0, 1) := by decide +kernel
theorem dX6_kindAt_1 : decode cX6_kindAt 1 = .ok (.getfield 7, 3) := by decide +kernel
theorem dX6_kindAt_4 : decode cX6_kindAt 4 = .ok (.bipush 6, 2) := by decide +kernel
theorem dX6_kindAt_6 : decode cX6_kindAt 6 = .ok (.bipush 6, 2) := by decide +kernel
theorem dX6_kindAt_8 : decode cX6_kindAt 8 = .ok (.iload_n 1, 1) := by decide +kernel
theorem dX6_kindAt_9 : decode cX6_kindAt 9 = .ok (.imul, 1) := by decide +kernel
theorem dX6_kindAt_10 : decode cX6_kindAt 10 = .ok (.iadd, 1) := by decide +kernel
theorem dX6_kindAt_11 : decode cX6_kindAt 11 = .ok (.iload_n 2, 1) := by decide +kernel
theorem dX6_kindAt_12 : decode cX6_kindAt 12 = .ok (.iadd, 1) := by decide +kernel
theorem dX6_kindAt_13 : decode cX6_kindAt 13 = .ok (.iaload, 1) := by decide +kernel
theorem dX6_kindAt_14 : decode cX6_kindAt 14 = .ok (.ireturn, 1) := by decide +kernel
theorem dX6_bearsAt_0 : decode cX6_bearsAt 0 = .ok (.aload_n 0, 1) := by decide +kernel
theorem dX6_bearsAt_1 : decode cX6_bearsAt 1 = .ok (.getfield 7, 3) := by decide +kernel
theorem dX6_bearsAt_4 : decode cX6_bearsAt 4 = .ok (.bipush 36, 2) := by decide +kernel
theorem dX6_bearsAt_6 : decode cX6_bearsAt 6 = .ok (.bipush 6, 2) := by decide +kernel
theorem dX6_bearsAt_8 : decode cX6_bearsAt 8 = .ok (.iload_n 1, 1) := by decide +kernel
theorem dX6_bearsAt_9 : decode cX6_bearsAt 9 = .ok (.imul, 1) := by decide +kernel
theorem dX6_bearsAt_10 : decode cX6_bearsAt 10 = .ok (.iadd, 1) := by decide +kernel
theorem dX6_bearsAt_11 : decode cX6_bearsAt 11 = .ok (.iload_n 2, 1) := by decide +kernel
theorem dX6_bearsAt_12 : decode cX6_bearsAt 12 = .ok (.iadd, 1) := by decide +kernel
theorem dX6_bearsAt_13 : decode cX6_bearsAt 13 = .ok (.iaload, 1) := by decide +kernel
theorem dX6_bearsAt_14 : decode cX6_bearsAt 14 = .ok (.ireturn, 1) := by decide +kernel
theorem dX6_adds_0 : decode cX6_adds 0 = .ok (.aload_n 0, 1) := by decide +kernel
theorem dX6_adds_1 : decode cX6_adds 1 = .ok (.getfield 7, 3) := by decide +kernel
theorem dX6_adds_4 : decode cX6_adds 4 = .ok (.iload_n 1, 1) := by decide +kernel
theorem dX6_adds_5 : decode cX6_adds 5 = .ok (.iconst 1, 1) := by decide +kernel
theorem dX6_adds_6 : decode cX6_adds 6 = .ok (.iadd, 1) := by decide +kernel
theorem dX6_adds_7 : decode cX6_adds 7 = .ok (.iload_n 2, 1) := by decide +kernel
theorem dX6_adds_8 : decode cX6_adds 8 = .ok (.iadd, 1) := by decide +kernel
theorem dX6_adds_9 : decode cX6_adds 9 = .ok (.iaload, 1) := by decide +kernel
theorem dX6_adds_10 : decode cX6_adds 10 = .ok (.istore 5, 2) := by decide +kernel
theorem dX6_adds_12 : decode cX6_adds 12 = .ok (.aload_n 0, 1) := by decide +kernel
theorem dX6_adds_13 : decode cX6_adds 13 = .ok (.getfield 7, 3) := by decide +kernel
theorem dX6_adds_16 : decode cX6_adds 16 = .ok (.iload_n 1, 1) := by decide +kernel
theorem dX6_adds_17 : decode cX6_adds 17 = .ok (.bipush 6, 2) := by decide +kernel
theorem dX6_adds_19 : decode cX6_adds 19 = .ok (.iadd, 1) := by decide +kernel
theorem dX6_adds_20 : decode cX6_adds 20 = .ok (.bipush 6, 2) := by decide +kernel
theorem dX6_adds_22 : decode cX6_adds 22 = .ok (.iload_n 2, 1) := by decide +kernel
theorem dX6_adds_23 : decode cX6_adds 23 = .ok (.imul, 1) := by decide +kernel
theorem dX6_adds_24 : decode cX6_adds 24 = .ok (.iadd, 1) := by decide +kernel
theorem dX6_adds_25 : decode cX6_adds 25 = .ok (.iload 5, 2) := by decide +kernel
theorem dX6_adds_27 : decode cX6_adds 27 = .ok (.iadd, 1) := by decide +kernel
theorem dX6_adds_28 : decode cX6_adds 28 = .ok (.iload_n 3, 1) := by decide +kernel
theorem dX6_adds_29 : decode cX6_adds 29 = .ok (.iastore, 1) := by decide +kernel
theorem dX6_adds_30 : decode cX6_adds 30 = .ok (.aload_n 0, 1) := by decide +kernel
theorem dX6_adds_31 : decode cX6_adds 31 = .ok (.getfield 7, 3) := by decide +kernel
theorem dX6_adds_34 : decode cX6_adds 34 = .ok (.iload_n 1, 1) := by decide +kernel
theorem dX6_adds_35 : decode cX6_adds 35 = .ok (.bipush 36, 2) := by decide +kernel
theorem dX6_adds_37 : decode cX6_adds 37 = .ok (.iadd, 1) := by decide +kernel
theorem dX6_adds_38 : decode cX6_adds 38 = .ok (.bipush 6, 2) := by decide +kernel
theorem dX6_adds_40 : decode cX6_adds 40 = .ok (.iload_n 2, 1) := by decide +kernel
theorem dX6_adds_41 : decode cX6_adds 41 = .ok (.imul, 1) := by decide +kernel
theorem dX6_adds_42 : decode cX6_adds 42 = .ok (.iadd, 1) := by decide +kernel
theorem dX6_adds_43 : decode cX6_adds 43 = .ok (.iload 5, 2) := by decide +kernel
theorem dX6_adds_45 : decode cX6_adds 45 = .ok (.iadd, 1) := by decide +kernel
theorem dX6_adds_46 : decode cX6_adds 46 = .ok (.iload 4, 2) := by decide +kernel
theorem dX6_adds_48 : decode cX6_adds 48 = .ok (.iastore, 1) := by decide +kernel
theorem dX6_adds_49 : decode cX6_adds 49 = .ok (.aload_n 0, 1) := by decide +kernel
theorem dX6_adds_50 : decode cX6_adds 50 = .ok (.getfield 7, 3) := by decide +kernel
theorem dX6_adds_53 : decode cX6_adds 53 = .ok (.iload_n 1, 1) := by decide +kernel
theorem dX6_adds_54 : decode cX6_adds 54 = .ok (.iconst 1, 1) := by decide +kernel
theorem dX6_adds_55 : decode cX6_adds 55 = .ok (.iadd, 1) := by decide +kernel
theorem dX6_adds_56 : decode cX6_adds 56 = .ok (.iload_n 2, 1) := by decide +kernel
theorem dX6_adds_57 : decode cX6_adds 57 = .ok (.iadd, 1) := by decide +kernel
theorem dX6_adds_58 : decode cX6_adds 58 = .ok (.dup2, 1) := by decide +kernel
theorem dX6_adds_59 : decode cX6_adds 59 = .ok (.iaload, 1) := by decide +kernel
theorem dX6_adds_60 : decode cX6_adds 60 = .ok (.iconst 1, 1) := by decide +kernel
theorem dX6_adds_61 : decode cX6_adds 61 = .ok (.iadd, 1) := by decide +kernel
theorem dX6_adds_62 : decode cX6_adds 62 = .ok (.iastore, 1) := by decide +kernel
theorem dX6_adds_63 : decode cX6_adds 63 = .ok (.return_, 1) := by decide +kernel
theorem dX6_goes_0 : decode cX6_goes 0 = .ok (.bipush 6, 2) := by decide +kernel
theorem dX6_goes_2 : decode cX6_goes 2 = .ok (.iload_n 1, 1) := by decide +kernel
theorem dX6_goes_3 : decode cX6_goes 3 = .ok (.imul, 1) := by decide +kernel
theorem dX6_goes_4 : decode cX6_goes 4 = .ok (.iload_n 2, 1) := by decide +kernel
theorem dX6_goes_5 : decode cX6_goes 5 = .ok (.iadd, 1) := by decide +kernel
theorem dX6_goes_6 : decode cX6_goes 6 = .ok (.istore_n 3, 1) := by decide +kernel
theorem dX6_goes_7 : decode cX6_goes 7 = .ok (.iload_n 3, 1) := by decide +kernel
theorem dX6_goes_8 : decode cX6_goes 8 = .ok (.iconst 1, 1) := by decide +kernel
theorem dX6_goes_9 : decode cX6_goes 9 = .ok (.iadd, 1) := by decide +kernel
theorem dX6_goes_10 : decode cX6_goes 10 = .ok (.bipush 6, 2) := by decide +kernel
theorem dX6_goes_12 : decode cX6_goes 12 = .ok (.iload_n 1, 1) := by decide +kernel
theorem dX6_goes_13 : decode cX6_goes 13 = .ok (.imul, 1) := by decide +kernel
theorem dX6_goes_14 : decode cX6_goes 14 = .ok (.aload_n 0, 1) := by decide +kernel
theorem dX6_goes_15 : decode cX6_goes 15 = .ok (.getfield 7, 3) := by decide +kernel
theorem dX6_goes_18 : decode cX6_goes 18 = .ok (.iconst 1, 1) := by decide +kernel
theorem dX6_goes_19 : decode cX6_goes 19 = .ok (.iload_n 1, 1) := by decide +kernel
theorem dX6_goes_20 : decode cX6_goes 20 = .ok (.iadd, 1) := by decide +kernel
theorem dX6_goes_21 : decode cX6_goes 21 = .ok (.iaload, 1) := by decide +kernel
theorem dX6_goes_22 : decode cX6_goes 22 = .ok (.iadd, 1) := by decide +kernel
theorem dX6_goes_23 : decode cX6_goes 23 = .ok (.if_icmp .ge 49, 3) := by decide +kernel
theorem dX6_goes_26 : decode cX6_goes 26 = .ok (.aload_n 0, 1) := by decide +kernel
theorem dX6_goes_27 : decode cX6_goes 27 = .ok (.getfield 7, 3) := by decide +kernel
theorem dX6_goes_30 : decode cX6_goes 30 = .ok (.bipush 6, 2) := by decide +kernel
theorem dX6_goes_32 : decode cX6_goes 32 = .ok (.iload_n 3, 1) := by decide +kernel
theorem dX6_goes_33 : decode cX6_goes 33 = .ok (.iadd, 1) := by decide +kernel
theorem dX6_goes_34 : decode cX6_goes 34 = .ok (.aload_n 0, 1) := by decide +kernel
theorem dX6_goes_35 : decode cX6_goes 35 = .ok (.getfield 7, 3) := by decide +kernel
theorem dX6_goes_38 : decode cX6_goes 38 = .ok (.bipush 6, 2) := by decide +kernel
theorem dX6_goes_40 : decode cX6_goes 40 = .ok (.iload_n 3, 1) := by decide +kernel
theorem dX6_goes_41 : decode cX6_goes 41 = .ok (.iadd, 1) := by decide +kernel
theorem dX6_goes_42 : decode cX6_goes 42 = .ok (.iconst 1, 1) := by decide +kernel
theorem dX6_goes_43 : decode cX6_goes 43 = .ok (.iadd, 1) := by decide +kernel
theorem dX6_goes_44 : decode cX6_goes 44 = .ok (.iaload, 1) := by decide +kernel
theorem dX6_goes_45 : decode cX6_goes 45 = .ok (.iastore, 1) := by decide +kernel
theorem dX6_goes_46 : decode cX6_goes 46 = .ok (.aload_n 0, 1) := by decide +kernel
theorem dX6_goes_47 : decode cX6_goes 47 = .ok (.getfield 7, 3) := by decide +kernel
theorem dX6_goes_50 : decode cX6_goes 50 = .ok (.bipush 36, 2) := by decide +kernel
theorem dX6_goes_52 : decode cX6_goes 52 = .ok (.iload_n 3, 1) := by decide +kernel
theorem dX6_goes_53 : decode cX6_goes 53 = .ok (.iadd, 1) := by decide +kernel
theorem dX6_goes_54 : decode cX6_goes 54 = .ok (.aload_n 0, 1) := by decide +kernel
theorem dX6_goes_55 : decode cX6_goes 55 = .ok (.getfield 7, 3) := by decide +kernel
theorem dX6_goes_58 : decode cX6_goes 58 = .ok (.bipush 36, 2) := by decide +kernel
theorem dX6_goes_60 : decode cX6_goes 60 = .ok (.iload_n 3, 1) := by decide +kernel
theorem dX6_goes_61 : decode cX6_goes 61 = .ok (.iadd, 1) := by decide +kernel
theorem dX6_goes_62 : decode cX6_goes 62 = .ok (.iconst 1, 1) := by decide +kernel
theorem dX6_goes_63 : decode cX6_goes 63 = .ok (.iadd, 1) := by decide +kernel
theorem dX6_goes_64 : decode cX6_goes 64 = .ok (.iaload, 1) := by decide +kernel
theorem dX6_goes_65 : decode cX6_goes 65 = .ok (.iastore, 1) := by decide +kernel
theorem dX6_goes_66 : decode cX6_goes 66 = .ok (.iinc 3 1, 3) := by decide +kernel
theorem dX6_goes_69 : decode cX6_goes 69 = .ok (.goto (-62), 3) := by decide +kernel
theorem dX6_goes_72 : decode cX6_goes 72 = .ok (.aload_n 0, 1) := by decide +kernel
theorem dX6_goes_73 : decode cX6_goes 73 = .ok (.getfield 7, 3) := by decide +kernel
theorem dX6_goes_76 : decode cX6_goes 76 = .ok (.iconst 1, 1) := by decide +kernel
theorem dX6_goes_77 : decode cX6_goes 77 = .ok (.iload_n 1, 1) := by decide +kernel
theorem dX6_goes_78 : decode cX6_goes 78 = .ok (.iadd, 1) := by decide +kernel
theorem dX6_goes_79 : decode cX6_goes 79 = .ok (.dup2, 1) := by decide +kernel
theorem dX6_goes_80 : decode cX6_goes 80 = .ok (.iaload, 1) := by decide +kernel
theorem dX6_goes_81 : decode cX6_goes 81 = .ok (.iconst 1, 1) := by decide +kernel
theorem dX6_goes_82 : decode cX6_goes 82 = .ok (.isub, 1) := by decide +kernel
theorem dX6_goes_83 : decode cX6_goes 83 = .ok (.iastore, 1) := by decide +kernel
theorem dX6_goes_84 : decode cX6_goes 84 = .ok (.return_, 1) := by decide +kernel
theorem dX6_numberOf_0 : decode cX6_numberOf 0 = .ok (.iload_n 2, 1) := by decide +kernel
theorem dX6_numberOf_1 : decode cX6_numberOf 1 = .ok (.istore_n 3, 1) := by decide +kernel
theorem dX6_numberOf_2 : decode cX6_numberOf 2 = .ok (.iconst 0, 1) := by decide +kernel
theorem dX6_numberOf_3 : decode cX6_numberOf 3 = .ok (.istore 4, 2) := by decide +kernel
theorem dX6_numberOf_5 : decode cX6_numberOf 5 = .ok (.iload 4, 2) := by decide +kernel
theorem dX6_numberOf_7 : decode cX6_numberOf 7 = .ok (.iload_n 1, 1) := by decide +kernel
theorem dX6_numberOf_8 : decode cX6_numberOf 8 = .ok (.if_icmp .ge 21, 3) := by decide +kernel
theorem dX6_numberOf_11 : decode cX6_numberOf 11 = .ok (.iload_n 3, 1) := by decide +kernel
theorem dX6_numberOf_12 : decode cX6_numberOf 12 = .ok (.aload_n 0, 1) := by decide +kernel
theorem dX6_numberOf_13 : decode cX6_numberOf 13 = .ok (.getfield 7, 3) := by decide +kernel
theorem dX6_numberOf_16 : decode cX6_numberOf 16 = .ok (.iconst 1, 1) := by decide +kernel
theorem dX6_numberOf_17 : decode cX6_numberOf 17 = .ok (.iload 4, 2) := by decide +kernel
theorem dX6_numberOf_19 : decode cX6_numberOf 19 = .ok (.iadd, 1) := by decide +kernel
theorem dX6_numberOf_20 : decode cX6_numberOf 20 = .ok (.iaload, 1) := by decide +kernel
theorem dX6_numberOf_21 : decode cX6_numberOf 21 = .ok (.iadd, 1) := by decide +kernel
theorem dX6_numberOf_22 : decode cX6_numberOf 22 = .ok (.istore_n 3, 1) := by decide +kernel
theorem dX6_numberOf_23 : decode cX6_numberOf 23 = .ok (.iinc 4 1, 3) := by decide +kernel
theorem dX6_numberOf_26 : decode cX6_numberOf 26 = .ok (.goto (-21), 3) := by decide +kernel
theorem dX6_numberOf_29 : decode cX6_numberOf 29 = .ok (.iload_n 3, 1) := by decide +kernel
theorem dX6_numberOf_30 : decode cX6_numberOf 30 = .ok (.ireturn, 1) := by decide +kernel
theorem dX6_towerOf_0 : decode cX6_towerOf 0 = .ok (.iconst 0, 1) := by decide +kernel
theorem dX6_towerOf_1 : decode cX6_towerOf 1 = .ok (.istore_n 2, 1) := by decide +kernel
theorem dX6_towerOf_2 : decode cX6_towerOf 2 = .ok (.iload_n 1, 1) := by decide +kernel
theorem dX6_towerOf_3 : decode cX6_towerOf 3 = .ok (.istore_n 3, 1) := by decide +kernel
theorem dX6_towerOf_4 : decode cX6_towerOf 4 = .ok (.iload_n 3, 1) := by decide +kernel
theorem dX6_towerOf_5 : decode cX6_towerOf 5 = .ok (.aload_n 0, 1) := by decide +kernel
theorem dX6_towerOf_6 : decode cX6_towerOf 6 = .ok (.getfield 7, 3) := by decide +kernel
theorem dX6_towerOf_9 : decode cX6_towerOf 9 = .ok (.iconst 1, 1) := by decide +kernel
theorem dX6_towerOf_10 : decode cX6_towerOf 10 = .ok (.iload_n 2, 1) := by decide +kernel
theorem dX6_towerOf_11 : decode cX6_towerOf 11 = .ok (.iadd, 1) := by decide +kernel
theorem dX6_towerOf_12 : decode cX6_towerOf 12 = .ok (.iaload, 1) := by decide +kernel
theorem dX6_towerOf_13 : decode cX6_towerOf 13 = .ok (.if_icmp .lt 20, 3) := by decide +kernel
theorem dX6_towerOf_16 : decode cX6_towerOf 16 = .ok (.iload_n 3, 1) := by decide +kernel
theorem dX6_towerOf_17 : decode cX6_towerOf 17 = .ok (.aload_n 0, 1) := by decide +kernel
theorem dX6_towerOf_18 : decode cX6_towerOf 18 = .ok (.getfield 7, 3) := by decide +kernel
theorem dX6_towerOf_21 : decode cX6_towerOf 21 = .ok (.iconst 1, 1) := by decide +kernel
theorem dX6_towerOf_22 : decode cX6_towerOf 22 = .ok (.iload_n 2, 1) := by decide +kernel
theorem dX6_towerOf_23 : decode cX6_towerOf 23 = .ok (.iadd, 1) := by decide +kernel
theorem dX6_towerOf_24 : decode cX6_towerOf 24 = .ok (.iaload, 1) := by decide +kernel
theorem dX6_towerOf_25 : decode cX6_towerOf 25 = .ok (.isub, 1) := by decide +kernel
theorem dX6_towerOf_26 : decode cX6_towerOf 26 = .ok (.istore_n 3, 1) := by decide +kernel
theorem dX6_towerOf_27 : decode cX6_towerOf 27 = .ok (.iinc 2 1, 3) := by decide +kernel
theorem dX6_towerOf_30 : decode cX6_towerOf 30 = .ok (.goto (-26), 3) := by decide +kernel
theorem dX6_towerOf_33 : decode cX6_towerOf 33 = .ok (.iload_n 2, 1) := by decide +kernel
theorem dX6_towerOf_34 : decode cX6_towerOf 34 = .ok (.ireturn, 1) := by decide +kernel
theorem dX6_storeyOf_0 : decode cX6_storeyOf 0 = .ok (.iload_n 1, 1) := by decide +kernel
theorem dX6_storeyOf_1 : decode cX6_storeyOf 1 = .ok (.aload_n 0, 1) := by decide +kernel
theorem dX6_storeyOf_2 : decode cX6_storeyOf 2 = .ok (.aload_n 0, 1) := by decide +kernel
theorem dX6_storeyOf_3 : decode cX6_storeyOf 3 = .ok (.iload_n 1, 1) := by decide +kernel
theorem dX6_storeyOf_4 : decode cX6_storeyOf 4 = .ok (.invokevirtual 121, 3) := by decide +kernel
theorem dX6_storeyOf_7 : decode cX6_storeyOf 7 = .ok (.iconst 0, 1) := by decide +kernel
theorem dX6_storeyOf_8 : decode cX6_storeyOf 8 = .ok (.invokevirtual 124, 3) := by decide +kernel
theorem dX6_storeyOf_11 : decode cX6_storeyOf 11 = .ok (.isub, 1) := by decide +kernel
theorem dX6_storeyOf_12 : decode cX6_storeyOf 12 = .ok (.ireturn, 1) := by decide +kernel
theorem dX6_tower_0 : decode cX6_tower 0 = .ok (.aload_n 0, 1) := by decide +kernel
theorem dX6_tower_1 : decode cX6_tower 1 = .ok (.iload_n 1, 1) := by decide +kernel
theorem dX6_tower_2 : decode cX6_tower 2 = .ok (.invokevirtual 118, 3) := by decide +kernel
theorem dX6_tower_5 : decode cX6_tower 5 = .ok (.ifCond .eq 14, 3) := by decide +kernel
theorem dX6_tower_8 : decode cX6_tower 8 = .ok (.aload_n 0, 1) := by decide +kernel
theorem dX6_tower_9 : decode cX6_tower 9 = .ok (.getfield 7, 3) := by decide +kernel
theorem dX6_tower_12 : decode cX6_tower 12 = .ok (.iconst 1, 1) := by decide +kernel
theorem dX6_tower_13 : decode cX6_tower 13 = .ok (.iload_n 1, 1) := by decide +kernel
theorem dX6_tower_14 : decode cX6_tower 14 = .ok (.iadd, 1) := by decide +kernel
theorem dX6_tower_15 : decode cX6_tower 15 = .ok (.iaload, 1) := by decide +kernel
theorem dX6_tower_16 : decode cX6_tower 16 = .ok (.goto 4, 3) := by decide +kernel
theorem dX6_tower_19 : decode cX6_tower 19 = .ok (.iconst (-1), 1) := by decide +kernel
theorem dX6_tower_20 : decode cX6_tower 20 = .ok (.ireturn, 1) := by decide +kernel
theorem dX6_isGlass_0 : decode cX6_isGlass 0 = .ok (.iload_n 0, 1) := by decide +kernel
theorem dX6_isGlass_1 : decode cX6_isGlass 1 = .ok (.iconst 1, 1) := by decide +kernel
theorem dX6_isGlass_2 : decode cX6_isGlass 2 = .ok (.if_icmp .eq 8, 3) := by decide +kernel
theorem dX6_isGlass_5 : decode cX6_isGlass 5 = .ok (.iload_n 0, 1) := by decide +kernel
theorem dX6_isGlass_6 : decode cX6_isGlass 6 = .ok (.iconst 4, 1) := by decide +kernel
theorem dX6_isGlass_7 : decode cX6_isGlass 7 = .ok (.if_icmp .ne 7, 3) := by decide +kernel
theorem dX6_isGlass_10 : decode cX6_isGlass 10 = .ok (.iconst 1, 1) := by decide +kernel
theorem dX6_isGlass_11 : decode cX6_isGlass 11 = .ok (.goto 4, 3) := by decide +kernel
theorem dX6_isGlass_14 : decode cX6_isGlass 14 = .ok (.iconst 0, 1) := by decide +kernel
theorem dX6_isGlass_15 : decode cX6_isGlass 15 = .ok (.ireturn, 1) := by decide +kernel
theorem dX6_isLeaning_0 : decode cX6_isLeaning 0 = .ok (.iload_n 0, 1) := by decide +kernel
theorem dX6_isLeaning_1 : decode cX6_isLeaning 1 = .ok (.iconst 2, 1) := by decide +kernel
theorem dX6_isLeaning_2 : decode cX6_isLeaning 2 = .ok (.if_icmp .eq 8, 3) := by decide +kernel
theorem dX6_isLeaning_5 : decode cX6_isLeaning 5 = .ok (.iload_n 0, 1) := by decide +kernel
theorem dX6_isLeaning_6 : decode cX6_isLeaning 6 = .ok (.iconst 5, 1) := by decide +kernel
theorem dX6_isLeaning_7 : decode cX6_isLeaning 7 = .ok (.if_icmp .ne 7, 3) := by decide +kernel
theorem dX6_isLeaning_10 : decode cX6_isLeaning 10 = .ok (.iconst 1, 1) := by decide +kernel
theorem dX6_isLeaning_11 : decode cX6_isLeaning 11 = .ok (.goto 4, 3) := by decide +kernel
theorem dX6_isLeaning_14 : decode cX6_isLeaning 14 = .ok (.iconst 0, 1) := by decide +kernel
theorem dX6_isLeaning_15 : decode cX6_isLeaning 15 = .ok (.ireturn, 1) := by decide +kernel
theorem dX6_weightIn_0 : decode cX6_weightIn 0 = .ok (.iload_n 1, 1) := by decide +kernel
theorem dX6_weightIn_1 : decode cX6_weightIn 1 = .ok (.aload_n 0, 1) := by decide +kernel
theorem dX6_weightIn_2 : decode cX6_weightIn 2 = .ok (.getfield 7, 3) := by decide +kernel
theorem dX6_weightIn_5 : decode cX6_weightIn 5 = .ok (.iconst 0, 1) := by decide +kernel
theorem dX6_weightIn_6 : decode cX6_weightIn 6 = .ok (.iaload, 1) := by decide +kernel
theorem dX6_weightIn_7 : decode cX6_weightIn 7 = .ok (.iconst 1, 1) := by decide +kernel
theorem dX6_weightIn_8 : decode cX6_weightIn 8 = .ok (.isub, 1) := by decide +kernel
theorem dX6_weightIn_9 : decode cX6_weightIn 9 = .ok (.if_icmp .ne 7, 3) := by decide +kernel
theorem dX6_weightIn_12 : decode cX6_weightIn 12 = .ok (.iconst 1, 1) := by decide +kernel
theorem dX6_weightIn_13 : decode cX6_weightIn 13 = .ok (.goto 4, 3) := by decide +kernel
theorem dX6_weightIn_16 : decode cX6_weightIn 16 = .ok (.iconst 0, 1) := by decide +kernel
theorem dX6_weightIn_17 : decode cX6_weightIn 17 = .ok (.istore_n 3, 1) := by decide +kernel
theorem dX6_weightIn_18 : decode cX6_weightIn 18 = .ok (.iload_n 2, 1) := by decide +kernel
theorem dX6_weightIn_19 : decode cX6_weightIn 19 = .ok (.invokestatic 127, 3) := by decide +kernel
theorem dX6_weightIn_22 : decode cX6_weightIn 22 = .ok (.ifCond .eq 7, 3) := by decide +kernel
theorem dX6_weightIn_25 : decode cX6_weightIn 25 = .ok (.iconst 1, 1) := by decide +kernel
theorem dX6_weightIn_26 : decode cX6_weightIn 26 = .ok (.goto 32, 3) := by decide +kernel
theorem dX6_weightIn_29 : decode cX6_weightIn 29 = .ok (.iload_n 2, 1) := by decide +kernel
theorem dX6_weightIn_30 : decode cX6_weightIn 30 = .ok (.invokestatic 130, 3) := by decide +kernel
theorem dX6_weightIn_33 : decode cX6_weightIn 33 = .ok (.ifCond .eq 15, 3) := by decide +kernel
theorem dX6_weightIn_36 : decode cX6_weightIn 36 = .ok (.iload_n 3, 1) := by decide +kernel
theorem dX6_weightIn_37 : decode cX6_weightIn 37 = .ok (.ifCond .eq 7, 3) := by decide +kernel
theorem dX6_weightIn_40 : decode cX6_weightIn 40 = .ok (.iconst 2, 1) := by decide +kernel
theorem dX6_weightIn_41 : decode cX6_weightIn 41 = .ok (.goto 17, 3) := by decide +kernel
theorem dX6_weightIn_44 : decode cX6_weightIn 44 = .ok (.iconst 1, 1) := by decide +kernel
theorem dX6_weightIn_45 : decode cX6_weightIn 45 = .ok (.goto 13, 3) := by decide +kernel
theorem dX6_weightIn_48 : decode cX6_weightIn 48 = .ok (.iload_n 2, 1) := by decide +kernel
theorem dX6_weightIn_49 : decode cX6_weightIn 49 = .ok (.iconst 3, 1) := by decide +kernel
theorem dX6_weightIn_50 : decode cX6_weightIn 50 = .ok (.if_icmp .ne 7, 3) := by decide +kernel
theorem dX6_weightIn_53 : decode cX6_weightIn 53 = .ok (.iconst 4, 1) := by decide +kernel
theorem dX6_weightIn_54 : decode cX6_weightIn 54 = .ok (.goto 4, 3) := by decide +kernel
theorem dX6_weightIn_57 : decode cX6_weightIn 57 = .ok (.iconst 2, 1) := by decide +kernel
theorem dX6_weightIn_58 : decode cX6_weightIn 58 = .ok (.ireturn, 1) := by decide +kernel
theorem dX6_weighsOn_0 : decode cX6_weighsOn 0 = .ok (.iconst 0, 1) := by decide +kernel
theorem dX6_weighsOn_1 : decode cX6_weighsOn 1 = .ok (.istore_n 3, 1) := by decide +kernel
theorem dX6_weighsOn_2 : decode cX6_weighsOn 2 = .ok (.iload_n 2, 1) := by decide +kernel
theorem dX6_weighsOn_3 : decode cX6_weighsOn 3 = .ok (.iconst 1, 1) := by decide +kernel
theorem dX6_weighsOn_4 : decode cX6_weighsOn 4 = .ok (.iadd, 1) := by decide +kernel
theorem dX6_weighsOn_5 : decode cX6_weighsOn 5 = .ok (.istore 4, 2) := by decide +kernel
theorem dX6_weighsOn_7 : decode cX6_weighsOn 7 = .ok (.iload 4, 2) := by decide +kernel
theorem dX6_weighsOn_9 : decode cX6_weighsOn 9 = .ok (.aload_n 0, 1) := by decide +kernel
theorem dX6_weighsOn_10 : decode cX6_weighsOn 10 = .ok (.getfield 7, 3) := by decide +kernel
theorem dX6_weighsOn_13 : decode cX6_weighsOn 13 = .ok (.iconst 1, 1) := by decide +kernel
theorem dX6_weighsOn_14 : decode cX6_weighsOn 14 = .ok (.iload_n 1, 1) := by decide +kernel
theorem dX6_weighsOn_15 : decode cX6_weighsOn 15 = .ok (.iadd, 1) := by decide +kernel
theorem dX6_weighsOn_16 : decode cX6_weighsOn 16 = .ok (.iaload, 1) := by decide +kernel
theorem dX6_weighsOn_17 : decode cX6_weighsOn 17 = .ok (.if_icmp .ge 24, 3) := by decide +kernel
theorem dX6_weighsOn_20 : decode cX6_weighsOn 20 = .ok (.iload_n 3, 1) := by decide +kernel
theorem dX6_weighsOn_21 : decode cX6_weighsOn 21 = .ok (.aload_n 0, 1) := by decide +kernel
theorem dX6_weighsOn_22 : decode cX6_weighsOn 22 = .ok (.iload_n 1, 1) := by decide +kernel
theorem dX6_weighsOn_23 : decode cX6_weighsOn 23 = .ok (.aload_n 0, 1) := by decide +kernel
theorem dX6_weighsOn_24 : decode cX6_weighsOn 24 = .ok (.iload_n 1, 1) := by decide +kernel
theorem dX6_weighsOn_25 : decode cX6_weighsOn 25 = .ok (.iload 4, 2) := by decide +kernel
theorem dX6_weighsOn_27 : decode cX6_weighsOn 27 = .ok (.invokevirtual 133, 3) := by decide +kernel
theorem dX6_weighsOn_30 : decode cX6_weighsOn 30 = .ok (.invokevirtual 136, 3) := by decide +kernel
theorem dX6_weighsOn_33 : decode cX6_weighsOn 33 = .ok (.iadd, 1) := by decide +kernel
theorem dX6_weighsOn_34 : decode cX6_weighsOn 34 = .ok (.istore_n 3, 1) := by decide +kernel
theorem dX6_weighsOn_35 : decode cX6_weighsOn 35 = .ok (.iinc 4 1, 3) := by decide +kernel
theorem dX6_weighsOn_38 : decode cX6_weighsOn 38 = .ok (.goto (-31), 3) := by decide +kernel
theorem dX6_weighsOn_41 : decode cX6_weighsOn 41 = .ok (.iload_n 2, 1) := by decide +kernel
theorem dX6_weighsOn_42 : decode cX6_weighsOn 42 = .ok (.istore 4, 2) := by decide +kernel
theorem dX6_weighsOn_44 : decode cX6_weighsOn 44 = .ok (.iload_n 1, 1) := by decide +kernel
theorem dX6_weighsOn_45 : decode cX6_weighsOn 45 = .ok (.ifCond .le 47, 3) := by decide +kernel
theorem dX6_weighsOn_48 : decode cX6_weighsOn 48 = .ok (.iload 4, 2) := by decide +kernel
theorem dX6_weighsOn_50 : decode cX6_weighsOn 50 = .ok (.aload_n 0, 1) := by decide +kernel
theorem dX6_weighsOn_51 : decode cX6_weighsOn 51 = .ok (.getfield 7, 3) := by decide +kernel
theorem dX6_weighsOn_54 : decode cX6_weighsOn 54 = .ok (.iconst 1, 1) := by decide +kernel
theorem dX6_weighsOn_55 : decode cX6_weighsOn 55 = .ok (.iload_n 1, 1) := by decide +kernel
theorem dX6_weighsOn_56 : decode cX6_weighsOn 56 = .ok (.iadd, 1) := by decide +kernel
theorem dX6_weighsOn_57 : decode cX6_weighsOn 57 = .ok (.iconst 1, 1) := by decide +kernel
theorem dX6_weighsOn_58 : decode cX6_weighsOn 58 = .ok (.isub, 1) := by decide +kernel
theorem dX6_weighsOn_59 : decode cX6_weighsOn 59 = .ok (.iaload, 1) := by decide +kernel
theorem dX6_weighsOn_60 : decode cX6_weighsOn 60 = .ok (.if_icmp .ge 32, 3) := by decide +kernel
theorem dX6_weighsOn_63 : decode cX6_weighsOn 63 = .ok (.iload_n 3, 1) := by decide +kernel
theorem dX6_weighsOn_64 : decode cX6_weighsOn 64 = .ok (.aload_n 0, 1) := by decide +kernel
theorem dX6_weighsOn_65 : decode cX6_weighsOn 65 = .ok (.iload_n 1, 1) := by decide +kernel
theorem dX6_weighsOn_66 : decode cX6_weighsOn 66 = .ok (.iconst 1, 1) := by decide +kernel
theorem dX6_weighsOn_67 : decode cX6_weighsOn 67 = .ok (.isub, 1) := by decide +kernel
theorem dX6_weighsOn_68 : decode cX6_weighsOn 68 = .ok (.iload 4, 2) := by decide +kernel
theorem dX6_weighsOn_70 : decode cX6_weighsOn 70 = .ok (.invokevirtual 133, 3) := by decide +kernel
theorem dX6_weighsOn_73 : decode cX6_weighsOn 73 = .ok (.invokestatic 130, 3) := by decide +kernel
theorem dX6_weighsOn_76 : decode cX6_weighsOn 76 = .ok (.ifCond .eq 7, 3) := by decide +kernel
theorem dX6_weighsOn_79 : decode cX6_weighsOn 79 = .ok (.iconst 1, 1) := by decide +kernel
theorem dX6_weighsOn_80 : decode cX6_weighsOn 80 = .ok (.goto 4, 3) := by decide +kernel
theorem dX6_weighsOn_83 : decode cX6_weighsOn 83 = .ok (.iconst 0, 1) := by decide +kernel
theorem dX6_weighsOn_84 : decode cX6_weighsOn 84 = .ok (.iadd, 1) := by decide +kernel
theorem dX6_weighsOn_85 : decode cX6_weighsOn 85 = .ok (.istore_n 3, 1) := by decide +kernel
theorem dX6_weighsOn_86 : decode cX6_weighsOn 86 = .ok (.iinc 4 1, 3) := by decide +kernel
theorem dX6_weighsOn_89 : decode cX6_weighsOn 89 = .ok (.goto (-45), 3) := by decide +kernel
theorem dX6_weighsOn_92 : decode cX6_weighsOn 92 = .ok (.iload_n 3, 1) := by decide +kernel
theorem dX6_weighsOn_93 : decode cX6_weighsOn 93 = .ok (.ireturn, 1) := by decide +kernel
theorem dX6_swaying_0 : decode cX6_swaying 0 = .ok (.iconst 0, 1) := by decide +kernel
theorem dX6_swaying_1 : decode cX6_swaying 1 = .ok (.istore_n 1, 1) := by decide +kernel
theorem dX6_swaying_2 : decode cX6_swaying 2 = .ok (.iconst 0, 1) := by decide +kernel
theorem dX6_swaying_3 : decode cX6_swaying 3 = .ok (.istore_n 2, 1) := by decide +kernel
theorem dX6_swaying_4 : decode cX6_swaying 4 = .ok (.iload_n 2, 1) := by decide +kernel
theorem dX6_swaying_5 : decode cX6_swaying 5 = .ok (.aload_n 0, 1) := by decide +kernel
theorem dX6_swaying_6 : decode cX6_swaying 6 = .ok (.getfield 7, 3) := by decide +kernel
theorem dX6_swaying_9 : decode cX6_swaying 9 = .ok (.iconst 0, 1) := by decide +kernel
theorem dX6_swaying_10 : decode cX6_swaying 10 = .ok (.iaload, 1) := by decide +kernel
theorem dX6_swaying_11 : decode cX6_swaying 11 = .ok (.if_icmp .ge 59, 3) := by decide +kernel
theorem dX6_swaying_14 : decode cX6_swaying 14 = .ok (.iconst 0, 1) := by decide +kernel
theorem dX6_swaying_15 : decode cX6_swaying 15 = .ok (.istore_n 3, 1) := by decide +kernel
theorem dX6_swaying_16 : decode cX6_swaying 16 = .ok (.iload_n 3, 1) := by decide +kernel
theorem dX6_swaying_17 : decode cX6_swaying 17 = .ok (.aload_n 0, 1) := by decide +kernel
theorem dX6_swaying_18 : decode cX6_swaying 18 = .ok (.getfield 7, 3) := by decide +kernel
theorem dX6_swaying_21 : decode cX6_swaying 21 = .ok (.iconst 1, 1) := by decide +kernel
theorem dX6_swaying_22 : decode cX6_swaying 22 = .ok (.iload_n 2, 1) := by decide +kernel
theorem dX6_swaying_23 : decode cX6_swaying 23 = .ok (.iadd, 1) := by decide +kernel
theorem dX6_swaying_24 : decode cX6_swaying 24 = .ok (.iaload, 1) := by decide +kernel
theorem dX6_swaying_25 : decode cX6_swaying 25 = .ok (.if_icmp .ge 39, 3) := by decide +kernel
theorem dX6_swaying_28 : decode cX6_swaying 28 = .ok (.iload_n 1, 1) := by decide +kernel
theorem dX6_swaying_29 : decode cX6_swaying 29 = .ok (.aload_n 0, 1) := by decide +kernel
theorem dX6_swaying_30 : decode cX6_swaying 30 = .ok (.iload_n 2, 1) := by decide +kernel
theorem dX6_swaying_31 : decode cX6_swaying 31 = .ok (.iload_n 3, 1) := by decide +kernel
theorem dX6_swaying_32 : decode cX6_swaying 32 = .ok (.invokevirtual 139, 3) := by decide +kernel
theorem dX6_swaying_35 : decode cX6_swaying 35 = .ok (.aload_n 0, 1) := by decide +kernel
theorem dX6_swaying_36 : decode cX6_swaying 36 = .ok (.iload_n 2, 1) := by decide +kernel
theorem dX6_swaying_37 : decode cX6_swaying 37 = .ok (.iload_n 3, 1) := by decide +kernel
theorem dX6_swaying_38 : decode cX6_swaying 38 = .ok (.invokevirtual 142, 3) := by decide +kernel
theorem dX6_swaying_41 : decode cX6_swaying 41 = .ok (.if_icmp .le 14, 3) := by decide +kernel
theorem dX6_swaying_44 : decode cX6_swaying 44 = .ok (.iconst 1, 1) := by decide +kernel
theorem dX6_swaying_45 : decode cX6_swaying 45 = .ok (.aload_n 0, 1) := by decide +kernel
theorem dX6_swaying_46 : decode cX6_swaying 46 = .ok (.iload_n 2, 1) := by decide +kernel
theorem dX6_swaying_47 : decode cX6_swaying 47 = .ok (.iload_n 3, 1) := by decide +kernel
theorem dX6_swaying_48 : decode cX6_swaying 48 = .ok (.invokevirtual 124, 3) := by decide +kernel
theorem dX6_swaying_51 : decode cX6_swaying 51 = .ok (.ishl, 1) := by decide +kernel
theorem dX6_swaying_52 : decode cX6_swaying 52 = .ok (.goto 4, 3) := by decide +kernel
theorem dX6_swaying_55 : decode cX6_swaying 55 = .ok (.iconst 0, 1) := by decide +kernel
theorem dX6_swaying_56 : decode cX6_swaying 56 = .ok (.ior, 1) := by decide +kernel
theorem dX6_swaying_57 : decode cX6_swaying 57 = .ok (.istore_n 1, 1) := by decide +kernel
theorem dX6_swaying_58 : decode cX6_swaying 58 = .ok (.iinc 3 1, 3) := by decide +kernel
theorem dX6_swaying_61 : decode cX6_swaying 61 = .ok (.goto (-45), 3) := by decide +kernel
theorem dX6_swaying_64 : decode cX6_swaying 64 = .ok (.iinc 2 1, 3) := by decide +kernel
theorem dX6_swaying_67 : decode cX6_swaying 67 = .ok (.goto (-63), 3) := by decide +kernel
theorem dX6_swaying_70 : decode cX6_swaying 70 = .ok (.iload_n 1, 1) := by decide +kernel
theorem dX6_swaying_71 : decode cX6_swaying 71 = .ok (.ireturn, 1) := by decide +kernel
theorem dX6_eastIn_0 : decode cX6_eastIn 0 = .ok (.iload_n 0, 1) := by decide +kernel
theorem dX6_eastIn_1 : decode cX6_eastIn 1 = .ok (.iconst 2, 1) := by decide +kernel
theorem dX6_eastIn_2 : decode cX6_eastIn 2 = .ok (.if_icmp .ge 7, 3) := by decide +kernel
theorem dX6_eastIn_5 : decode cX6_eastIn 5 = .ok (.iconst (-1), 1) := by decide +kernel
theorem dX6_eastIn_6 : decode cX6_eastIn 6 = .ok (.goto 13, 3) := by decide +kernel
theorem dX6_eastIn_9 : decode cX6_eastIn 9 = .ok (.iload_n 0, 1) := by decide +kernel
theorem dX6_eastIn_10 : decode cX6_eastIn 10 = .ok (.iconst 2, 1) := by decide +kernel
theorem dX6_eastIn_11 : decode cX6_eastIn 11 = .ok (.if_icmp .le 7, 3) := by decide +kernel
theorem dX6_eastIn_14 : decode cX6_eastIn 14 = .ok (.iconst 1, 1) := by decide +kernel
theorem dX6_eastIn_15 : decode cX6_eastIn 15 = .ok (.goto 4, 3) := by decide +kernel
theorem dX6_eastIn_18 : decode cX6_eastIn 18 = .ok (.iconst 0, 1) := by decide +kernel
theorem dX6_eastIn_19 : decode cX6_eastIn 19 = .ok (.ireturn, 1) := by decide +kernel
theorem dX6_upIn_0 : decode cX6_upIn 0 = .ok (.iload_n 0, 1) := by decide +kernel
theorem dX6_upIn_1 : decode cX6_upIn 1 = .ok (.ifCond .le 12, 3) := by decide +kernel
theorem dX6_upIn_4 : decode cX6_upIn 4 = .ok (.iload_n 0, 1) := by decide +kernel
theorem dX6_upIn_5 : decode cX6_upIn 5 = .ok (.iconst 4, 1) := by decide +kernel
theorem dX6_upIn_6 : decode cX6_upIn 6 = .ok (.if_icmp .ge 7, 3) := by decide +kernel
theorem dX6_upIn_9 : decode cX6_upIn 9 = .ok (.iconst 1, 1) := by decide +kernel
theorem dX6_upIn_10 : decode cX6_upIn 10 = .ok (.goto 4, 3) := by decide +kernel
theorem dX6_upIn_13 : decode cX6_upIn 13 = .ok (.iconst 0, 1) := by decide +kernel
theorem dX6_upIn_14 : decode cX6_upIn 14 = .ok (.ireturn, 1) := by decide +kernel
theorem dX6_shader_0 : decode cX6_shader 0 = .ok (.iconst 1, 1) := by decide +kernel
theorem dX6_shader_1 : decode cX6_shader 1 = .ok (.istore 4, 2) := by decide +kernel
theorem dX6_shader_3 : decode cX6_shader 3 = .ok (.iload 4, 2) := by decide +kernel
theorem dX6_shader_5 : decode cX6_shader 5 = .ok (.bipush 7, 2) := by decide +kernel
theorem dX6_shader_7 : decode cX6_shader 7 = .ok (.if_icmp .ge 65, 3) := by decide +kernel
theorem dX6_shader_10 : decode cX6_shader 10 = .ok (.iload_n 1, 1) := by decide +kernel
theorem dX6_shader_11 : decode cX6_shader 11 = .ok (.iload 4, 2) := by decide +kernel
theorem dX6_shader_13 : decode cX6_shader 13 = .ok (.iload_n 3, 1) := by decide +kernel
theorem dX6_shader_14 : decode cX6_shader 14 = .ok (.invokestatic 145, 3) := by decide +kernel
theorem dX6_shader_17 : decode cX6_shader 17 = .ok (.imul, 1) := by decide +kernel
theorem dX6_shader_18 : decode cX6_shader 18 = .ok (.iadd, 1) := by decide +kernel
theorem dX6_shader_19 : decode cX6_shader 19 = .ok (.istore 5, 2) := by decide +kernel
theorem dX6_shader_21 : decode cX6_shader 21 = .ok (.iload_n 2, 1) := by decide +kernel
theorem dX6_shader_22 : decode cX6_shader 22 = .ok (.iload 4, 2) := by decide +kernel
theorem dX6_shader_24 : decode cX6_shader 24 = .ok (.iload_n 3, 1) := by decide +kernel
theorem dX6_shader_25 : decode cX6_shader 25 = .ok (.invokestatic 148, 3) := by decide +kernel
theorem dX6_shader_28 : decode cX6_shader 28 = .ok (.imul, 1) := by decide +kernel
theorem dX6_shader_29 : decode cX6_shader 29 = .ok (.iadd, 1) := by decide +kernel
theorem dX6_shader_30 : decode cX6_shader 30 = .ok (.istore 6, 2) := by decide +kernel
theorem dX6_shader_32 : decode cX6_shader 32 = .ok (.aload_n 0, 1) := by decide +kernel
theorem dX6_shader_33 : decode cX6_shader 33 = .ok (.iload 5, 2) := by decide +kernel
theorem dX6_shader_35 : decode cX6_shader 35 = .ok (.iload 6, 2) := by decide +kernel
theorem dX6_shader_37 : decode cX6_shader 37 = .ok (.invokevirtual 151, 3) := by decide +kernel
theorem dX6_shader_40 : decode cX6_shader 40 = .ok (.ifCond .eq 26, 3) := by decide +kernel
theorem dX6_shader_43 : decode cX6_shader 43 = .ok (.aload_n 0, 1) := by decide +kernel
theorem dX6_shader_44 : decode cX6_shader 44 = .ok (.iload 5, 2) := by decide +kernel
theorem dX6_shader_46 : decode cX6_shader 46 = .ok (.iload 6, 2) := by decide +kernel
theorem dX6_shader_48 : decode cX6_shader 48 = .ok (.invokevirtual 133, 3) := by decide +kernel
theorem dX6_shader_51 : decode cX6_shader 51 = .ok (.invokestatic 127, 3) := by decide +kernel
theorem dX6_shader_54 : decode cX6_shader 54 = .ok (.ifCond .ne 12, 3) := by decide +kernel
theorem dX6_shader_57 : decode cX6_shader 57 = .ok (.aload_n 0, 1) := by decide +kernel
theorem dX6_shader_58 : decode cX6_shader 58 = .ok (.iload 5, 2) := by decide +kernel
theorem dX6_shader_60 : decode cX6_shader 60 = .ok (.iload 6, 2) := by decide +kernel
theorem dX6_shader_62 : decode cX6_shader 62 = .ok (.invokevirtual 124, 3) := by decide +kernel
theorem dX6_shader_65 : decode cX6_shader 65 = .ok (.ireturn, 1) := by decide +kernel
theorem dX6_shader_66 : decode cX6_shader 66 = .ok (.iinc 4 1, 3) := by decide +kernel
theorem dX6_shader_69 : decode cX6_shader 69 = .ok (.goto (-66), 3) := by decide +kernel
theorem dX6_shader_72 : decode cX6_shader 72 = .ok (.bipush (-9), 2) := by decide +kernel
theorem dX6_shader_74 : decode cX6_shader 74 = .ok (.ireturn, 1) := by decide +kernel
theorem dX6_hoursOf_0 : decode cX6_hoursOf 0 = .ok (.iconst 0, 1) := by decide +kernel
theorem dX6_hoursOf_1 : decode cX6_hoursOf 1 = .ok (.istore_n 3, 1) := by decide +kernel
theorem dX6_hoursOf_2 : decode cX6_hoursOf 2 = .ok (.iconst 0, 1) := by decide +kernel
theorem dX6_hoursOf_3 : decode cX6_hoursOf 3 = .ok (.istore 4, 2) := by decide +kernel
theorem dX6_hoursOf_5 : decode cX6_hoursOf 5 = .ok (.iload 4, 2) := by decide +kernel
theorem dX6_hoursOf_7 : decode cX6_hoursOf 7 = .ok (.iconst 5, 1) := by decide +kernel
theorem dX6_hoursOf_8 : decode cX6_hoursOf 8 = .ok (.if_icmp .ge 33, 3) := by decide +kernel
theorem dX6_hoursOf_11 : decode cX6_hoursOf 11 = .ok (.iload_n 3, 1) := by decide +kernel
theorem dX6_hoursOf_12 : decode cX6_hoursOf 12 = .ok (.aload_n 0, 1) := by decide +kernel
theorem dX6_hoursOf_13 : decode cX6_hoursOf 13 = .ok (.iload_n 1, 1) := by decide +kernel
theorem dX6_hoursOf_14 : decode cX6_hoursOf 14 = .ok (.iload_n 2, 1) := by decide +kernel
theorem dX6_hoursOf_15 : decode cX6_hoursOf 15 = .ok (.iload 4, 2) := by decide +kernel
theorem dX6_hoursOf_17 : decode cX6_hoursOf 17 = .ok (.invokevirtual 155, 3) := by decide +kernel
theorem dX6_hoursOf_20 : decode cX6_hoursOf 20 = .ok (.bipush (-9), 2) := by decide +kernel
theorem dX6_hoursOf_22 : decode cX6_hoursOf 22 = .ok (.if_icmp .ne 10, 3) := by decide +kernel
theorem dX6_hoursOf_25 : decode cX6_hoursOf 25 = .ok (.iconst 1, 1) := by decide +kernel
theorem dX6_hoursOf_26 : decode cX6_hoursOf 26 = .ok (.iload 4, 2) := by decide +kernel
theorem dX6_hoursOf_28 : decode cX6_hoursOf 28 = .ok (.ishl, 1) := by decide +kernel
theorem dX6_hoursOf_29 : decode cX6_hoursOf 29 = .ok (.goto 4, 3) := by decide +kernel
theorem dX6_hoursOf_32 : decode cX6_hoursOf 32 = .ok (.iconst 0, 1) := by decide +kernel
theorem dX6_hoursOf_33 : decode cX6_hoursOf 33 = .ok (.ior, 1) := by decide +kernel
theorem dX6_hoursOf_34 : decode cX6_hoursOf 34 = .ok (.istore_n 3, 1) := by decide +kernel
theorem dX6_hoursOf_35 : decode cX6_hoursOf 35 = .ok (.iinc 4 1, 3) := by decide +kernel
theorem dX6_hoursOf_38 : decode cX6_hoursOf 38 = .ok (.goto (-33), 3) := by decide +kernel
theorem dX6_hoursOf_41 : decode cX6_hoursOf 41 = .ok (.iload_n 3, 1) := by decide +kernel
theorem dX6_hoursOf_42 : decode cX6_hoursOf 42 = .ok (.ireturn, 1) := by decide +kernel
theorem dX6_lampsOver_0 : decode cX6_lampsOver 0 = .ok (.iconst 0, 1) := by decide +kernel
theorem dX6_lampsOver_1 : decode cX6_lampsOver 1 = .ok (.istore_n 3, 1) := by decide +kernel
theorem dX6_lampsOver_2 : decode cX6_lampsOver 2 = .ok (.iload_n 2, 1) := by decide +kernel
theorem dX6_lampsOver_3 : decode cX6_lampsOver 3 = .ok (.iconst 1, 1) := by decide +kernel
theorem dX6_lampsOver_4 : decode cX6_lampsOver 4 = .ok (.iadd, 1) := by decide +kernel
theorem dX6_lampsOver_5 : decode cX6_lampsOver 5 = .ok (.istore 4, 2) := by decide +kernel
theorem dX6_lampsOver_7 : decode cX6_lampsOver 7 = .ok (.iload 4, 2) := by decide +kernel
theorem dX6_lampsOver_9 : decode cX6_lampsOver 9 = .ok (.aload_n 0, 1) := by decide +kernel
theorem dX6_lampsOver_10 : decode cX6_lampsOver 10 = .ok (.getfield 7, 3) := by decide +kernel
theorem dX6_lampsOver_13 : decode cX6_lampsOver 13 = .ok (.iconst 1, 1) := by decide +kernel
theorem dX6_lampsOver_14 : decode cX6_lampsOver 14 = .ok (.iload_n 1, 1) := by decide +kernel
theorem dX6_lampsOver_15 : decode cX6_lampsOver 15 = .ok (.iadd, 1) := by decide +kernel
theorem dX6_lampsOver_16 : decode cX6_lampsOver 16 = .ok (.iaload, 1) := by decide +kernel
theorem dX6_lampsOver_17 : decode cX6_lampsOver 17 = .ok (.if_icmp .ge 28, 3) := by decide +kernel
theorem dX6_lampsOver_20 : decode cX6_lampsOver 20 = .ok (.iload_n 3, 1) := by decide +kernel
theorem dX6_lampsOver_21 : decode cX6_lampsOver 21 = .ok (.aload_n 0, 1) := by decide +kernel
theorem dX6_lampsOver_22 : decode cX6_lampsOver 22 = .ok (.iload_n 1, 1) := by decide +kernel
theorem dX6_lampsOver_23 : decode cX6_lampsOver 23 = .ok (.iload 4, 2) := by decide +kernel
theorem dX6_lampsOver_25 : decode cX6_lampsOver 25 = .ok (.invokevirtual 133, 3) := by decide +kernel
theorem dX6_lampsOver_28 : decode cX6_lampsOver 28 = .ok (.iconst 5, 1) := by decide +kernel
theorem dX6_lampsOver_29 : decode cX6_lampsOver 29 = .ok (.if_icmp .ne 7, 3) := by decide +kernel
theorem dX6_lampsOver_32 : decode cX6_lampsOver 32 = .ok (.iconst 1, 1) := by decide +kernel
theorem dX6_lampsOver_33 : decode cX6_lampsOver 33 = .ok (.goto 4, 3) := by decide +kernel
theorem dX6_lampsOver_36 : decode cX6_lampsOver 36 = .ok (.iconst 0, 1) := by decide +kernel
theorem dX6_lampsOver_37 : decode cX6_lampsOver 37 = .ok (.iadd, 1) := by decide +kernel
theorem dX6_lampsOver_38 : decode cX6_lampsOver 38 = .ok (.istore_n 3, 1) := by decide +kernel
theorem dX6_lampsOver_39 : decode cX6_lampsOver 39 = .ok (.iinc 4 1, 3) := by decide +kernel
theorem dX6_lampsOver_42 : decode cX6_lampsOver 42 = .ok (.goto (-35), 3) := by decide +kernel
theorem dX6_lampsOver_45 : decode cX6_lampsOver 45 = .ok (.iload_n 3, 1) := by decide +kernel
theorem dX6_lampsOver_46 : decode cX6_lampsOver 46 = .ok (.ireturn, 1) := by decide +kernel
theorem dX6_lesser_0 : decode cX6_lesser 0 = .ok (.iload_n 0, 1) := by decide +kernel
theorem dX6_lesser_1 : decode cX6_lesser 1 = .ok (.iload_n 1, 1) := by decide +kernel
theorem dX6_lesser_2 : decode cX6_lesser 2 = .ok (.if_icmp .ge 7, 3) := by decide +kernel
theorem dX6_lesser_5 : decode cX6_lesser 5 = .ok (.iload_n 0, 1) := by decide +kernel
theorem dX6_lesser_6 : decode cX6_lesser 6 = .ok (.goto 4, 3) := by decide +kernel
theorem dX6_lesser_9 : decode cX6_lesser 9 = .ok (.iload_n 1, 1) := by decide +kernel
theorem dX6_lesser_10 : decode cX6_lesser 10 = .ok (.ireturn, 1) := by decide +kernel
theorem dX6_lightBy_0 : decode cX6_lightBy 0 = .ok (.iconst 5, 1) := by decide +kernel
theorem dX6_lightBy_1 : decode cX6_lightBy 1 = .ok (.aload_n 0, 1) := by decide +kernel
theorem dX6_lightBy_2 : decode cX6_lightBy 2 = .ok (.iload_n 1, 1) := by decide +kernel
theorem dX6_lightBy_3 : decode cX6_lightBy 3 = .ok (.iload_n 2, 1) := by decide +kernel
theorem dX6_lightBy_4 : decode cX6_lightBy 4 = .ok (.invokevirtual 159, 3) := by decide +kernel
theorem dX6_lightBy_7 : decode cX6_lightBy 7 = .ok (.iload_n 3, 1) := by decide +kernel
theorem dX6_lightBy_8 : decode cX6_lightBy 8 = .ok (.iconst (-1), 1) := by decide +kernel
theorem dX6_lightBy_9 : decode cX6_lightBy 9 = .ok (.ixor, 1) := by decide +kernel
theorem dX6_lightBy_10 : decode cX6_lightBy 10 = .ok (.iand, 1) := by decide +kernel
theorem dX6_lightBy_11 : decode cX6_lightBy 11 = .ok (.invokestatic 162, 3) := by decide +kernel
theorem dX6_lightBy_14 : decode cX6_lightBy 14 = .ok (.aload_n 0, 1) := by decide +kernel
theorem dX6_lightBy_15 : decode cX6_lightBy 15 = .ok (.iload_n 1, 1) := by decide +kernel
theorem dX6_lightBy_16 : decode cX6_lightBy 16 = .ok (.iload_n 2, 1) := by decide +kernel
theorem dX6_lightBy_17 : decode cX6_lightBy 17 = .ok (.invokevirtual 165, 3) := by decide +kernel
theorem dX6_lightBy_20 : decode cX6_lightBy 20 = .ok (.iadd, 1) := by decide +kernel
theorem dX6_lightBy_21 : decode cX6_lightBy 21 = .ok (.invokestatic 168, 3) := by decide +kernel
theorem dX6_lightBy_24 : decode cX6_lightBy 24 = .ok (.ireturn, 1) := by decide +kernel
theorem dX6_lightOf_0 : decode cX6_lightOf 0 = .ok (.aload_n 0, 1) := by decide +kernel
theorem dX6_lightOf_1 : decode cX6_lightOf 1 = .ok (.aload_n 0, 1) := by decide +kernel
theorem dX6_lightOf_2 : decode cX6_lightOf 2 = .ok (.iload_n 1, 1) := by decide +kernel
theorem dX6_lightOf_3 : decode cX6_lightOf 3 = .ok (.invokevirtual 121, 3) := by decide +kernel
theorem dX6_lightOf_6 : decode cX6_lightOf 6 = .ok (.aload_n 0, 1) := by decide +kernel
theorem dX6_lightOf_7 : decode cX6_lightOf 7 = .ok (.iload_n 1, 1) := by decide +kernel
theorem dX6_lightOf_8 : decode cX6_lightOf 8 = .ok (.invokevirtual 171, 3) := by decide +kernel
theorem dX6_lightOf_11 : decode cX6_lightOf 11 = .ok (.iconst 0, 1) := by decide +kernel
theorem dX6_lightOf_12 : decode cX6_lightOf 12 = .ok (.invokevirtual 174, 3) := by decide +kernel
theorem dX6_lightOf_15 : decode cX6_lightOf 15 = .ok (.ireturn, 1) := by decide +kernel
theorem dX6_allLight_0 : decode cX6_allLight 0 = .ok (.iconst 0, 1) := by decide +kernel
theorem dX6_allLight_1 : decode cX6_allLight 1 = .ok (.istore_n 1, 1) := by decide +kernel
theorem dX6_allLight_2 : decode cX6_allLight 2 = .ok (.iconst 0, 1) := by decide +kernel
theorem dX6_allLight_3 : decode cX6_allLight 3 = .ok (.istore_n 2, 1) := by decide +kernel
theorem dX6_allLight_4 : decode cX6_allLight 4 = .ok (.iload_n 2, 1) := by decide +kernel
theorem dX6_allLight_5 : decode cX6_allLight 5 = .ok (.aload_n 0, 1) := by decide +kernel
theorem dX6_allLight_6 : decode cX6_allLight 6 = .ok (.invokevirtual 177, 3) := by decide +kernel
theorem dX6_allLight_9 : decode cX6_allLight 9 = .ok (.if_icmp .ge 17, 3) := by decide +kernel
theorem dX6_allLight_12 : decode cX6_allLight 12 = .ok (.iload_n 1, 1) := by decide +kernel
theorem dX6_allLight_13 : decode cX6_allLight 13 = .ok (.aload_n 0, 1) := by decide +kernel
theorem dX6_allLight_14 : decode cX6_allLight 14 = .ok (.iload_n 2, 1) := by decide +kernel
theorem dX6_allLight_15 : decode cX6_allLight 15 = .ok (.invokevirtual 181, 3) := by decide +kernel
theorem dX6_allLight_18 : decode cX6_allLight 18 = .ok (.iadd, 1) := by decide +kernel
theorem dX6_allLight_19 : decode cX6_allLight 19 = .ok (.istore_n 1, 1) := by decide +kernel
theorem dX6_allLight_20 : decode cX6_allLight 20 = .ok (.iinc 2 1, 3) := by decide +kernel
theorem dX6_allLight_23 : decode cX6_allLight 23 = .ok (.goto (-19), 3) := by decide +kernel
theorem dX6_allLight_26 : decode cX6_allLight 26 = .ok (.iload_n 1, 1) := by decide +kernel
theorem dX6_allLight_27 : decode cX6_allLight 27 = .ok (.ireturn, 1) := by decide +kernel
theorem dX6_layLamps_0 : decode cX6_layLamps 0 = .ok (.iconst 0, 1) := by decide +kernel
theorem dX6_layLamps_1 : decode cX6_layLamps 1 = .ok (.istore_n 1, 1) := by decide +kernel
theorem dX6_layLamps_2 : decode cX6_layLamps 2 = .ok (.iload_n 1, 1) := by decide +kernel
theorem dX6_layLamps_3 : decode cX6_layLamps 3 = .ok (.sipush 144, 3) := by decide +kernel
theorem dX6_layLamps_6 : decode cX6_layLamps 6 = .ok (.if_icmp .ge 16, 3) := by decide +kernel
theorem dX6_layLamps_9 : decode cX6_layLamps 9 = .ok (.aload_n 0, 1) := by decide +kernel
theorem dX6_layLamps_10 : decode cX6_layLamps 10 = .ok (.getfield 38, 3) := by decide +kernel
theorem dX6_layLamps_13 : decode cX6_layLamps 13 = .ok (.iload_n 1, 1) := by decide +kernel
theorem dX6_layLamps_14 : decode cX6_layLamps 14 = .ok (.iconst 0, 1) := by decide +kernel
theorem dX6_layLamps_15 : decode cX6_layLamps 15 = .ok (.iastore, 1) := by decide +kernel
theorem dX6_layLamps_16 : decode cX6_layLamps 16 = .ok (.iinc 1 1, 3) := by decide +kernel
theorem dX6_layLamps_19 : decode cX6_layLamps 19 = .ok (.goto (-17), 3) := by decide +kernel
theorem dX6_layLamps_22 : decode cX6_layLamps 22 = .ok (.iconst 0, 1) := by decide +kernel
theorem dX6_layLamps_23 : decode cX6_layLamps 23 = .ok (.istore_n 1, 1) := by decide +kernel
theorem dX6_layLamps_24 : decode cX6_layLamps 24 = .ok (.iload_n 1, 1) := by decide +kernel
theorem dX6_layLamps_25 : decode cX6_layLamps 25 = .ok (.aload_n 0, 1) := by decide +kernel
theorem dX6_layLamps_26 : decode cX6_layLamps 26 = .ok (.invokevirtual 177, 3) := by decide +kernel
theorem dX6_layLamps_29 : decode cX6_layLamps 29 = .ok (.if_icmp .ge 116, 3) := by decide +kernel
theorem dX6_layLamps_32 : decode cX6_layLamps 32 = .ok (.aload_n 0, 1) := by decide +kernel
theorem dX6_layLamps_33 : decode cX6_layLamps 33 = .ok (.iload_n 1, 1) := by decide +kernel
theorem dX6_layLamps_34 : decode cX6_layLamps 34 = .ok (.invokevirtual 121, 3) := by decide +kernel
theorem dX6_layLamps_37 : decode cX6_layLamps 37 = .ok (.istore_n 2, 1) := by decide +kernel
theorem dX6_layLamps_38 : decode cX6_layLamps 38 = .ok (.aload_n 0, 1) := by decide +kernel
theorem dX6_layLamps_39 : decode cX6_layLamps 39 = .ok (.iload_n 1, 1) := by decide +kernel
theorem dX6_layLamps_40 : decode cX6_layLamps 40 = .ok (.invokevirtual 171, 3) := by decide +kernel
theorem dX6_layLamps_43 : decode cX6_layLamps 43 = .ok (.istore_n 3, 1) := by decide +kernel
theorem dX6_layLamps_44 : decode cX6_layLamps 44 = .ok (.aload_n 0, 1) := by decide +kernel
theorem dX6_layLamps_45 : decode cX6_layLamps 45 = .ok (.iload_n 2, 1) := by decide +kernel
theorem dX6_layLamps_46 : decode cX6_layLamps 46 = .ok (.iload_n 3, 1) := by decide +kernel
theorem dX6_layLamps_47 : decode cX6_layLamps 47 = .ok (.invokevirtual 133, 3) := by decide +kernel
theorem dX6_layLamps_50 : decode cX6_layLamps 50 = .ok (.iconst 3, 1) := by decide +kernel
theorem dX6_layLamps_51 : decode cX6_layLamps 51 = .ok (.if_icmp .ne 7, 3) := by decide +kernel
theorem dX6_layLamps_54 : decode cX6_layLamps 54 = .ok (.iconst 2, 1) := by decide +kernel
theorem dX6_layLamps_55 : decode cX6_layLamps 55 = .ok (.goto 18, 3) := by decide +kernel
theorem dX6_layLamps_58 : decode cX6_layLamps 58 = .ok (.aload_n 0, 1) := by decide +kernel
theorem dX6_layLamps_59 : decode cX6_layLamps 59 = .ok (.iload_n 2, 1) := by decide +kernel
theorem dX6_layLamps_60 : decode cX6_layLamps 60 = .ok (.iload_n 3, 1) := by decide +kernel
theorem dX6_layLamps_61 : decode cX6_layLamps 61 = .ok (.invokevirtual 133, 3) := by decide +kernel
theorem dX6_layLamps_64 : decode cX6_layLamps 64 = .ok (.iconst 4, 1) := by decide +kernel
theorem dX6_layLamps_65 : decode cX6_layLamps 65 = .ok (.if_icmp .ne 7, 3) := by decide +kernel
theorem dX6_layLamps_68 : decode cX6_layLamps 68 = .ok (.iconst 0, 1) := by decide +kernel
theorem dX6_layLamps_69 : decode cX6_layLamps 69 = .ok (.goto 4, 3) := by decide +kernel
theorem dX6_layLamps_72 : decode cX6_layLamps 72 = .ok (.iconst 1, 1) := by decide +kernel
theorem dX6_layLamps_73 : decode cX6_layLamps 73 = .ok (.istore 4, 2) := by decide +kernel
theorem dX6_layLamps_75 : decode cX6_layLamps 75 = .ok (.iconst 0, 1) := by decide +kernel
theorem dX6_layLamps_76 : decode cX6_layLamps 76 = .ok (.istore 5, 2) := by decide +kernel
theorem dX6_layLamps_78 : decode cX6_layLamps 78 = .ok (.iload 5, 2) := by decide +kernel
theorem dX6_layLamps_80 : decode cX6_layLamps 80 = .ok (.iconst 5, 1) := by decide +kernel
theorem dX6_layLamps_81 : decode cX6_layLamps 81 = .ok (.if_icmp .ge 58, 3) := by decide +kernel
theorem dX6_layLamps_84 : decode cX6_layLamps 84 = .ok (.aload_n 0, 1) := by decide +kernel
theorem dX6_layLamps_85 : decode cX6_layLamps 85 = .ok (.iload_n 2, 1) := by decide +kernel
theorem dX6_layLamps_86 : decode cX6_layLamps 86 = .ok (.iload_n 3, 1) := by decide +kernel
theorem dX6_layLamps_87 : decode cX6_layLamps 87 = .ok (.iload 5, 2) := by decide +kernel
theorem dX6_layLamps_89 : decode cX6_layLamps 89 = .ok (.invokevirtual 155, 3) := by decide +kernel
theorem dX6_layLamps_92 : decode cX6_layLamps 92 = .ok (.istore 6, 2) := by decide +kernel
theorem dX6_layLamps_94 : decode cX6_layLamps 94 = .ok (.aload_n 0, 1) := by decide +kernel
theorem dX6_layLamps_95 : decode cX6_layLamps 95 = .ok (.getfield 38, 3) := by decide +kernel
theorem dX6_layLamps_98 : decode cX6_layLamps 98 = .ok (.iload 6, 2) := by decide +kernel
theorem dX6_layLamps_100 : decode cX6_layLamps 100 = .ok (.bipush (-9), 2) := by decide +kernel
theorem dX6_layLamps_102 : decode cX6_layLamps 102 = .ok (.if_icmp .ne 7, 3) := by decide +kernel
theorem dX6_layLamps_105 : decode cX6_layLamps 105 = .ok (.iconst 0, 1) := by decide +kernel
theorem dX6_layLamps_106 : decode cX6_layLamps 106 = .ok (.goto 10, 3) := by decide +kernel
theorem dX6_layLamps_109 : decode cX6_layLamps 109 = .ok (.bipush 12, 2) := by decide +kernel
theorem dX6_layLamps_111 : decode cX6_layLamps 111 = .ok (.iload 6, 2) := by decide +kernel
theorem dX6_layLamps_113 : decode cX6_layLamps 113 = .ok (.imul, 1) := by decide +kernel
theorem dX6_layLamps_114 : decode cX6_layLamps 114 = .ok (.iload_n 1, 1) := by decide +kernel
theorem dX6_layLamps_115 : decode cX6_layLamps 115 = .ok (.iadd, 1) := by decide +kernel
theorem dX6_layLamps_116 : decode cX6_layLamps 116 = .ok (.dup2, 1) := by decide +kernel
theorem dX6_layLamps_117 : decode cX6_layLamps 117 = .ok (.iaload, 1) := by decide +kernel
theorem dX6_layLamps_118 : decode cX6_layLamps 118 = .ok (.iload 6, 2) := by decide +kernel
theorem dX6_layLamps_120 : decode cX6_layLamps 120 = .ok (.bipush (-9), 2) := by decide +kernel
theorem dX6_layLamps_122 : decode cX6_layLamps 122 = .ok (.if_icmp .ne 7, 3) := by decide +kernel
theorem dX6_layLamps_125 : decode cX6_layLamps 125 = .ok (.iconst 0, 1) := by decide +kernel
theorem dX6_layLamps_126 : decode cX6_layLamps 126 = .ok (.goto 5, 3) := by decide +kernel
theorem dX6_layLamps_129 : decode cX6_layLamps 129 = .ok (.iload 4, 2) := by decide +kernel
theorem dX6_layLamps_131 : decode cX6_layLamps 131 = .ok (.iadd, 1) := by decide +kernel
theorem dX6_layLamps_132 : decode cX6_layLamps 132 = .ok (.iastore, 1) := by decide +kernel
theorem dX6_layLamps_133 : decode cX6_layLamps 133 = .ok (.iinc 5 1, 3) := by decide +kernel
theorem dX6_layLamps_136 : decode cX6_layLamps 136 = .ok (.goto (-58), 3) := by decide +kernel
theorem dX6_layLamps_139 : decode cX6_layLamps 139 = .ok (.iinc 1 1, 3) := by decide +kernel
theorem dX6_layLamps_142 : decode cX6_layLamps 142 = .ok (.goto (-118), 3) := by decide +kernel
theorem dX6_layLamps_145 : decode cX6_layLamps 145 = .ok (.return_, 1) := by decide +kernel
theorem dX6_owesAll_0 : decode cX6_owesAll 0 = .ok (.iconst 0, 1) := by decide +kernel
theorem dX6_owesAll_1 : decode cX6_owesAll 1 = .ok (.istore_n 2, 1) := by decide +kernel
theorem dX6_owesAll_2 : decode cX6_owesAll 2 = .ok (.iconst 0, 1) := by decide +kernel
theorem dX6_owesAll_3 : decode cX6_owesAll 3 = .ok (.istore_n 3, 1) := by decide +kernel
theorem dX6_owesAll_4 : decode cX6_owesAll 4 = .ok (.iload_n 3, 1) := by decide +kernel
theorem dX6_owesAll_5 : decode cX6_owesAll 5 = .ok (.bipush 12, 2) := by decide +kernel
theorem dX6_owesAll_7 : decode cX6_owesAll 7 = .ok (.if_icmp .ge 23, 3) := by decide +kernel
theorem dX6_owesAll_10 : decode cX6_owesAll 10 = .ok (.iload_n 2, 1) := by decide +kernel
theorem dX6_owesAll_11 : decode cX6_owesAll 11 = .ok (.aload_n 0, 1) := by decide +kernel
theorem dX6_owesAll_12 : decode cX6_owesAll 12 = .ok (.getfield 38, 3) := by decide +kernel
theorem dX6_owesAll_15 : decode cX6_owesAll 15 = .ok (.bipush 12, 2) := by decide +kernel
theorem dX6_owesAll_17 : decode cX6_owesAll 17 = .ok (.iload_n 1, 1) := by decide +kernel
theorem dX6_owesAll_18 : decode cX6_owesAll 18 = .ok (.imul, 1) := by decide +kernel
theorem dX6_owesAll_19 : decode cX6_owesAll 19 = .ok (.iload_n 3, 1) := by decide +kernel
theorem dX6_owesAll_20 : decode cX6_owesAll 20 = .ok (.iadd, 1) := by decide +kernel
theorem dX6_owesAll_21 : decode cX6_owesAll 21 = .ok (.iaload, 1) := by decide +kernel
theorem dX6_owesAll_22 : decode cX6_owesAll 22 = .ok (.iadd, 1) := by decide +kernel
theorem dX6_owesAll_23 : decode cX6_owesAll 23 = .ok (.istore_n 2, 1) := by decide +kernel
theorem dX6_owesAll_24 : decode cX6_owesAll 24 = .ok (.iinc 3 1, 3) := by decide +kernel
theorem dX6_owesAll_27 : decode cX6_owesAll 27 = .ok (.goto (-23), 3) := by decide +kernel
theorem dX6_owesAll_30 : decode cX6_owesAll 30 = .ok (.iload_n 2, 1) := by decide +kernel
theorem dX6_owesAll_31 : decode cX6_owesAll 31 = .ok (.ireturn, 1) := by decide +kernel
theorem dX6_owedAll_0 : decode cX6_owedAll 0 = .ok (.iconst 0, 1) := by decide +kernel
theorem dX6_owedAll_1 : decode cX6_owedAll 1 = .ok (.istore_n 2, 1) := by decide +kernel
theorem dX6_owedAll_2 : decode cX6_owedAll 2 = .ok (.iconst 0, 1) := by decide +kernel
theorem dX6_owedAll_3 : decode cX6_owedAll 3 = .ok (.istore_n 3, 1) := by decide +kernel
theorem dX6_owedAll_4 : decode cX6_owedAll 4 = .ok (.iload_n 3, 1) := by decide +kernel
theorem dX6_owedAll_5 : decode cX6_owedAll 5 = .ok (.bipush 12, 2) := by decide +kernel
theorem dX6_owedAll_7 : decode cX6_owedAll 7 = .ok (.if_icmp .ge 23, 3) := by decide +kernel
theorem dX6_owedAll_10 : decode cX6_owedAll 10 = .ok (.iload_n 2, 1) := by decide +kernel
theorem dX6_owedAll_11 : decode cX6_owedAll 11 = .ok (.aload_n 0, 1) := by decide +kernel
theorem dX6_owedAll_12 : decode cX6_owedAll 12 = .ok (.getfield 38, 3) := by decide +kernel
theorem dX6_owedAll_15 : decode cX6_owedAll 15 = .ok (.bipush 12, 2) := by decide +kernel
theorem dX6_owedAll_17 : decode cX6_owedAll 17 = .ok (.iload_n 3, 1) := by decide +kernel
theorem dX6_owedAll_18 : decode cX6_owedAll 18 = .ok (.imul, 1) := by decide +kernel
theorem dX6_owedAll_19 : decode cX6_owedAll 19 = .ok (.iload_n 1, 1) := by decide +kernel
theorem dX6_owedAll_20 : decode cX6_owedAll 20 = .ok (.iadd, 1) := by decide +kernel
theorem dX6_owedAll_21 : decode cX6_owedAll 21 = .ok (.iaload, 1) := by decide +kernel
theorem dX6_owedAll_22 : decode cX6_owedAll 22 = .ok (.iadd, 1) := by decide +kernel
theorem dX6_owedAll_23 : decode cX6_owedAll 23 = .ok (.istore_n 2, 1) := by decide +kernel
theorem dX6_owedAll_24 : decode cX6_owedAll 24 = .ok (.iinc 3 1, 3) := by decide +kernel
theorem dX6_owedAll_27 : decode cX6_owedAll 27 = .ok (.goto (-23), 3) := by decide +kernel
theorem dX6_owedAll_30 : decode cX6_owedAll 30 = .ok (.iload_n 2, 1) := by decide +kernel
theorem dX6_owedAll_31 : decode cX6_owedAll 31 = .ok (.ireturn, 1) := by decide +kernel
theorem dX6_allLamps_0 : decode cX6_allLamps 0 = .ok (.aload_n 0, 1) := by decide +kernel
theorem dX6_allLamps_1 : decode cX6_allLamps 1 = .ok (.invokevirtual 184, 3) := by decide +kernel
theorem dX6_allLamps_4 : decode cX6_allLamps 4 = .ok (.iconst 0, 1) := by decide +kernel
theorem dX6_allLamps_5 : decode cX6_allLamps 5 = .ok (.istore_n 1, 1) := by decide +kernel
theorem dX6_allLamps_6 : decode cX6_allLamps 6 = .ok (.iconst 0, 1) := by decide +kernel
theorem dX6_allLamps_7 : decode cX6_allLamps 7 = .ok (.istore_n 2, 1) := by decide +kernel
theorem dX6_allLamps_8 : decode cX6_allLamps 8 = .ok (.iload_n 2, 1) := by decide +kernel
theorem dX6_allLamps_9 : decode cX6_allLamps 9 = .ok (.sipush 144, 3) := by decide +kernel
theorem dX6_allLamps_12 : decode cX6_allLamps 12 = .ok (.if_icmp .ge 18, 3) := by decide +kernel
theorem dX6_allLamps_15 : decode cX6_allLamps 15 = .ok (.iload_n 1, 1) := by decide +kernel
theorem dX6_allLamps_16 : decode cX6_allLamps 16 = .ok (.aload_n 0, 1) := by decide +kernel
theorem dX6_allLamps_17 : decode cX6_allLamps 17 = .ok (.getfield 38, 3) := by decide +kernel
theorem dX6_allLamps_20 : decode cX6_allLamps 20 = .ok (.iload_n 2, 1) := by decide +kernel
theorem dX6_allLamps_21 : decode cX6_allLamps 21 = .ok (.iaload, 1) := by decide +kernel
theorem dX6_allLamps_22 : decode cX6_allLamps 22 = .ok (.iadd, 1) := by decide +kernel
theorem dX6_allLamps_23 : decode cX6_allLamps 23 = .ok (.istore_n 1, 1) := by decide +kernel
theorem dX6_allLamps_24 : decode cX6_allLamps 24 = .ok (.iinc 2 1, 3) := by decide +kernel
theorem dX6_allLamps_27 : decode cX6_allLamps 27 = .ok (.goto (-19), 3) := by decide +kernel
theorem dX6_allLamps_30 : decode cX6_allLamps 30 = .ok (.iload_n 1, 1) := by decide +kernel
theorem dX6_allLamps_31 : decode cX6_allLamps 31 = .ok (.ireturn, 1) := by decide +kernel
theorem dX6_houseTells_0 : decode cX6_houseTells 0 = .ok (.aload_n 0, 1) := by decide +kernel
theorem dX6_houseTells_1 : decode cX6_houseTells 1 = .ok (.iload_n 1, 1) := by decide +kernel
theorem dX6_houseTells_2 : decode cX6_houseTells 2 = .ok (.iload_n 2, 1) := by decide +kernel
theorem dX6_houseTells_3 : decode cX6_houseTells 3 = .ok (.invokevirtual 124, 3) := by decide +kernel
theorem dX6_houseTells_6 : decode cX6_houseTells 6 = .ok (.istore 4, 2) := by decide +kernel
theorem dX6_houseTells_8 : decode cX6_houseTells 8 = .ok (.iload_n 3, 1) := by decide +kernel
theorem dX6_houseTells_9 : decode cX6_houseTells 9 = .ok (.tableswitch 77 0 5 #[39, 42, 49, 56, 63, 70], 39) := by decide +kernel
theorem dX6_houseTells_48 : decode cX6_houseTells 48 = .ok (.iload 4, 2) := by decide +kernel
theorem dX6_houseTells_50 : decode cX6_houseTells 50 = .ok (.ireturn, 1) := by decide +kernel
theorem dX6_houseTells_51 : decode cX6_houseTells 51 = .ok (.aload_n 0, 1) := by decide +kernel
theorem dX6_houseTells_52 : decode cX6_houseTells 52 = .ok (.iload_n 1, 1) := by decide +kernel
theorem dX6_houseTells_53 : decode cX6_houseTells 53 = .ok (.iload_n 2, 1) := by decide +kernel
theorem dX6_houseTells_54 : decode cX6_houseTells 54 = .ok (.invokevirtual 133, 3) := by decide +kernel
theorem dX6_houseTells_57 : decode cX6_houseTells 57 = .ok (.ireturn, 1) := by decide +kernel
theorem dX6_houseTells_58 : decode cX6_houseTells 58 = .ok (.aload_n 0, 1) := by decide +kernel
theorem dX6_houseTells_59 : decode cX6_houseTells 59 = .ok (.iload_n 1, 1) := by decide +kernel
theorem dX6_houseTells_60 : decode cX6_houseTells 60 = .ok (.iload_n 2, 1) := by decide +kernel
theorem dX6_houseTells_61 : decode cX6_houseTells 61 = .ok (.invokevirtual 142, 3) := by decide +kernel
theorem dX6_houseTells_64 : decode cX6_houseTells 64 = .ok (.ireturn, 1) := by decide +kernel
theorem dX6_houseTells_65 : decode cX6_houseTells 65 = .ok (.aload_n 0, 1) := by decide +kernel
theorem dX6_houseTells_66 : decode cX6_houseTells 66 = .ok (.iload_n 1, 1) := by decide +kernel
theorem dX6_houseTells_67 : decode cX6_houseTells 67 = .ok (.iload_n 2, 1) := by decide +kernel
theorem dX6_houseTells_68 : decode cX6_houseTells 68 = .ok (.invokevirtual 139, 3) := by decide +kernel
theorem dX6_houseTells_71 : decode cX6_houseTells 71 = .ok (.ireturn, 1) := by decide +kernel
theorem dX6_houseTells_72 : decode cX6_houseTells 72 = .ok (.aload_n 0, 1) := by decide +kernel
theorem dX6_houseTells_73 : decode cX6_houseTells 73 = .ok (.iload 4, 2) := by decide +kernel
theorem dX6_houseTells_75 : decode cX6_houseTells 75 = .ok (.invokevirtual 181, 3) := by decide +kernel
theorem dX6_houseTells_78 : decode cX6_houseTells 78 = .ok (.ireturn, 1) := by decide +kernel
theorem dX6_houseTells_79 : decode cX6_houseTells 79 = .ok (.aload_n 0, 1) := by decide +kernel
theorem dX6_houseTells_80 : decode cX6_houseTells 80 = .ok (.iload 4, 2) := by decide +kernel
theorem dX6_houseTells_82 : decode cX6_houseTells 82 = .ok (.invokevirtual 187, 3) := by decide +kernel
theorem dX6_houseTells_85 : decode cX6_houseTells 85 = .ok (.ireturn, 1) := by decide +kernel
theorem dX6_houseTells_86 : decode cX6_houseTells 86 = .ok (.aload_n 0, 1) := by decide +kernel
theorem dX6_houseTells_87 : decode cX6_houseTells 87 = .ok (.iload 4, 2) := by decide +kernel
theorem dX6_houseTells_89 : decode cX6_houseTells 89 = .ok (.invokevirtual 190, 3) := by decide +kernel
theorem dX6_houseTells_92 : decode cX6_houseTells 92 = .ok (.ireturn, 1) := by decide +kernel
theorem dX6_house_0 : decode cX6_house 0 = .ok (.aload_n 0, 1) := by decide +kernel
theorem dX6_house_1 : decode cX6_house 1 = .ok (.iload_n 1, 1) := by decide +kernel
theorem dX6_house_2 : decode cX6_house 2 = .ok (.iload_n 2, 1) := by decide +kernel
theorem dX6_house_3 : decode cX6_house 3 = .ok (.invokevirtual 193, 3) := by decide +kernel
theorem dX6_house_6 : decode cX6_house 6 = .ok (.ifCond .eq 15, 3) := by decide +kernel
theorem dX6_house_9 : decode cX6_house 9 = .ok (.iload_n 3, 1) := by decide +kernel
theorem dX6_house_10 : decode cX6_house 10 = .ok (.i2l, 1) := by decide +kernel
theorem dX6_house_11 : decode cX6_house 11 = .ok (.lconst 0, 1) := by decide +kernel
theorem dX6_house_12 : decode cX6_house 12 = .ok (.ldc2_w 196, 3) := by decide +kernel
theorem dX6_house_15 : decode cX6_house 15 = .ok (.invokestatic 63, 3) := by decide +kernel
theorem dX6_house_18 : decode cX6_house 18 = .ok (.ifCond .ne 5, 3) := by decide +kernel
theorem dX6_house_21 : decode cX6_house 21 = .ok (.iconst (-1), 1) := by decide +kernel
theorem dX6_house_22 : decode cX6_house 22 = .ok (.ireturn, 1) := by decide +kernel
theorem dX6_house_23 : decode cX6_house 23 = .ok (.aload_n 0, 1) := by decide +kernel
theorem dX6_house_24 : decode cX6_house 24 = .ok (.iload_n 1, 1) := by decide +kernel
theorem dX6_house_25 : decode cX6_house 25 = .ok (.iload_n 2, 1) := by decide +kernel
theorem dX6_house_26 : decode cX6_house 26 = .ok (.invokevirtual 151, 3) := by decide +kernel
theorem dX6_house_29 : decode cX6_house 29 = .ok (.ifCond .ne 9, 3) := by decide +kernel
theorem dX6_house_32 : decode cX6_house 32 = .ok (.aload_n 0, 1) := by decide +kernel
theorem dX6_house_33 : decode cX6_house 33 = .ok (.iconst 2, 1) := by decide +kernel
theorem dX6_house_34 : decode cX6_house 34 = .ok (.invokevirtual 73, 3) := by decide +kernel
theorem dX6_house_37 : decode cX6_house 37 = .ok (.ireturn, 1) := by decide +kernel
theorem dX6_house_38 : decode cX6_house 38 = .ok (.aload_n 0, 1) := by decide +kernel
theorem dX6_house_39 : decode cX6_house 39 = .ok (.invokevirtual 184, 3) := by decide +kernel
theorem dX6_house_42 : decode cX6_house 42 = .ok (.aload_n 0, 1) := by decide +kernel
theorem dX6_house_43 : decode cX6_house 43 = .ok (.aload_n 0, 1) := by decide +kernel
theorem dX6_house_44 : decode cX6_house 44 = .ok (.iload_n 1, 1) := by decide +kernel
theorem dX6_house_45 : decode cX6_house 45 = .ok (.iload_n 2, 1) := by decide +kernel
theorem dX6_house_46 : decode cX6_house 46 = .ok (.iload_n 3, 1) := by decide +kernel
theorem dX6_house_47 : decode cX6_house 47 = .ok (.invokevirtual 198, 3) := by decide +kernel
theorem dX6_house_50 : decode cX6_house 50 = .ok (.iconst 1, 1) := by decide +kernel
theorem dX6_house_51 : decode cX6_house 51 = .ok (.invokevirtual 81, 3) := by decide +kernel
theorem dX6_house_54 : decode cX6_house 54 = .ok (.ireturn, 1) := by decide +kernel
theorem dX6_isOf_0 : decode cX6_isOf 0 = .ok (.iload_n 0, 1) := by decide +kernel
theorem dX6_isOf_1 : decode cX6_isOf 1 = .ok (.iload_n 1, 1) := by decide +kernel
theorem dX6_isOf_2 : decode cX6_isOf 2 = .ok (.if_icmp .eq 23, 3) := by decide +kernel
theorem dX6_isOf_5 : decode cX6_isOf 5 = .ok (.iload_n 1, 1) := by decide +kernel
theorem dX6_isOf_6 : decode cX6_isOf 6 = .ok (.iconst 1, 1) := by decide +kernel
theorem dX6_isOf_7 : decode cX6_isOf 7 = .ok (.if_icmp .ne 8, 3) := by decide +kernel
theorem dX6_isOf_10 : decode cX6_isOf 10 = .ok (.iload_n 0, 1) := by decide +kernel
theorem dX6_isOf_11 : decode cX6_isOf 11 = .ok (.iconst 4, 1) := by decide +kernel
theorem dX6_isOf_12 : decode cX6_isOf 12 = .ok (.if_icmp .eq 13, 3) := by decide +kernel
theorem dX6_isOf_15 : decode cX6_isOf 15 = .ok (.iload_n 1, 1) := by decide +kernel
theorem dX6_isOf_16 : decode cX6_isOf 16 = .ok (.iconst 2, 1) := by decide +kernel
theorem dX6_isOf_17 : decode cX6_isOf 17 = .ok (.if_icmp .ne 12, 3) := by decide +kernel
theorem dX6_isOf_20 : decode cX6_isOf 20 = .ok (.iload_n 0, 1) := by decide +kernel
theorem dX6_isOf_21 : decode cX6_isOf 21 = .ok (.iconst 5, 1) := by decide +kernel
theorem dX6_isOf_22 : decode cX6_isOf 22 = .ok (.if_icmp .ne 7, 3) := by decide +kernel
theorem dX6_isOf_25 : decode cX6_isOf 25 = .ok (.iconst 1, 1) := by decide +kernel
theorem dX6_isOf_26 : decode cX6_isOf 26 = .ok (.goto 4, 3) := by decide +kernel
theorem dX6_isOf_29 : decode cX6_isOf 29 = .ok (.iconst 0, 1) := by decide +kernel
theorem dX6_isOf_30 : decode cX6_isOf 30 = .ok (.ireturn, 1) := by decide +kernel
theorem dX6_isOnWay_0 : decode cX6_isOnWay 0 = .ok (.iconst 0, 1) := by decide +kernel
theorem dX6_isOnWay_1 : decode cX6_isOnWay 1 = .ok (.istore 5, 2) := by decide +kernel
theorem dX6_isOnWay_3 : decode cX6_isOnWay 3 = .ok (.iconst 1, 1) := by decide +kernel
theorem dX6_isOnWay_4 : decode cX6_isOnWay 4 = .ok (.istore 6, 2) := by decide +kernel
theorem dX6_isOnWay_6 : decode cX6_isOnWay 6 = .ok (.iload 6, 2) := by decide +kernel
theorem dX6_isOnWay_8 : decode cX6_isOnWay 8 = .ok (.bipush 7, 2) := by decide +kernel
theorem dX6_isOnWay_10 : decode cX6_isOnWay 10 = .ok (.if_icmp .ge 49, 3) := by decide +kernel
theorem dX6_isOnWay_13 : decode cX6_isOnWay 13 = .ok (.iload 5, 2) := by decide +kernel
theorem dX6_isOnWay_15 : decode cX6_isOnWay 15 = .ok (.ifCond .ne 31, 3) := by decide +kernel
theorem dX6_isOnWay_18 : decode cX6_isOnWay 18 = .ok (.iload_n 2, 1) := by decide +kernel
theorem dX6_isOnWay_19 : decode cX6_isOnWay 19 = .ok (.iload_n 0, 1) := by decide +kernel
theorem dX6_isOnWay_20 : decode cX6_isOnWay 20 = .ok (.iload 6, 2) := by decide +kernel
theorem dX6_isOnWay_22 : decode cX6_isOnWay 22 = .ok (.iload 4, 2) := by decide +kernel
theorem dX6_isOnWay_24 : decode cX6_isOnWay 24 = .ok (.invokestatic 145, 3) := by decide +kernel
theorem dX6_isOnWay_27 : decode cX6_isOnWay 27 = .ok (.imul, 1) := by decide +kernel
theorem dX6_isOnWay_28 : decode cX6_isOnWay 28 = .ok (.iadd, 1) := by decide +kernel
theorem dX6_isOnWay_29 : decode cX6_isOnWay 29 = .ok (.if_icmp .ne 21, 3) := by decide +kernel
theorem dX6_isOnWay_32 : decode cX6_isOnWay 32 = .ok (.iload_n 3, 1) := by decide +kernel
theorem dX6_isOnWay_33 : decode cX6_isOnWay 33 = .ok (.iload_n 1, 1) := by decide +kernel
theorem dX6_isOnWay_34 : decode cX6_isOnWay 34 = .ok (.iload 6, 2) := by decide +kernel
theorem dX6_isOnWay_36 : decode cX6_isOnWay 36 = .ok (.iload 4, 2) := by decide +kernel
theorem dX6_isOnWay_38 : decode cX6_isOnWay 38 = .ok (.invokestatic 148, 3) := by decide +kernel
theorem dX6_isOnWay_41 : decode cX6_isOnWay 41 = .ok (.imul, 1) := by decide +kernel
theorem dX6_isOnWay_42 : decode cX6_isOnWay 42 = .ok (.iadd, 1) := by decide +kernel
theorem dX6_isOnWay_43 : decode cX6_isOnWay 43 = .ok (.if_icmp .ne 7, 3) := by decide +kernel
theorem dX6_isOnWay_46 : decode cX6_isOnWay 46 = .ok (.iconst 1, 1) := by decide +kernel
theorem dX6_isOnWay_47 : decode cX6_isOnWay 47 = .ok (.goto 4, 3) := by decide +kernel
theorem dX6_isOnWay_50 : decode cX6_isOnWay 50 = .ok (.iconst 0, 1) := by decide +kernel
theorem dX6_isOnWay_51 : decode cX6_isOnWay 51 = .ok (.istore 5, 2) := by decide +kernel
theorem dX6_isOnWay_53 : decode cX6_isOnWay 53 = .ok (.iinc 6 1, 3) := by decide +kernel
theorem dX6_isOnWay_56 : decode cX6_isOnWay 56 = .ok (.goto (-50), 3) := by decide +kernel
theorem dX6_isOnWay_59 : decode cX6_isOnWay 59 = .ok (.iload 5, 2) := by decide +kernel
theorem dX6_isOnWay_61 : decode cX6_isOnWay 61 = .ok (.ireturn, 1) := by decide +kernel
theorem dX6_couldShade_0 : decode cX6_couldShade 0 = .ok (.iconst 0, 1) := by decide +kernel
theorem dX6_couldShade_1 : decode cX6_couldShade 1 = .ok (.istore_n 3, 1) := by decide +kernel
theorem dX6_couldShade_2 : decode cX6_couldShade 2 = .ok (.iconst 0, 1) := by decide +kernel
theorem dX6_couldShade_3 : decode cX6_couldShade 3 = .ok (.istore 4, 2) := by decide +kernel
theorem dX6_couldShade_5 : decode cX6_couldShade 5 = .ok (.iload 4, 2) := by decide +kernel
theorem dX6_couldShade_7 : decode cX6_couldShade 7 = .ok (.aload_n 0, 1) := by decide +kernel
theorem dX6_couldShade_8 : decode cX6_couldShade 8 = .ok (.getfield 7, 3) := by decide +kernel
theorem dX6_couldShade_11 : decode cX6_couldShade 11 = .ok (.iconst 0, 1) := by decide +kernel
theorem dX6_couldShade_12 : decode cX6_couldShade 12 = .ok (.iaload, 1) := by decide +kernel
theorem dX6_couldShade_13 : decode cX6_couldShade 13 = .ok (.if_icmp .ge 84, 3) := by decide +kernel
theorem dX6_couldShade_16 : decode cX6_couldShade 16 = .ok (.iconst 0, 1) := by decide +kernel
theorem dX6_couldShade_17 : decode cX6_couldShade 17 = .ok (.istore 5, 2) := by decide +kernel
theorem dX6_couldShade_19 : decode cX6_couldShade 19 = .ok (.iload 5, 2) := by decide +kernel
theorem dX6_couldShade_21 : decode cX6_couldShade 21 = .ok (.aload_n 0, 1) := by decide +kernel
theorem dX6_couldShade_22 : decode cX6_couldShade 22 = .ok (.getfield 7, 3) := by decide +kernel
theorem dX6_couldShade_25 : decode cX6_couldShade 25 = .ok (.iconst 1, 1) := by decide +kernel
theorem dX6_couldShade_26 : decode cX6_couldShade 26 = .ok (.iload 4, 2) := by decide +kernel
theorem dX6_couldShade_28 : decode cX6_couldShade 28 = .ok (.iadd, 1) := by decide +kernel
theorem dX6_couldShade_29 : decode cX6_couldShade 29 = .ok (.iaload, 1) := by decide +kernel
theorem dX6_couldShade_30 : decode cX6_couldShade 30 = .ok (.if_icmp .ge 61, 3) := by decide +kernel
theorem dX6_couldShade_33 : decode cX6_couldShade 33 = .ok (.iconst 0, 1) := by decide +kernel
theorem dX6_couldShade_34 : decode cX6_couldShade 34 = .ok (.istore 6, 2) := by decide +kernel
theorem dX6_couldShade_36 : decode cX6_couldShade 36 = .ok (.iload 6, 2) := by decide +kernel
theorem dX6_couldShade_38 : decode cX6_couldShade 38 = .ok (.iconst 5, 1) := by decide +kernel
theorem dX6_couldShade_39 : decode cX6_couldShade 39 = .ok (.if_icmp .ge 46, 3) := by decide +kernel
theorem dX6_couldShade_42 : decode cX6_couldShade 42 = .ok (.iload_n 3, 1) := by decide +kernel
theorem dX6_couldShade_43 : decode cX6_couldShade 43 = .ok (.aload_n 0, 1) := by decide +kernel
theorem dX6_couldShade_44 : decode cX6_couldShade 44 = .ok (.iload 4, 2) := by decide +kernel
theorem dX6_couldShade_46 : decode cX6_couldShade 46 = .ok (.iload 5, 2) := by decide +kernel
theorem dX6_couldShade_48 : decode cX6_couldShade 48 = .ok (.iload 6, 2) := by decide +kernel
theorem dX6_couldShade_50 : decode cX6_couldShade 50 = .ok (.invokevirtual 155, 3) := by decide +kernel
theorem dX6_couldShade_53 : decode cX6_couldShade 53 = .ok (.bipush (-9), 2) := by decide +kernel
theorem dX6_couldShade_55 : decode cX6_couldShade 55 = .ok (.if_icmp .ne 21, 3) := by decide +kernel
theorem dX6_couldShade_58 : decode cX6_couldShade 58 = .ok (.iload 4, 2) := by decide +kernel
theorem dX6_couldShade_60 : decode cX6_couldShade 60 = .ok (.iload 5, 2) := by decide +kernel
theorem dX6_couldShade_62 : decode cX6_couldShade 62 = .ok (.iload_n 1, 1) := by decide +kernel
theorem dX6_couldShade_63 : decode cX6_couldShade 63 = .ok (.iload_n 2, 1) := by decide +kernel
theorem dX6_couldShade_64 : decode cX6_couldShade 64 = .ok (.iload 6, 2) := by decide +kernel
theorem dX6_couldShade_66 : decode cX6_couldShade 66 = .ok (.invokestatic 201, 3) := by decide +kernel
theorem dX6_couldShade_69 : decode cX6_couldShade 69 = .ok (.ifCond .eq 7, 3) := by decide +kernel
theorem dX6_couldShade_72 : decode cX6_couldShade 72 = .ok (.iconst 1, 1) := by decide +kernel
theorem dX6_couldShade_73 : decode cX6_couldShade 73 = .ok (.goto 4, 3) := by decide +kernel
theorem dX6_couldShade_76 : decode cX6_couldShade 76 = .ok (.iconst 0, 1) := by decide +kernel
theorem dX6_couldShade_77 : decode cX6_couldShade 77 = .ok (.iadd, 1) := by decide +kernel
theorem dX6_couldShade_78 : decode cX6_couldShade 78 = .ok (.istore_n 3, 1) := by decide +kernel
theorem dX6_couldShade_79 : decode cX6_couldShade 79 = .ok (.iinc 6 1, 3) := by decide +kernel
theorem dX6_couldShade_82 : decode cX6_couldShade 82 = .ok (.goto (-46), 3) := by decide +kernel
theorem dX6_couldShade_85 : decode cX6_couldShade 85 = .ok (.iinc 5 1, 3) := by decide +kernel
theorem dX6_couldShade_88 : decode cX6_couldShade 88 = .ok (.goto (-69), 3) := by decide +kernel
theorem dX6_couldShade_91 : decode cX6_couldShade 91 = .ok (.iinc 4 1, 3) := by decide +kernel
theorem dX6_couldShade_94 : decode cX6_couldShade 94 = .ok (.goto (-89), 3) := by decide +kernel
theorem dX6_couldShade_97 : decode cX6_couldShade 97 = .ok (.iload_n 3, 1) := by decide +kernel
theorem dX6_couldShade_98 : decode cX6_couldShade 98 = .ok (.ireturn, 1) := by decide +kernel
theorem dX6_lightened_0 : decode cX6_lightened 0 = .ok (.iconst 0, 1) := by decide +kernel
theorem dX6_lightened_1 : decode cX6_lightened 1 = .ok (.istore_n 3, 1) := by decide +kernel
theorem dX6_lightened_2 : decode cX6_lightened 2 = .ok (.iconst 0, 1) := by decide +kernel
theorem dX6_lightened_3 : decode cX6_lightened 3 = .ok (.istore 4, 2) := by decide +kernel
theorem dX6_lightened_5 : decode cX6_lightened 5 = .ok (.iload 4, 2) := by decide +kernel
theorem dX6_lightened_7 : decode cX6_lightened 7 = .ok (.iload_n 2, 1) := by decide +kernel
theorem dX6_lightened_8 : decode cX6_lightened 8 = .ok (.if_icmp .ge 39, 3) := by decide +kernel
theorem dX6_lightened_11 : decode cX6_lightened 11 = .ok (.iload_n 3, 1) := by decide +kernel
theorem dX6_lightened_12 : decode cX6_lightened 12 = .ok (.aload_n 0, 1) := by decide +kernel
theorem dX6_lightened_13 : decode cX6_lightened 13 = .ok (.iload_n 1, 1) := by decide +kernel
theorem dX6_lightened_14 : decode cX6_lightened 14 = .ok (.iload 4, 2) := by decide +kernel
theorem dX6_lightened_16 : decode cX6_lightened 16 = .ok (.invokevirtual 159, 3) := by decide +kernel
theorem dX6_lightened_19 : decode cX6_lightened 19 = .ok (.invokestatic 162, 3) := by decide +kernel
theorem dX6_lightened_22 : decode cX6_lightened 22 = .ok (.aload_n 0, 1) := by decide +kernel
theorem dX6_lightened_23 : decode cX6_lightened 23 = .ok (.iload_n 1, 1) := by decide +kernel
theorem dX6_lightened_24 : decode cX6_lightened 24 = .ok (.iload 4, 2) := by decide +kernel
theorem dX6_lightened_26 : decode cX6_lightened 26 = .ok (.invokevirtual 165, 3) := by decide +kernel
theorem dX6_lightened_29 : decode cX6_lightened 29 = .ok (.iadd, 1) := by decide +kernel
theorem dX6_lightened_30 : decode cX6_lightened 30 = .ok (.iconst 5, 1) := by decide +kernel
theorem dX6_lightened_31 : decode cX6_lightened 31 = .ok (.if_icmp .gt 7, 3) := by decide +kernel
theorem dX6_lightened_34 : decode cX6_lightened 34 = .ok (.iconst 1, 1) := by decide +kernel
theorem dX6_lightened_35 : decode cX6_lightened 35 = .ok (.goto 4, 3) := by decide +kernel
theorem dX6_lightened_38 : decode cX6_lightened 38 = .ok (.iconst 0, 1) := by decide +kernel
theorem dX6_lightened_39 : decode cX6_lightened 39 = .ok (.iadd, 1) := by decide +kernel
theorem dX6_lightened_40 : decode cX6_lightened 40 = .ok (.istore_n 3, 1) := by decide +kernel
theorem dX6_lightened_41 : decode cX6_lightened 41 = .ok (.iinc 4 1, 3) := by decide +kernel
theorem dX6_lightened_44 : decode cX6_lightened 44 = .ok (.goto (-39), 3) := by decide +kernel
theorem dX6_lightened_47 : decode cX6_lightened 47 = .ok (.iload_n 3, 1) := by decide +kernel
theorem dX6_lightened_48 : decode cX6_lightened 48 = .ok (.ireturn, 1) := by decide +kernel
theorem dX6_mark_0 : decode cX6_mark 0 = .ok (.aload_n 0, 1) := by decide +kernel
theorem dX6_mark_1 : decode cX6_mark 1 = .ok (.iload_n 1, 1) := by decide +kernel
theorem dX6_mark_2 : decode cX6_mark 2 = .ok (.iload_n 2, 1) := by decide +kernel
theorem dX6_mark_3 : decode cX6_mark 3 = .ok (.invokevirtual 193, 3) := by decide +kernel
theorem dX6_mark_6 : decode cX6_mark 6 = .ok (.ifCond .eq 15, 3) := by decide +kernel
theorem dX6_mark_9 : decode cX6_mark 9 = .ok (.iload_n 3, 1) := by decide +kernel
theorem dX6_mark_10 : decode cX6_mark 10 = .ok (.i2l, 1) := by decide +kernel
theorem dX6_mark_11 : decode cX6_mark 11 = .ok (.lconst 1, 1) := by decide +kernel
theorem dX6_mark_12 : decode cX6_mark 12 = .ok (.ldc2_w 61, 3) := by decide +kernel
theorem dX6_mark_15 : decode cX6_mark 15 = .ok (.invokestatic 63, 3) := by decide +kernel
theorem dX6_mark_18 : decode cX6_mark 18 = .ok (.ifCond .ne 5, 3) := by decide +kernel
theorem dX6_mark_21 : decode cX6_mark 21 = .ok (.iconst (-1), 1) := by decide +kernel
theorem dX6_mark_22 : decode cX6_mark 22 = .ok (.ireturn, 1) := by decide +kernel
theorem dX6_mark_23 : decode cX6_mark 23 = .ok (.aload_n 0, 1) := by decide +kernel
theorem dX6_mark_24 : decode cX6_mark 24 = .ok (.iload_n 1, 1) := by decide +kernel
theorem dX6_mark_25 : decode cX6_mark 25 = .ok (.iload_n 2, 1) := by decide +kernel
theorem dX6_mark_26 : decode cX6_mark 26 = .ok (.invokevirtual 151, 3) := by decide +kernel
theorem dX6_mark_29 : decode cX6_mark 29 = .ok (.ifCond .ne 9, 3) := by decide +kernel
theorem dX6_mark_32 : decode cX6_mark 32 = .ok (.aload_n 0, 1) := by decide +kernel
theorem dX6_mark_33 : decode cX6_mark 33 = .ok (.iconst 2, 1) := by decide +kernel
theorem dX6_mark_34 : decode cX6_mark 34 = .ok (.invokevirtual 73, 3) := by decide +kernel
theorem dX6_mark_37 : decode cX6_mark 37 = .ok (.ireturn, 1) := by decide +kernel
theorem dX6_mark_38 : decode cX6_mark 38 = .ok (.aload_n 0, 1) := by decide +kernel
theorem dX6_mark_39 : decode cX6_mark 39 = .ok (.iload_n 1, 1) := by decide +kernel
theorem dX6_mark_40 : decode cX6_mark 40 = .ok (.iload_n 2, 1) := by decide +kernel
theorem dX6_mark_41 : decode cX6_mark 41 = .ok (.invokevirtual 133, 3) := by decide +kernel
theorem dX6_mark_44 : decode cX6_mark 44 = .ok (.iload_n 3, 1) := by decide +kernel
theorem dX6_mark_45 : decode cX6_mark 45 = .ok (.invokestatic 205, 3) := by decide +kernel
theorem dX6_mark_48 : decode cX6_mark 48 = .ok (.ifCond .ne 9, 3) := by decide +kernel
theorem dX6_mark_51 : decode cX6_mark 51 = .ok (.aload_n 0, 1) := by decide +kernel
theorem dX6_mark_52 : decode cX6_mark 52 = .ok (.iconst 3, 1) := by decide +kernel
theorem dX6_mark_53 : decode cX6_mark 53 = .ok (.invokevirtual 73, 3) := by decide +kernel
theorem dX6_mark_56 : decode cX6_mark 56 = .ok (.ireturn, 1) := by decide +kernel
theorem dX6_mark_57 : decode cX6_mark 57 = .ok (.iload_n 3, 1) := by decide +kernel
theorem dX6_mark_58 : decode cX6_mark 58 = .ok (.tableswitch 98 1 4 #[30, 37, 70, 85], 30) := by decide +kernel
theorem dX6_mark_88 : decode cX6_mark 88 = .ok (.aload_n 0, 1) := by decide +kernel
theorem dX6_mark_89 : decode cX6_mark 89 = .ok (.iload_n 1, 1) := by decide +kernel
theorem dX6_mark_90 : decode cX6_mark 90 = .ok (.iload_n 2, 1) := by decide +kernel
theorem dX6_mark_91 : decode cX6_mark 91 = .ok (.invokevirtual 208, 3) := by decide +kernel
theorem dX6_mark_94 : decode cX6_mark 94 = .ok (.ireturn, 1) := by decide +kernel
theorem dX6_mark_95 : decode cX6_mark 95 = .ok (.iload_n 1, 1) := by decide +kernel
theorem dX6_mark_96 : decode cX6_mark 96 = .ok (.iconst 1, 1) := by decide +kernel
theorem dX6_mark_97 : decode cX6_mark 97 = .ok (.iadd, 1) := by decide +kernel
theorem dX6_mark_98 : decode cX6_mark 98 = .ok (.aload_n 0, 1) := by decide +kernel
theorem dX6_mark_99 : decode cX6_mark 99 = .ok (.getfield 7, 3) := by decide +kernel
theorem dX6_mark_102 : decode cX6_mark 102 = .ok (.iconst 0, 1) := by decide +kernel
theorem dX6_mark_103 : decode cX6_mark 103 = .ok (.iaload, 1) := by decide +kernel
theorem dX6_mark_104 : decode cX6_mark 104 = .ok (.if_icmp .ne 7, 3) := by decide +kernel
theorem dX6_mark_107 : decode cX6_mark 107 = .ok (.iconst 0, 1) := by decide +kernel
theorem dX6_mark_108 : decode cX6_mark 108 = .ok (.goto 19, 3) := by decide +kernel
theorem dX6_mark_111 : decode cX6_mark 111 = .ok (.iload_n 2, 1) := by decide +kernel
theorem dX6_mark_112 : decode cX6_mark 112 = .ok (.iconst 1, 1) := by decide +kernel
theorem dX6_mark_113 : decode cX6_mark 113 = .ok (.iadd, 1) := by decide +kernel
theorem dX6_mark_114 : decode cX6_mark 114 = .ok (.aload_n 0, 1) := by decide +kernel
theorem dX6_mark_115 : decode cX6_mark 115 = .ok (.getfield 7, 3) := by decide +kernel
theorem dX6_mark_118 : decode cX6_mark 118 = .ok (.iconst 1, 1) := by decide +kernel
theorem dX6_mark_119 : decode cX6_mark 119 = .ok (.iload_n 1, 1) := by decide +kernel
theorem dX6_mark_120 : decode cX6_mark 120 = .ok (.iadd, 1) := by decide +kernel
theorem dX6_mark_121 : decode cX6_mark 121 = .ok (.iconst 1, 1) := by decide +kernel
theorem dX6_mark_122 : decode cX6_mark 122 = .ok (.iadd, 1) := by decide +kernel
theorem dX6_mark_123 : decode cX6_mark 123 = .ok (.iaload, 1) := by decide +kernel
theorem dX6_mark_124 : decode cX6_mark 124 = .ok (.invokestatic 168, 3) := by decide +kernel
theorem dX6_mark_127 : decode cX6_mark 127 = .ok (.ireturn, 1) := by decide +kernel
theorem dX6_mark_128 : decode cX6_mark 128 = .ok (.aload_n 0, 1) := by decide +kernel
theorem dX6_mark_129 : decode cX6_mark 129 = .ok (.invokevirtual 184, 3) := by decide +kernel
theorem dX6_mark_132 : decode cX6_mark 132 = .ok (.aload_n 0, 1) := by decide +kernel
theorem dX6_mark_133 : decode cX6_mark 133 = .ok (.aload_n 0, 1) := by decide +kernel
theorem dX6_mark_134 : decode cX6_mark 134 = .ok (.iload_n 1, 1) := by decide +kernel
theorem dX6_mark_135 : decode cX6_mark 135 = .ok (.iload_n 2, 1) := by decide +kernel
theorem dX6_mark_136 : decode cX6_mark 136 = .ok (.invokevirtual 124, 3) := by decide +kernel
theorem dX6_mark_139 : decode cX6_mark 139 = .ok (.invokevirtual 190, 3) := by decide +kernel
theorem dX6_mark_142 : decode cX6_mark 142 = .ok (.ireturn, 1) := by decide +kernel
theorem dX6_mark_143 : decode cX6_mark 143 = .ok (.aload_n 0, 1) := by decide +kernel
theorem dX6_mark_144 : decode cX6_mark 144 = .ok (.getfield 7, 3) := by decide +kernel
theorem dX6_mark_147 : decode cX6_mark 147 = .ok (.iconst 1, 1) := by decide +kernel
theorem dX6_mark_148 : decode cX6_mark 148 = .ok (.iload_n 1, 1) := by decide +kernel
theorem dX6_mark_149 : decode cX6_mark 149 = .ok (.iadd, 1) := by decide +kernel
theorem dX6_mark_150 : decode cX6_mark 150 = .ok (.iaload, 1) := by decide +kernel
theorem dX6_mark_151 : decode cX6_mark 151 = .ok (.iconst 1, 1) := by decide +kernel
theorem dX6_mark_152 : decode cX6_mark 152 = .ok (.isub, 1) := by decide +kernel
theorem dX6_mark_153 : decode cX6_mark 153 = .ok (.iload_n 2, 1) := by decide +kernel
theorem dX6_mark_154 : decode cX6_mark 154 = .ok (.isub, 1) := by decide +kernel
theorem dX6_mark_155 : decode cX6_mark 155 = .ok (.ireturn, 1) := by decide +kernel
theorem dX6_mark_156 : decode cX6_mark 156 = .ok (.aload_n 0, 1) := by decide +kernel
theorem dX6_mark_157 : decode cX6_mark 157 = .ok (.iload_n 1, 1) := by decide +kernel
theorem dX6_mark_158 : decode cX6_mark 158 = .ok (.iload_n 2, 1) := by decide +kernel
theorem dX6_mark_159 : decode cX6_mark 159 = .ok (.invokevirtual 211, 3) := by decide +kernel
theorem dX6_mark_162 : decode cX6_mark 162 = .ok (.ireturn, 1) := by decide +kernel
theorem dX6_bear_0 : decode cX6_bear 0 = .ok (.aload_n 0, 1) := by decide +kernel
theorem dX6_bear_1 : decode cX6_bear 1 = .ok (.iload_n 1, 1) := by decide +kernel
theorem dX6_bear_2 : decode cX6_bear 2 = .ok (.iload_n 2, 1) := by decide +kernel
theorem dX6_bear_3 : decode cX6_bear 3 = .ok (.invokevirtual 193, 3) := by decide +kernel
theorem dX6_bear_6 : decode cX6_bear 6 = .ok (.ifCond .eq 15, 3) := by decide +kernel
theorem dX6_bear_9 : decode cX6_bear 9 = .ok (.iload_n 3, 1) := by decide +kernel
theorem dX6_bear_10 : decode cX6_bear 10 = .ok (.i2l, 1) := by decide +kernel
theorem dX6_bear_11 : decode cX6_bear 11 = .ok (.lconst 0, 1) := by decide +kernel
theorem dX6_bear_12 : decode cX6_bear 12 = .ok (.ldc2_w 214, 3) := by decide +kernel
theorem dX6_bear_15 : decode cX6_bear 15 = .ok (.invokestatic 63, 3) := by decide +kernel
theorem dX6_bear_18 : decode cX6_bear 18 = .ok (.ifCond .ne 5, 3) := by decide +kernel
theorem dX6_bear_21 : decode cX6_bear 21 = .ok (.iconst (-1), 1) := by decide +kernel
theorem dX6_bear_22 : decode cX6_bear 22 = .ok (.ireturn, 1) := by decide +kernel
theorem dX6_bear_23 : decode cX6_bear 23 = .ok (.aload_n 0, 1) := by decide +kernel
theorem dX6_bear_24 : decode cX6_bear 24 = .ok (.iload_n 1, 1) := by decide +kernel
theorem dX6_bear_25 : decode cX6_bear 25 = .ok (.iload_n 2, 1) := by decide +kernel
theorem dX6_bear_26 : decode cX6_bear 26 = .ok (.invokevirtual 151, 3) := by decide +kernel
theorem dX6_bear_29 : decode cX6_bear 29 = .ok (.ifCond .ne 9, 3) := by decide +kernel
theorem dX6_bear_32 : decode cX6_bear 32 = .ok (.aload_n 0, 1) := by decide +kernel
theorem dX6_bear_33 : decode cX6_bear 33 = .ok (.iconst 2, 1) := by decide +kernel
theorem dX6_bear_34 : decode cX6_bear 34 = .ok (.invokevirtual 73, 3) := by decide +kernel
theorem dX6_bear_37 : decode cX6_bear 37 = .ok (.ireturn, 1) := by decide +kernel
theorem dX6_bear_38 : decode cX6_bear 38 = .ok (.aload_n 0, 1) := by decide +kernel
theorem dX6_bear_39 : decode cX6_bear 39 = .ok (.iload_n 1, 1) := by decide +kernel
theorem dX6_bear_40 : decode cX6_bear 40 = .ok (.iload_n 2, 1) := by decide +kernel
theorem dX6_bear_41 : decode cX6_bear 41 = .ok (.invokevirtual 142, 3) := by decide +kernel
theorem dX6_bear_44 : decode cX6_bear 44 = .ok (.istore 4, 2) := by decide +kernel
theorem dX6_bear_46 : decode cX6_bear 46 = .ok (.aload_n 0, 1) := by decide +kernel
theorem dX6_bear_47 : decode cX6_bear 47 = .ok (.getfield 7, 3) := by decide +kernel
theorem dX6_bear_50 : decode cX6_bear 50 = .ok (.bipush 36, 2) := by decide +kernel
theorem dX6_bear_52 : decode cX6_bear 52 = .ok (.bipush 6, 2) := by decide +kernel
theorem dX6_bear_54 : decode cX6_bear 54 = .ok (.iload_n 1, 1) := by decide +kernel
theorem dX6_bear_55 : decode cX6_bear 55 = .ok (.imul, 1) := by decide +kernel
theorem dX6_bear_56 : decode cX6_bear 56 = .ok (.iadd, 1) := by decide +kernel
theorem dX6_bear_57 : decode cX6_bear 57 = .ok (.iload_n 2, 1) := by decide +kernel
theorem dX6_bear_58 : decode cX6_bear 58 = .ok (.iadd, 1) := by decide +kernel
theorem dX6_bear_59 : decode cX6_bear 59 = .ok (.iload_n 3, 1) := by decide +kernel
theorem dX6_bear_60 : decode cX6_bear 60 = .ok (.iastore, 1) := by decide +kernel
theorem dX6_bear_61 : decode cX6_bear 61 = .ok (.iload 4, 2) := by decide +kernel
theorem dX6_bear_63 : decode cX6_bear 63 = .ok (.ireturn, 1) := by decide +kernel
theorem dX6_minds_0 : decode cX6_minds 0 = .ok (.aload_n 0, 1) := by decide +kernel
theorem dX6_minds_1 : decode cX6_minds 1 = .ok (.iconst 0, 1) := by decide +kernel
theorem dX6_minds_2 : decode cX6_minds 2 = .ok (.bipush 66, 2) := by decide +kernel
theorem dX6_minds_4 : decode cX6_minds 4 = .ok (.aload_n 0, 1) := by decide +kernel
theorem dX6_minds_5 : decode cX6_minds 5 = .ok (.getfield 115, 3) := by decide +kernel
theorem dX6_minds_8 : decode cX6_minds 8 = .ok (.iconst 1, 1) := by decide +kernel
theorem dX6_minds_9 : decode cX6_minds 9 = .ok (.iadd, 1) := by decide +kernel
theorem dX6_minds_10 : decode cX6_minds 10 = .ok (.imul, 1) := by decide +kernel
theorem dX6_minds_11 : decode cX6_minds 11 = .ok (.bipush 66, 2) := by decide +kernel
theorem dX6_minds_13 : decode cX6_minds 13 = .ok (.invokevirtual 111, 3) := by decide +kernel
theorem dX6_minds_16 : decode cX6_minds 16 = .ok (.aload_n 0, 1) := by decide +kernel
theorem dX6_minds_17 : decode cX6_minds 17 = .ok (.dup, 1) := by decide +kernel
theorem dX6_minds_18 : decode cX6_minds 18 = .ok (.getfield 115, 3) := by decide +kernel
theorem dX6_minds_21 : decode cX6_minds 21 = .ok (.iconst 1, 1) := by decide +kernel
theorem dX6_minds_22 : decode cX6_minds 22 = .ok (.iadd, 1) := by decide +kernel
theorem dX6_minds_23 : decode cX6_minds 23 = .ok (.putfield 115, 3) := by decide +kernel
theorem dX6_minds_26 : decode cX6_minds 26 = .ok (.return_, 1) := by decide +kernel
theorem dX6_hasRoom_0 : decode cX6_hasRoom 0 = .ok (.aload_n 0, 1) := by decide +kernel
theorem dX6_hasRoom_1 : decode cX6_hasRoom 1 = .ok (.getfield 7, 3) := by decide +kernel
theorem dX6_hasRoom_4 : decode cX6_hasRoom 4 = .ok (.iconst 1, 1) := by decide +kernel
theorem dX6_hasRoom_5 : decode cX6_hasRoom 5 = .ok (.iload_n 1, 1) := by decide +kernel
theorem dX6_hasRoom_6 : decode cX6_hasRoom 6 = .ok (.iadd, 1) := by decide +kernel
theorem dX6_hasRoom_7 : decode cX6_hasRoom 7 = .ok (.iaload, 1) := by decide +kernel
theorem dX6_hasRoom_8 : decode cX6_hasRoom 8 = .ok (.bipush 6, 2) := by decide +kernel
theorem dX6_hasRoom_10 : decode cX6_hasRoom 10 = .ok (.if_icmp .ge 16, 3) := by decide +kernel
theorem dX6_hasRoom_13 : decode cX6_hasRoom 13 = .ok (.aload_n 0, 1) := by decide +kernel
theorem dX6_hasRoom_14 : decode cX6_hasRoom 14 = .ok (.invokevirtual 177, 3) := by decide +kernel
theorem dX6_hasRoom_17 : decode cX6_hasRoom 17 = .ok (.bipush 12, 2) := by decide +kernel
theorem dX6_hasRoom_19 : decode cX6_hasRoom 19 = .ok (.if_icmp .ge 7, 3) := by decide +kernel
theorem dX6_hasRoom_22 : decode cX6_hasRoom 22 = .ok (.iconst 1, 1) := by decide +kernel
theorem dX6_hasRoom_23 : decode cX6_hasRoom 23 = .ok (.goto 4, 3) := by decide +kernel
theorem dX6_hasRoom_26 : decode cX6_hasRoom 26 = .ok (.iconst 0, 1) := by decide +kernel
theorem dX6_hasRoom_27 : decode cX6_hasRoom 27 = .ok (.ireturn, 1) := by decide +kernel
theorem dX6_build_0 : decode cX6_build 0 = .ok (.aload_n 0, 1) := by decide +kernel
theorem dX6_build_1 : decode cX6_build 1 = .ok (.iload_n 1, 1) := by decide +kernel
theorem dX6_build_2 : decode cX6_build 2 = .ok (.invokevirtual 118, 3) := by decide +kernel
theorem dX6_build_5 : decode cX6_build 5 = .ok (.ifCond .eq 27, 3) := by decide +kernel
theorem dX6_build_8 : decode cX6_build 8 = .ok (.iload_n 2, 1) := by decide +kernel
theorem dX6_build_9 : decode cX6_build 9 = .ok (.i2l, 1) := by decide +kernel
theorem dX6_build_10 : decode cX6_build 10 = .ok (.lconst 0, 1) := by decide +kernel
theorem dX6_build_11 : decode cX6_build 11 = .ok (.ldc2_w 61, 3) := by decide +kernel
theorem dX6_build_14 : decode cX6_build 14 = .ok (.invokestatic 63, 3) := by decide +kernel
theorem dX6_build_17 : decode cX6_build 17 = .ok (.ifCond .eq 15, 3) := by decide +kernel
theorem dX6_build_20 : decode cX6_build 20 = .ok (.iload_n 3, 1) := by decide +kernel
theorem dX6_build_21 : decode cX6_build 21 = .ok (.i2l, 1) := by decide +kernel
theorem dX6_build_22 : decode cX6_build 22 = .ok (.lconst 0, 1) := by decide +kernel
theorem dX6_build_23 : decode cX6_build 23 = .ok (.ldc2_w 214, 3) := by decide +kernel
theorem dX6_build_26 : decode cX6_build 26 = .ok (.invokestatic 63, 3) := by decide +kernel
theorem dX6_build_29 : decode cX6_build 29 = .ok (.ifCond .ne 5, 3) := by decide +kernel
theorem dX6_build_32 : decode cX6_build 32 = .ok (.iconst (-1), 1) := by decide +kernel
theorem dX6_build_33 : decode cX6_build 33 = .ok (.ireturn, 1) := by decide +kernel
theorem dX6_build_34 : decode cX6_build 34 = .ok (.aload_n 0, 1) := by decide +kernel
theorem dX6_build_35 : decode cX6_build 35 = .ok (.iload_n 1, 1) := by decide +kernel
theorem dX6_build_36 : decode cX6_build 36 = .ok (.invokevirtual 216, 3) := by decide +kernel
theorem dX6_build_39 : decode cX6_build 39 = .ok (.ifCond .eq 12, 3) := by decide +kernel
theorem dX6_build_42 : decode cX6_build 42 = .ok (.aload_n 0, 1) := by decide +kernel
theorem dX6_build_43 : decode cX6_build 43 = .ok (.getfield 115, 3) := by decide +kernel
theorem dX6_build_46 : decode cX6_build 46 = .ok (.bipush 40, 2) := by decide +kernel
theorem dX6_build_48 : decode cX6_build 48 = .ok (.if_icmp .ne 6, 3) := by decide +kernel
theorem dX6_build_51 : decode cX6_build 51 = .ok (.bipush (-2), 2) := by decide +kernel
theorem dX6_build_53 : decode cX6_build 53 = .ok (.ireturn, 1) := by decide +kernel
theorem dX6_build_54 : decode cX6_build 54 = .ok (.aload_n 0, 1) := by decide +kernel
theorem dX6_build_55 : decode cX6_build 55 = .ok (.invokevirtual 219, 3) := by decide +kernel
theorem dX6_build_58 : decode cX6_build 58 = .ok (.aload_n 0, 1) := by decide +kernel
theorem dX6_build_59 : decode cX6_build 59 = .ok (.iconst 0, 1) := by decide +kernel
theorem dX6_build_60 : decode cX6_build 60 = .ok (.iload_n 1, 1) := by decide +kernel
theorem dX6_build_61 : decode cX6_build 61 = .ok (.iload_n 2, 1) := by decide +kernel
theorem dX6_build_62 : decode cX6_build 62 = .ok (.iload_n 3, 1) := by decide +kernel
theorem dX6_build_63 : decode cX6_build 63 = .ok (.invokevirtual 104, 3) := by decide +kernel
theorem dX6_build_66 : decode cX6_build 66 = .ok (.aload_n 0, 1) := by decide +kernel
theorem dX6_build_67 : decode cX6_build 67 = .ok (.getfield 7, 3) := by decide +kernel
theorem dX6_build_70 : decode cX6_build 70 = .ok (.iconst 1, 1) := by decide +kernel
theorem dX6_build_71 : decode cX6_build 71 = .ok (.iload_n 1, 1) := by decide +kernel
theorem dX6_build_72 : decode cX6_build 72 = .ok (.iadd, 1) := by decide +kernel
theorem dX6_build_73 : decode cX6_build 73 = .ok (.iaload, 1) := by decide +kernel
theorem dX6_build_74 : decode cX6_build 74 = .ok (.iconst 1, 1) := by decide +kernel
theorem dX6_build_75 : decode cX6_build 75 = .ok (.isub, 1) := by decide +kernel
theorem dX6_build_76 : decode cX6_build 76 = .ok (.ireturn, 1) := by decide +kernel
theorem dX6_leave_0 : decode cX6_leave 0 = .ok (.aload_n 0, 1) := by decide +kernel
theorem dX6_leave_1 : decode cX6_leave 1 = .ok (.iload_n 1, 1) := by decide +kernel
theorem dX6_leave_2 : decode cX6_leave 2 = .ok (.iload_n 2, 1) := by decide +kernel
theorem dX6_leave_3 : decode cX6_leave 3 = .ok (.invokevirtual 193, 3) := by decide +kernel
theorem dX6_leave_6 : decode cX6_leave 6 = .ok (.ifCond .ne 5, 3) := by decide +kernel
theorem dX6_leave_9 : decode cX6_leave 9 = .ok (.iconst (-1), 1) := by decide +kernel
theorem dX6_leave_10 : decode cX6_leave 10 = .ok (.ireturn, 1) := by decide +kernel
theorem dX6_leave_11 : decode cX6_leave 11 = .ok (.aload_n 0, 1) := by decide +kernel
theorem dX6_leave_12 : decode cX6_leave 12 = .ok (.iload_n 1, 1) := by decide +kernel
theorem dX6_leave_13 : decode cX6_leave 13 = .ok (.iload_n 2, 1) := by decide +kernel
theorem dX6_leave_14 : decode cX6_leave 14 = .ok (.invokevirtual 151, 3) := by decide +kernel
theorem dX6_leave_17 : decode cX6_leave 17 = .ok (.ifCond .ne 9, 3) := by decide +kernel
theorem dX6_leave_20 : decode cX6_leave 20 = .ok (.aload_n 0, 1) := by decide +kernel
theorem dX6_leave_21 : decode cX6_leave 21 = .ok (.iconst 2, 1) := by decide +kernel
theorem dX6_leave_22 : decode cX6_leave 22 = .ok (.invokevirtual 73, 3) := by decide +kernel
theorem dX6_leave_25 : decode cX6_leave 25 = .ok (.ireturn, 1) := by decide +kernel
theorem dX6_leave_26 : decode cX6_leave 26 = .ok (.aload_n 0, 1) := by decide +kernel
theorem dX6_leave_27 : decode cX6_leave 27 = .ok (.getfield 115, 3) := by decide +kernel
theorem dX6_leave_30 : decode cX6_leave 30 = .ok (.bipush 40, 2) := by decide +kernel
theorem dX6_leave_32 : decode cX6_leave 32 = .ok (.if_icmp .ne 6, 3) := by decide +kernel
theorem dX6_leave_35 : decode cX6_leave 35 = .ok (.bipush (-2), 2) := by decide +kernel
theorem dX6_leave_37 : decode cX6_leave 37 = .ok (.ireturn, 1) := by decide +kernel
theorem dX6_leave_38 : decode cX6_leave 38 = .ok (.aload_n 0, 1) := by decide +kernel
theorem dX6_leave_39 : decode cX6_leave 39 = .ok (.invokevirtual 219, 3) := by decide +kernel
theorem dX6_leave_42 : decode cX6_leave 42 = .ok (.aload_n 0, 1) := by decide +kernel
theorem dX6_leave_43 : decode cX6_leave 43 = .ok (.iload_n 1, 1) := by decide +kernel
theorem dX6_leave_44 : decode cX6_leave 44 = .ok (.iload_n 2, 1) := by decide +kernel
theorem dX6_leave_45 : decode cX6_leave 45 = .ok (.invokevirtual 222, 3) := by decide +kernel
theorem dX6_leave_48 : decode cX6_leave 48 = .ok (.aload_n 0, 1) := by decide +kernel
theorem dX6_leave_49 : decode cX6_leave 49 = .ok (.getfield 7, 3) := by decide +kernel
theorem dX6_leave_52 : decode cX6_leave 52 = .ok (.iconst 1, 1) := by decide +kernel
theorem dX6_leave_53 : decode cX6_leave 53 = .ok (.iload_n 1, 1) := by decide +kernel
theorem dX6_leave_54 : decode cX6_leave 54 = .ok (.iadd, 1) := by decide +kernel
theorem dX6_leave_55 : decode cX6_leave 55 = .ok (.iaload, 1) := by decide +kernel
theorem dX6_leave_56 : decode cX6_leave 56 = .ok (.iload_n 2, 1) := by decide +kernel
theorem dX6_leave_57 : decode cX6_leave 57 = .ok (.isub, 1) := by decide +kernel
theorem dX6_leave_58 : decode cX6_leave 58 = .ok (.ireturn, 1) := by decide +kernel
theorem dX6_undo_0 : decode cX6_undo 0 = .ok (.iload_n 1, 1) := by decide +kernel
end
section
theorem dX6_undo_1 : decode cX6_undo 1 = .ok (.i2l, 1) := by decide +kernel
theorem dX6_undo_2 : decode cX6_undo 2 = .ok (.lconst 0, 1) := by decide +kernel
theorem dX6_undo_3 : decode cX6_undo 3 = .ok (.aload_n 0, 1) := by decide +kernel
theorem dX6_undo_4 : decode cX6_undo 4 = .ok (.getfield 115, 3) := by decide +kernel
theorem dX6_undo_7 : decode cX6_undo 7 = .ok (.i2l, 1) := by decide +kernel
theorem dX6_undo_8 : decode cX6_undo 8 = .ok (.invokestatic 63, 3) := by decide +kernel
theorem dX6_undo_11 : decode cX6_undo 11 = .ok (.ifCond .ne 5, 3) := by decide +kernel
theorem dX6_undo_14 : decode cX6_undo 14 = .ok (.iconst (-1), 1) := by decide +kernel
theorem dX6_undo_15 : decode cX6_undo 15 = .ok (.ireturn, 1) := by decide +kernel
theorem dX6_undo_16 : decode cX6_undo 16 = .ok (.aload_n 0, 1) := by decide +kernel
theorem dX6_undo_17 : decode cX6_undo 17 = .ok (.getfield 115, 3) := by decide +kernel
theorem dX6_undo_20 : decode cX6_undo 20 = .ok (.iload_n 1, 1) := by decide +kernel
theorem dX6_undo_21 : decode cX6_undo 21 = .ok (.isub, 1) := by decide +kernel
theorem dX6_undo_22 : decode cX6_undo 22 = .ok (.istore_n 2, 1) := by decide +kernel
theorem dX6_undo_23 : decode cX6_undo 23 = .ok (.iload_n 2, 1) := by decide +kernel
theorem dX6_undo_24 : decode cX6_undo 24 = .ok (.ifCond .le 21, 3) := by decide +kernel
theorem dX6_undo_27 : decode cX6_undo 27 = .ok (.aload_n 0, 1) := by decide +kernel
theorem dX6_undo_28 : decode cX6_undo 28 = .ok (.bipush 66, 2) := by decide +kernel
theorem dX6_undo_30 : decode cX6_undo 30 = .ok (.iload_n 1, 1) := by decide +kernel
theorem dX6_undo_31 : decode cX6_undo 31 = .ok (.iconst 1, 1) := by decide +kernel
theorem dX6_undo_32 : decode cX6_undo 32 = .ok (.iadd, 1) := by decide +kernel
theorem dX6_undo_33 : decode cX6_undo 33 = .ok (.imul, 1) := by decide +kernel
theorem dX6_undo_34 : decode cX6_undo 34 = .ok (.iconst 0, 1) := by decide +kernel
theorem dX6_undo_35 : decode cX6_undo 35 = .ok (.bipush 66, 2) := by decide +kernel
theorem dX6_undo_37 : decode cX6_undo 37 = .ok (.invokevirtual 111, 3) := by decide +kernel
theorem dX6_undo_40 : decode cX6_undo 40 = .ok (.aload_n 0, 1) := by decide +kernel
theorem dX6_undo_41 : decode cX6_undo 41 = .ok (.iload_n 1, 1) := by decide +kernel
theorem dX6_undo_42 : decode cX6_undo 42 = .ok (.putfield 115, 3) := by decide +kernel
theorem dX6_undo_45 : decode cX6_undo 45 = .ok (.iload_n 2, 1) := by decide +kernel
theorem dX6_undo_46 : decode cX6_undo 46 = .ok (.ireturn, 1) := by decide +kernel
theorem dX6_keep_0 : decode cX6_keep 0 = .ok (.iload_n 1, 1) := by decide +kernel
theorem dX6_keep_1 : decode cX6_keep 1 = .ok (.i2l, 1) := by decide +kernel
theorem dX6_keep_2 : decode cX6_keep 2 = .ok (.lconst 0, 1) := by decide +kernel
theorem dX6_keep_3 : decode cX6_keep 3 = .ok (.ldc2_w 226, 3) := by decide +kernel
theorem dX6_keep_6 : decode cX6_keep 6 = .ok (.invokestatic 63, 3) := by decide +kernel
theorem dX6_keep_9 : decode cX6_keep 9 = .ok (.ifCond .ne 5, 3) := by decide +kernel
theorem dX6_keep_12 : decode cX6_keep 12 = .ok (.iconst (-1), 1) := by decide +kernel
theorem dX6_keep_13 : decode cX6_keep 13 = .ok (.ireturn, 1) := by decide +kernel
theorem dX6_keep_14 : decode cX6_keep 14 = .ok (.aload_n 0, 1) := by decide +kernel
theorem dX6_keep_15 : decode cX6_keep 15 = .ok (.invokevirtual 228, 3) := by decide +kernel
theorem dX6_keep_18 : decode cX6_keep 18 = .ok (.ifCond .eq 6, 3) := by decide +kernel
theorem dX6_keep_21 : decode cX6_keep 21 = .ok (.bipush (-4), 2) := by decide +kernel
theorem dX6_keep_23 : decode cX6_keep 23 = .ok (.ireturn, 1) := by decide +kernel
theorem dX6_keep_24 : decode cX6_keep 24 = .ok (.aload_n 0, 1) := by decide +kernel
theorem dX6_keep_25 : decode cX6_keep 25 = .ok (.iconst 0, 1) := by decide +kernel
theorem dX6_keep_26 : decode cX6_keep 26 = .ok (.sipush 2706, 3) := by decide +kernel
theorem dX6_keep_29 : decode cX6_keep 29 = .ok (.iload_n 1, 1) := by decide +kernel
theorem dX6_keep_30 : decode cX6_keep 30 = .ok (.iconst 1, 1) := by decide +kernel
theorem dX6_keep_31 : decode cX6_keep 31 = .ok (.iadd, 1) := by decide +kernel
theorem dX6_keep_32 : decode cX6_keep 32 = .ok (.imul, 1) := by decide +kernel
theorem dX6_keep_33 : decode cX6_keep 33 = .ok (.sipush 2706, 3) := by decide +kernel
theorem dX6_keep_36 : decode cX6_keep 36 = .ok (.invokevirtual 111, 3) := by decide +kernel
theorem dX6_keep_39 : decode cX6_keep 39 = .ok (.aload_n 0, 1) := by decide +kernel
theorem dX6_keep_40 : decode cX6_keep 40 = .ok (.getfield 13, 3) := by decide +kernel
theorem dX6_keep_43 : decode cX6_keep 43 = .ok (.iload_n 1, 1) := by decide +kernel
theorem dX6_keep_44 : decode cX6_keep 44 = .ok (.aload_n 0, 1) := by decide +kernel
theorem dX6_keep_45 : decode cX6_keep 45 = .ok (.getfield 115, 3) := by decide +kernel
theorem dX6_keep_48 : decode cX6_keep 48 = .ok (.iastore, 1) := by decide +kernel
theorem dX6_keep_49 : decode cX6_keep 49 = .ok (.aload_n 0, 1) := by decide +kernel
theorem dX6_keep_50 : decode cX6_keep 50 = .ok (.getfield 115, 3) := by decide +kernel
theorem dX6_keep_53 : decode cX6_keep 53 = .ok (.ireturn, 1) := by decide +kernel
theorem dX6_on_0 : decode cX6_on 0 = .ok (.iload_n 1, 1) := by decide +kernel
theorem dX6_on_1 : decode cX6_on 1 = .ok (.i2l, 1) := by decide +kernel
theorem dX6_on_2 : decode cX6_on 2 = .ok (.lconst 0, 1) := by decide +kernel
theorem dX6_on_3 : decode cX6_on 3 = .ok (.ldc2_w 226, 3) := by decide +kernel
theorem dX6_on_6 : decode cX6_on 6 = .ok (.invokestatic 63, 3) := by decide +kernel
theorem dX6_on_9 : decode cX6_on 9 = .ok (.ifCond .ne 5, 3) := by decide +kernel
theorem dX6_on_12 : decode cX6_on 12 = .ok (.iconst (-1), 1) := by decide +kernel
theorem dX6_on_13 : decode cX6_on 13 = .ok (.ireturn, 1) := by decide +kernel
theorem dX6_on_14 : decode cX6_on 14 = .ok (.aload_n 0, 1) := by decide +kernel
theorem dX6_on_15 : decode cX6_on 15 = .ok (.getfield 13, 3) := by decide +kernel
theorem dX6_on_18 : decode cX6_on 18 = .ok (.iload_n 1, 1) := by decide +kernel
theorem dX6_on_19 : decode cX6_on 19 = .ok (.iaload, 1) := by decide +kernel
theorem dX6_on_20 : decode cX6_on 20 = .ok (.ifCond .ge 9, 3) := by decide +kernel
theorem dX6_on_23 : decode cX6_on 23 = .ok (.aload_n 0, 1) := by decide +kernel
theorem dX6_on_24 : decode cX6_on 24 = .ok (.iconst 1, 1) := by decide +kernel
theorem dX6_on_25 : decode cX6_on 25 = .ok (.invokevirtual 73, 3) := by decide +kernel
theorem dX6_on_28 : decode cX6_on 28 = .ok (.ireturn, 1) := by decide +kernel
theorem dX6_on_29 : decode cX6_on 29 = .ok (.aload_n 0, 1) := by decide +kernel
theorem dX6_on_30 : decode cX6_on 30 = .ok (.sipush 2706, 3) := by decide +kernel
theorem dX6_on_33 : decode cX6_on 33 = .ok (.iload_n 1, 1) := by decide +kernel
theorem dX6_on_34 : decode cX6_on 34 = .ok (.iconst 1, 1) := by decide +kernel
theorem dX6_on_35 : decode cX6_on 35 = .ok (.iadd, 1) := by decide +kernel
theorem dX6_on_36 : decode cX6_on 36 = .ok (.imul, 1) := by decide +kernel
theorem dX6_on_37 : decode cX6_on 37 = .ok (.iconst 0, 1) := by decide +kernel
theorem dX6_on_38 : decode cX6_on 38 = .ok (.sipush 2706, 3) := by decide +kernel
theorem dX6_on_41 : decode cX6_on 41 = .ok (.invokevirtual 111, 3) := by decide +kernel
theorem dX6_on_44 : decode cX6_on 44 = .ok (.aload_n 0, 1) := by decide +kernel
theorem dX6_on_45 : decode cX6_on 45 = .ok (.aload_n 0, 1) := by decide +kernel
theorem dX6_on_46 : decode cX6_on 46 = .ok (.getfield 13, 3) := by decide +kernel
theorem dX6_on_49 : decode cX6_on 49 = .ok (.iload_n 1, 1) := by decide +kernel
theorem dX6_on_50 : decode cX6_on 50 = .ok (.iaload, 1) := by decide +kernel
theorem dX6_on_51 : decode cX6_on 51 = .ok (.putfield 115, 3) := by decide +kernel
theorem dX6_on_54 : decode cX6_on 54 = .ok (.aload_n 0, 1) := by decide +kernel
theorem dX6_on_55 : decode cX6_on 55 = .ok (.getfield 115, 3) := by decide +kernel
theorem dX6_on_58 : decode cX6_on 58 = .ok (.ireturn, 1) := by decide +kernel
theorem dX6_shades_0 : decode cX6_shades 0 = .ok (.aload_n 0, 1) := by decide +kernel
theorem dX6_shades_1 : decode cX6_shades 1 = .ok (.iload_n 1, 1) := by decide +kernel
theorem dX6_shades_2 : decode cX6_shades 2 = .ok (.iload_n 2, 1) := by decide +kernel
theorem dX6_shades_3 : decode cX6_shades 3 = .ok (.invokevirtual 193, 3) := by decide +kernel
theorem dX6_shades_6 : decode cX6_shades 6 = .ok (.ifCond .eq 15, 3) := by decide +kernel
theorem dX6_shades_9 : decode cX6_shades 9 = .ok (.iload_n 3, 1) := by decide +kernel
theorem dX6_shades_10 : decode cX6_shades 10 = .ok (.i2l, 1) := by decide +kernel
theorem dX6_shades_11 : decode cX6_shades 11 = .ok (.lconst 0, 1) := by decide +kernel
theorem dX6_shades_12 : decode cX6_shades 12 = .ok (.ldc2_w 232, 3) := by decide +kernel
theorem dX6_shades_15 : decode cX6_shades 15 = .ok (.invokestatic 63, 3) := by decide +kernel
theorem dX6_shades_18 : decode cX6_shades 18 = .ok (.ifCond .ne 5, 3) := by decide +kernel
theorem dX6_shades_21 : decode cX6_shades 21 = .ok (.iconst (-1), 1) := by decide +kernel
theorem dX6_shades_22 : decode cX6_shades 22 = .ok (.ireturn, 1) := by decide +kernel
theorem dX6_shades_23 : decode cX6_shades 23 = .ok (.aload_n 0, 1) := by decide +kernel
theorem dX6_shades_24 : decode cX6_shades 24 = .ok (.iload_n 1, 1) := by decide +kernel
theorem dX6_shades_25 : decode cX6_shades 25 = .ok (.iload_n 2, 1) := by decide +kernel
theorem dX6_shades_26 : decode cX6_shades 26 = .ok (.invokevirtual 151, 3) := by decide +kernel
theorem dX6_shades_29 : decode cX6_shades 29 = .ok (.ifCond .eq 13, 3) := by decide +kernel
theorem dX6_shades_32 : decode cX6_shades 32 = .ok (.aload_n 0, 1) := by decide +kernel
theorem dX6_shades_33 : decode cX6_shades 33 = .ok (.iload_n 1, 1) := by decide +kernel
theorem dX6_shades_34 : decode cX6_shades 34 = .ok (.iload_n 2, 1) := by decide +kernel
theorem dX6_shades_35 : decode cX6_shades 35 = .ok (.iload_n 3, 1) := by decide +kernel
theorem dX6_shades_36 : decode cX6_shades 36 = .ok (.invokevirtual 155, 3) := by decide +kernel
theorem dX6_shades_39 : decode cX6_shades 39 = .ok (.goto 8, 3) := by decide +kernel
theorem dX6_shades_42 : decode cX6_shades 42 = .ok (.aload_n 0, 1) := by decide +kernel
theorem dX6_shades_43 : decode cX6_shades 43 = .ok (.iconst 2, 1) := by decide +kernel
theorem dX6_shades_44 : decode cX6_shades 44 = .ok (.invokevirtual 73, 3) := by decide +kernel
theorem dX6_shades_47 : decode cX6_shades 47 = .ok (.ireturn, 1) := by decide +kernel
theorem dX6_sees_0 : decode cX6_sees 0 = .ok (.aload_n 0, 1) := by decide +kernel
theorem dX6_sees_1 : decode cX6_sees 1 = .ok (.iload_n 1, 1) := by decide +kernel
theorem dX6_sees_2 : decode cX6_sees 2 = .ok (.iload_n 2, 1) := by decide +kernel
theorem dX6_sees_3 : decode cX6_sees 3 = .ok (.invokevirtual 193, 3) := by decide +kernel
theorem dX6_sees_6 : decode cX6_sees 6 = .ok (.ifCond .ne 5, 3) := by decide +kernel
theorem dX6_sees_9 : decode cX6_sees 9 = .ok (.iconst (-1), 1) := by decide +kernel
theorem dX6_sees_10 : decode cX6_sees 10 = .ok (.ireturn, 1) := by decide +kernel
theorem dX6_sees_11 : decode cX6_sees 11 = .ok (.aload_n 0, 1) := by decide +kernel
theorem dX6_sees_12 : decode cX6_sees 12 = .ok (.iload_n 1, 1) := by decide +kernel
theorem dX6_sees_13 : decode cX6_sees 13 = .ok (.iload_n 2, 1) := by decide +kernel
theorem dX6_sees_14 : decode cX6_sees 14 = .ok (.invokevirtual 151, 3) := by decide +kernel
theorem dX6_sees_17 : decode cX6_sees 17 = .ok (.ifCond .eq 22, 3) := by decide +kernel
theorem dX6_sees_20 : decode cX6_sees 20 = .ok (.aload_n 0, 1) := by decide +kernel
theorem dX6_sees_21 : decode cX6_sees 21 = .ok (.aload_n 0, 1) := by decide +kernel
theorem dX6_sees_22 : decode cX6_sees 22 = .ok (.iload_n 1, 1) := by decide +kernel
theorem dX6_sees_23 : decode cX6_sees 23 = .ok (.iload_n 2, 1) := by decide +kernel
theorem dX6_sees_24 : decode cX6_sees 24 = .ok (.invokevirtual 165, 3) := by decide +kernel
theorem dX6_sees_27 : decode cX6_sees 27 = .ok (.aload_n 0, 1) := by decide +kernel
theorem dX6_sees_28 : decode cX6_sees 28 = .ok (.iload_n 1, 1) := by decide +kernel
theorem dX6_sees_29 : decode cX6_sees 29 = .ok (.iload_n 2, 1) := by decide +kernel
theorem dX6_sees_30 : decode cX6_sees 30 = .ok (.invokevirtual 159, 3) := by decide +kernel
theorem dX6_sees_33 : decode cX6_sees 33 = .ok (.invokevirtual 81, 3) := by decide +kernel
theorem dX6_sees_36 : decode cX6_sees 36 = .ok (.goto 8, 3) := by decide +kernel
theorem dX6_sees_39 : decode cX6_sees 39 = .ok (.aload_n 0, 1) := by decide +kernel
theorem dX6_sees_40 : decode cX6_sees 40 = .ok (.iconst 2, 1) := by decide +kernel
theorem dX6_sees_41 : decode cX6_sees 41 = .ok (.invokevirtual 73, 3) := by decide +kernel
theorem dX6_sees_44 : decode cX6_sees 44 = .ok (.ireturn, 1) := by decide +kernel
theorem dX6_isHouse_0 : decode cX6_isHouse 0 = .ok (.iload_n 1, 1) := by decide +kernel
theorem dX6_isHouse_1 : decode cX6_isHouse 1 = .ok (.i2l, 1) := by decide +kernel
theorem dX6_isHouse_2 : decode cX6_isHouse 2 = .ok (.lconst 0, 1) := by decide +kernel
theorem dX6_isHouse_3 : decode cX6_isHouse 3 = .ok (.aload_n 0, 1) := by decide +kernel
theorem dX6_isHouse_4 : decode cX6_isHouse 4 = .ok (.invokevirtual 177, 3) := by decide +kernel
theorem dX6_isHouse_7 : decode cX6_isHouse 7 = .ok (.iconst 1, 1) := by decide +kernel
theorem dX6_isHouse_8 : decode cX6_isHouse 8 = .ok (.isub, 1) := by decide +kernel
theorem dX6_isHouse_9 : decode cX6_isHouse 9 = .ok (.i2l, 1) := by decide +kernel
theorem dX6_isHouse_10 : decode cX6_isHouse 10 = .ok (.invokestatic 63, 3) := by decide +kernel
theorem dX6_isHouse_13 : decode cX6_isHouse 13 = .ok (.ireturn, 1) := by decide +kernel
theorem dX6_owes_0 : decode cX6_owes 0 = .ok (.aload_n 0, 1) := by decide +kernel
theorem dX6_owes_1 : decode cX6_owes 1 = .ok (.iload_n 1, 1) := by decide +kernel
theorem dX6_owes_2 : decode cX6_owes 2 = .ok (.invokevirtual 234, 3) := by decide +kernel
theorem dX6_owes_5 : decode cX6_owes 5 = .ok (.ifCond .eq 16, 3) := by decide +kernel
theorem dX6_owes_8 : decode cX6_owes 8 = .ok (.aload_n 0, 1) := by decide +kernel
theorem dX6_owes_9 : decode cX6_owes 9 = .ok (.iload_n 2, 1) := by decide +kernel
theorem dX6_owes_10 : decode cX6_owes 10 = .ok (.invokevirtual 234, 3) := by decide +kernel
theorem dX6_owes_13 : decode cX6_owes 13 = .ok (.ifCond .eq 8, 3) := by decide +kernel
theorem dX6_owes_16 : decode cX6_owes 16 = .ok (.iload_n 1, 1) := by decide +kernel
theorem dX6_owes_17 : decode cX6_owes 17 = .ok (.iload_n 2, 1) := by decide +kernel
theorem dX6_owes_18 : decode cX6_owes 18 = .ok (.if_icmp .ne 5, 3) := by decide +kernel
theorem dX6_owes_21 : decode cX6_owes 21 = .ok (.iconst (-1), 1) := by decide +kernel
theorem dX6_owes_22 : decode cX6_owes 22 = .ok (.ireturn, 1) := by decide +kernel
theorem dX6_owes_23 : decode cX6_owes 23 = .ok (.aload_n 0, 1) := by decide +kernel
theorem dX6_owes_24 : decode cX6_owes 24 = .ok (.invokevirtual 184, 3) := by decide +kernel
theorem dX6_owes_27 : decode cX6_owes 27 = .ok (.aload_n 0, 1) := by decide +kernel
theorem dX6_owes_28 : decode cX6_owes 28 = .ok (.getfield 38, 3) := by decide +kernel
theorem dX6_owes_31 : decode cX6_owes 31 = .ok (.bipush 12, 2) := by decide +kernel
theorem dX6_owes_33 : decode cX6_owes 33 = .ok (.iload_n 1, 1) := by decide +kernel
theorem dX6_owes_34 : decode cX6_owes 34 = .ok (.imul, 1) := by decide +kernel
theorem dX6_owes_35 : decode cX6_owes 35 = .ok (.iload_n 2, 1) := by decide +kernel
theorem dX6_owes_36 : decode cX6_owes 36 = .ok (.iadd, 1) := by decide +kernel
theorem dX6_owes_37 : decode cX6_owes 37 = .ok (.iaload, 1) := by decide +kernel
theorem dX6_owes_38 : decode cX6_owes 38 = .ok (.ireturn, 1) := by decide +kernel
theorem dX6_debt_0 : decode cX6_debt 0 = .ok (.aload_n 0, 1) := by decide +kernel
theorem dX6_debt_1 : decode cX6_debt 1 = .ok (.iload_n 1, 1) := by decide +kernel
theorem dX6_debt_2 : decode cX6_debt 2 = .ok (.invokevirtual 234, 3) := by decide +kernel
theorem dX6_debt_5 : decode cX6_debt 5 = .ok (.ifCond .ne 5, 3) := by decide +kernel
theorem dX6_debt_8 : decode cX6_debt 8 = .ok (.iconst (-1), 1) := by decide +kernel
theorem dX6_debt_9 : decode cX6_debt 9 = .ok (.ireturn, 1) := by decide +kernel
theorem dX6_debt_10 : decode cX6_debt 10 = .ok (.aload_n 0, 1) := by decide +kernel
theorem dX6_debt_11 : decode cX6_debt 11 = .ok (.invokevirtual 184, 3) := by decide +kernel
theorem dX6_debt_14 : decode cX6_debt 14 = .ok (.aload_n 0, 1) := by decide +kernel
theorem dX6_debt_15 : decode cX6_debt 15 = .ok (.aload_n 0, 1) := by decide +kernel
theorem dX6_debt_16 : decode cX6_debt 16 = .ok (.iload_n 1, 1) := by decide +kernel
theorem dX6_debt_17 : decode cX6_debt 17 = .ok (.invokevirtual 187, 3) := by decide +kernel
theorem dX6_debt_20 : decode cX6_debt 20 = .ok (.aload_n 0, 1) := by decide +kernel
theorem dX6_debt_21 : decode cX6_debt 21 = .ok (.iload_n 1, 1) := by decide +kernel
theorem dX6_debt_22 : decode cX6_debt 22 = .ok (.invokevirtual 190, 3) := by decide +kernel
theorem dX6_debt_25 : decode cX6_debt 25 = .ok (.isub, 1) := by decide +kernel
theorem dX6_debt_26 : decode cX6_debt 26 = .ok (.iconst 1, 1) := by decide +kernel
theorem dX6_debt_27 : decode cX6_debt 27 = .ok (.invokevirtual 81, 3) := by decide +kernel
theorem dX6_debt_30 : decode cX6_debt 30 = .ok (.ireturn, 1) := by decide +kernel
theorem dX6_light_0 : decode cX6_light 0 = .ok (.aload_n 0, 1) := by decide +kernel
theorem dX6_light_1 : decode cX6_light 1 = .ok (.aload_n 0, 1) := by decide +kernel
theorem dX6_light_2 : decode cX6_light 2 = .ok (.invokevirtual 237, 3) := by decide +kernel
theorem dX6_light_5 : decode cX6_light 5 = .ok (.aload_n 0, 1) := by decide +kernel
theorem dX6_light_6 : decode cX6_light 6 = .ok (.invokevirtual 240, 3) := by decide +kernel
theorem dX6_light_9 : decode cX6_light 9 = .ok (.invokevirtual 81, 3) := by decide +kernel
theorem dX6_light_12 : decode cX6_light 12 = .ok (.ireturn, 1) := by decide +kernel
theorem dX6_ruined_0 : decode cX6_ruined 0 = .ok (.bipush (-9), 2) := by decide +kernel
theorem dX6_ruined_2 : decode cX6_ruined 2 = .ok (.istore_n 1, 1) := by decide +kernel
theorem dX6_ruined_3 : decode cX6_ruined 3 = .ok (.iconst (-1), 1) := by decide +kernel
theorem dX6_ruined_4 : decode cX6_ruined 4 = .ok (.istore_n 2, 1) := by decide +kernel
theorem dX6_ruined_5 : decode cX6_ruined 5 = .ok (.aload_n 0, 1) := by decide +kernel
theorem dX6_ruined_6 : decode cX6_ruined 6 = .ok (.invokevirtual 184, 3) := by decide +kernel
theorem dX6_ruined_9 : decode cX6_ruined 9 = .ok (.iconst 0, 1) := by decide +kernel
theorem dX6_ruined_10 : decode cX6_ruined 10 = .ok (.istore_n 3, 1) := by decide +kernel
theorem dX6_ruined_11 : decode cX6_ruined 11 = .ok (.iload_n 3, 1) := by decide +kernel
theorem dX6_ruined_12 : decode cX6_ruined 12 = .ok (.aload_n 0, 1) := by decide +kernel
theorem dX6_ruined_13 : decode cX6_ruined 13 = .ok (.invokevirtual 177, 3) := by decide +kernel
theorem dX6_ruined_16 : decode cX6_ruined 16 = .ok (.if_icmp .ge 41, 3) := by decide +kernel
theorem dX6_ruined_19 : decode cX6_ruined 19 = .ok (.aload_n 0, 1) := by decide +kernel
theorem dX6_ruined_20 : decode cX6_ruined 20 = .ok (.iload_n 3, 1) := by decide +kernel
theorem dX6_ruined_21 : decode cX6_ruined 21 = .ok (.invokevirtual 187, 3) := by decide +kernel
theorem dX6_ruined_24 : decode cX6_ruined 24 = .ok (.istore 4, 2) := by decide +kernel
theorem dX6_ruined_26 : decode cX6_ruined 26 = .ok (.iload 4, 2) := by decide +kernel
theorem dX6_ruined_28 : decode cX6_ruined 28 = .ok (.iload_n 2, 1) := by decide +kernel
theorem dX6_ruined_29 : decode cX6_ruined 29 = .ok (.if_icmp .le 7, 3) := by decide +kernel
theorem dX6_ruined_32 : decode cX6_ruined 32 = .ok (.iload_n 3, 1) := by decide +kernel
theorem dX6_ruined_33 : decode cX6_ruined 33 = .ok (.goto 4, 3) := by decide +kernel
theorem dX6_ruined_36 : decode cX6_ruined 36 = .ok (.iload_n 1, 1) := by decide +kernel
theorem dX6_ruined_37 : decode cX6_ruined 37 = .ok (.istore_n 1, 1) := by decide +kernel
theorem dX6_ruined_38 : decode cX6_ruined 38 = .ok (.iload 4, 2) := by decide +kernel
theorem dX6_ruined_40 : decode cX6_ruined 40 = .ok (.iload_n 2, 1) := by decide +kernel
theorem dX6_ruined_41 : decode cX6_ruined 41 = .ok (.if_icmp .le 8, 3) := by decide +kernel
theorem dX6_ruined_44 : decode cX6_ruined 44 = .ok (.iload 4, 2) := by decide +kernel
theorem dX6_ruined_46 : decode cX6_ruined 46 = .ok (.goto 4, 3) := by decide +kernel
theorem dX6_ruined_49 : decode cX6_ruined 49 = .ok (.iload_n 2, 1) := by decide +kernel
theorem dX6_ruined_50 : decode cX6_ruined 50 = .ok (.istore_n 2, 1) := by decide +kernel
theorem dX6_ruined_51 : decode cX6_ruined 51 = .ok (.iinc 3 1, 3) := by decide +kernel
theorem dX6_ruined_54 : decode cX6_ruined 54 = .ok (.goto (-43), 3) := by decide +kernel
theorem dX6_ruined_57 : decode cX6_ruined 57 = .ok (.iload_n 1, 1) := by decide +kernel
theorem dX6_ruined_58 : decode cX6_ruined 58 = .ok (.bipush (-9), 2) := by decide +kernel
theorem dX6_ruined_60 : decode cX6_ruined 60 = .ok (.if_icmp .ne 8, 3) := by decide +kernel
theorem dX6_ruined_63 : decode cX6_ruined 63 = .ok (.bipush (-9), 2) := by decide +kernel
theorem dX6_ruined_65 : decode cX6_ruined 65 = .ok (.goto 9, 3) := by decide +kernel
theorem dX6_ruined_68 : decode cX6_ruined 68 = .ok (.aload_n 0, 1) := by decide +kernel
theorem dX6_ruined_69 : decode cX6_ruined 69 = .ok (.iload_n 2, 1) := by decide +kernel
theorem dX6_ruined_70 : decode cX6_ruined 70 = .ok (.iload_n 1, 1) := by decide +kernel
theorem dX6_ruined_71 : decode cX6_ruined 71 = .ok (.invokevirtual 81, 3) := by decide +kernel
theorem dX6_ruined_74 : decode cX6_ruined 74 = .ok (.ireturn, 1) := by decide +kernel
theorem dX6_firstOf_0 : decode cX6_firstOf 0 = .ok (.iconst 0, 1) := by decide +kernel
theorem dX6_firstOf_1 : decode cX6_firstOf 1 = .ok (.istore_n 2, 1) := by decide +kernel
theorem dX6_firstOf_2 : decode cX6_firstOf 2 = .ok (.iload_n 1, 1) := by decide +kernel
theorem dX6_firstOf_3 : decode cX6_firstOf 3 = .ok (.iload_n 2, 1) := by decide +kernel
theorem dX6_firstOf_4 : decode cX6_firstOf 4 = .ok (.invokestatic 243, 3) := by decide +kernel
theorem dX6_firstOf_7 : decode cX6_firstOf 7 = .ok (.ifCond .ne 9, 3) := by decide +kernel
theorem dX6_firstOf_10 : decode cX6_firstOf 10 = .ok (.iinc 2 1, 3) := by decide +kernel
theorem dX6_firstOf_13 : decode cX6_firstOf 13 = .ok (.goto (-11), 3) := by decide +kernel
theorem dX6_firstOf_16 : decode cX6_firstOf 16 = .ok (.iload_n 2, 1) := by decide +kernel
theorem dX6_firstOf_17 : decode cX6_firstOf 17 = .ok (.ireturn, 1) := by decide +kernel
theorem dX6_sways_0 : decode cX6_sways 0 = .ok (.aload_n 0, 1) := by decide +kernel
theorem dX6_sways_1 : decode cX6_sways 1 = .ok (.invokevirtual 246, 3) := by decide +kernel
theorem dX6_sways_4 : decode cX6_sways 4 = .ok (.istore_n 1, 1) := by decide +kernel
theorem dX6_sways_5 : decode cX6_sways 5 = .ok (.iload_n 1, 1) := by decide +kernel
theorem dX6_sways_6 : decode cX6_sways 6 = .ok (.ifCond .ne 13, 3) := by decide +kernel
theorem dX6_sways_9 : decode cX6_sways 9 = .ok (.aload_n 0, 1) := by decide +kernel
theorem dX6_sways_10 : decode cX6_sways 10 = .ok (.iconst 0, 1) := by decide +kernel
theorem dX6_sways_11 : decode cX6_sways 11 = .ok (.bipush (-9), 2) := by decide +kernel
theorem dX6_sways_13 : decode cX6_sways 13 = .ok (.invokevirtual 81, 3) := by decide +kernel
theorem dX6_sways_16 : decode cX6_sways 16 = .ok (.goto 16, 3) := by decide +kernel
theorem dX6_sways_19 : decode cX6_sways 19 = .ok (.aload_n 0, 1) := by decide +kernel
theorem dX6_sways_20 : decode cX6_sways 20 = .ok (.iload_n 1, 1) := by decide +kernel
theorem dX6_sways_21 : decode cX6_sways 21 = .ok (.invokestatic 162, 3) := by decide +kernel
theorem dX6_sways_24 : decode cX6_sways 24 = .ok (.aload_n 0, 1) := by decide +kernel
theorem dX6_sways_25 : decode cX6_sways 25 = .ok (.iload_n 1, 1) := by decide +kernel
theorem dX6_sways_26 : decode cX6_sways 26 = .ok (.invokevirtual 249, 3) := by decide +kernel
theorem dX6_sways_29 : decode cX6_sways 29 = .ok (.invokevirtual 81, 3) := by decide +kernel
theorem dX6_sways_32 : decode cX6_sways 32 = .ok (.ireturn, 1) := by decide +kernel
theorem dX6_lays_0 : decode cX6_lays 0 = .ok (.aload_n 0, 1) := by decide +kernel
theorem dX6_lays_1 : decode cX6_lays 1 = .ok (.iconst 0, 1) := by decide +kernel
theorem dX6_lays_2 : decode cX6_lays 2 = .ok (.sipush 10890, 3) := by decide +kernel
theorem dX6_lays_5 : decode cX6_lays 5 = .ok (.bipush 66, 2) := by decide +kernel
theorem dX6_lays_7 : decode cX6_lays 7 = .ok (.invokevirtual 111, 3) := by decide +kernel
theorem dX6_lays_10 : decode cX6_lays 10 = .ok (.return_, 1) := by decide +kernel
theorem dX6_putsBack_0 : decode cX6_putsBack 0 = .ok (.aload_n 0, 1) := by decide +kernel
theorem dX6_putsBack_1 : decode cX6_putsBack 1 = .ok (.sipush 10890, 3) := by decide +kernel
theorem dX6_putsBack_4 : decode cX6_putsBack 4 = .ok (.iconst 0, 1) := by decide +kernel
theorem dX6_putsBack_5 : decode cX6_putsBack 5 = .ok (.bipush 66, 2) := by decide +kernel
theorem dX6_putsBack_7 : decode cX6_putsBack 7 = .ok (.invokevirtual 111, 3) := by decide +kernel
theorem dX6_putsBack_10 : decode cX6_putsBack 10 = .ok (.return_, 1) := by decide +kernel
theorem dX6_isKind_0 : decode cX6_isKind 0 = .ok (.iload_n 0, 1) := by decide +kernel
theorem dX6_isKind_1 : decode cX6_isKind 1 = .ok (.i2l, 1) := by decide +kernel
theorem dX6_isKind_2 : decode cX6_isKind 2 = .ok (.lconst 0, 1) := by decide +kernel
theorem dX6_isKind_3 : decode cX6_isKind 3 = .ok (.ldc2_w 61, 3) := by decide +kernel
theorem dX6_isKind_6 : decode cX6_isKind 6 = .ok (.invokestatic 63, 3) := by decide +kernel
theorem dX6_isKind_9 : decode cX6_isKind 9 = .ok (.ireturn, 1) := by decide +kernel
theorem dX6_best_0 : decode cX6_best 0 = .ok (.iload_n 1, 1) := by decide +kernel
theorem dX6_best_1 : decode cX6_best 1 = .ok (.invokestatic 252, 3) := by decide +kernel
theorem dX6_best_4 : decode cX6_best 4 = .ok (.ifCond .eq 15, 3) := by decide +kernel
theorem dX6_best_7 : decode cX6_best 7 = .ok (.iload_n 2, 1) := by decide +kernel
theorem dX6_best_8 : decode cX6_best 8 = .ok (.i2l, 1) := by decide +kernel
theorem dX6_best_9 : decode cX6_best 9 = .ok (.lconst 0, 1) := by decide +kernel
theorem dX6_best_10 : decode cX6_best 10 = .ok (.ldc2_w 214, 3) := by decide +kernel
theorem dX6_best_13 : decode cX6_best 13 = .ok (.invokestatic 63, 3) := by decide +kernel
theorem dX6_best_16 : decode cX6_best 16 = .ok (.ifCond .ne 5, 3) := by decide +kernel
theorem dX6_best_19 : decode cX6_best 19 = .ok (.iconst (-1), 1) := by decide +kernel
theorem dX6_best_20 : decode cX6_best 20 = .ok (.ireturn, 1) := by decide +kernel
theorem dX6_best_21 : decode cX6_best 21 = .ok (.aload_n 0, 1) := by decide +kernel
theorem dX6_best_22 : decode cX6_best 22 = .ok (.invokevirtual 228, 3) := by decide +kernel
theorem dX6_best_25 : decode cX6_best 25 = .ok (.ifCond .eq 6, 3) := by decide +kernel
theorem dX6_best_28 : decode cX6_best 28 = .ok (.bipush (-4), 2) := by decide +kernel
theorem dX6_best_30 : decode cX6_best 30 = .ok (.ireturn, 1) := by decide +kernel
theorem dX6_best_31 : decode cX6_best 31 = .ok (.bipush (-9), 2) := by decide +kernel
theorem dX6_best_33 : decode cX6_best 33 = .ok (.istore_n 3, 1) := by decide +kernel
theorem dX6_best_34 : decode cX6_best 34 = .ok (.ldc 255, 2) := by decide +kernel
theorem dX6_best_36 : decode cX6_best 36 = .ok (.istore 4, 2) := by decide +kernel
theorem dX6_best_38 : decode cX6_best 38 = .ok (.aload_n 0, 1) := by decide +kernel
theorem dX6_best_39 : decode cX6_best 39 = .ok (.invokevirtual 256, 3) := by decide +kernel
theorem dX6_best_42 : decode cX6_best 42 = .ok (.iconst 0, 1) := by decide +kernel
theorem dX6_best_43 : decode cX6_best 43 = .ok (.istore 5, 2) := by decide +kernel
theorem dX6_best_45 : decode cX6_best 45 = .ok (.iload 5, 2) := by decide +kernel
theorem dX6_best_47 : decode cX6_best 47 = .ok (.aload_n 0, 1) := by decide +kernel
theorem dX6_best_48 : decode cX6_best 48 = .ok (.getfield 7, 3) := by decide +kernel
theorem dX6_best_51 : decode cX6_best 51 = .ok (.iconst 0, 1) := by decide +kernel
theorem dX6_best_52 : decode cX6_best 52 = .ok (.iaload, 1) := by decide +kernel
theorem dX6_best_53 : decode cX6_best 53 = .ok (.if_icmp .ge 79, 3) := by decide +kernel
theorem dX6_best_56 : decode cX6_best 56 = .ok (.aload_n 0, 1) := by decide +kernel
theorem dX6_best_57 : decode cX6_best 57 = .ok (.iload 5, 2) := by decide +kernel
theorem dX6_best_59 : decode cX6_best 59 = .ok (.invokevirtual 216, 3) := by decide +kernel
theorem dX6_best_62 : decode cX6_best 62 = .ok (.ifCond .eq 64, 3) := by decide +kernel
theorem dX6_best_65 : decode cX6_best 65 = .ok (.aload_n 0, 1) := by decide +kernel
theorem dX6_best_66 : decode cX6_best 66 = .ok (.iconst 0, 1) := by decide +kernel
theorem dX6_best_67 : decode cX6_best 67 = .ok (.iload 5, 2) := by decide +kernel
theorem dX6_best_69 : decode cX6_best 69 = .ok (.iload_n 1, 1) := by decide +kernel
theorem dX6_best_70 : decode cX6_best 70 = .ok (.iload_n 2, 1) := by decide +kernel
theorem dX6_best_71 : decode cX6_best 71 = .ok (.invokevirtual 104, 3) := by decide +kernel
theorem dX6_best_74 : decode cX6_best 74 = .ok (.aload_n 0, 1) := by decide +kernel
theorem dX6_best_75 : decode cX6_best 75 = .ok (.invokevirtual 246, 3) := by decide +kernel
theorem dX6_best_78 : decode cX6_best 78 = .ok (.ifCond .ne 10, 3) := by decide +kernel
theorem dX6_best_81 : decode cX6_best 81 = .ok (.aload_n 0, 1) := by decide +kernel
theorem dX6_best_82 : decode cX6_best 82 = .ok (.invokevirtual 237, 3) := by decide +kernel
theorem dX6_best_85 : decode cX6_best 85 = .ok (.goto 5, 3) := by decide +kernel
theorem dX6_best_88 : decode cX6_best 88 = .ok (.ldc 255, 2) := by decide +kernel
theorem dX6_best_90 : decode cX6_best 90 = .ok (.istore 6, 2) := by decide +kernel
theorem dX6_best_92 : decode cX6_best 92 = .ok (.iload 6, 2) := by decide +kernel
theorem dX6_best_94 : decode cX6_best 94 = .ok (.iload 4, 2) := by decide +kernel
theorem dX6_best_96 : decode cX6_best 96 = .ok (.if_icmp .ge 8, 3) := by decide +kernel
theorem dX6_best_99 : decode cX6_best 99 = .ok (.iload 5, 2) := by decide +kernel
theorem dX6_best_101 : decode cX6_best 101 = .ok (.goto 4, 3) := by decide +kernel
theorem dX6_best_104 : decode cX6_best 104 = .ok (.iload_n 3, 1) := by decide +kernel
theorem dX6_best_105 : decode cX6_best 105 = .ok (.istore_n 3, 1) := by decide +kernel
theorem dX6_best_106 : decode cX6_best 106 = .ok (.iload 6, 2) := by decide +kernel
theorem dX6_best_108 : decode cX6_best 108 = .ok (.iload 4, 2) := by decide +kernel
theorem dX6_best_110 : decode cX6_best 110 = .ok (.if_icmp .ge 8, 3) := by decide +kernel
theorem dX6_best_113 : decode cX6_best 113 = .ok (.iload 6, 2) := by decide +kernel
theorem dX6_best_115 : decode cX6_best 115 = .ok (.goto 5, 3) := by decide +kernel
theorem dX6_best_118 : decode cX6_best 118 = .ok (.iload 4, 2) := by decide +kernel
theorem dX6_best_120 : decode cX6_best 120 = .ok (.istore 4, 2) := by decide +kernel
theorem dX6_best_122 : decode cX6_best 122 = .ok (.aload_n 0, 1) := by decide +kernel
theorem dX6_best_123 : decode cX6_best 123 = .ok (.invokevirtual 259, 3) := by decide +kernel
theorem dX6_best_126 : decode cX6_best 126 = .ok (.iinc 5 1, 3) := by decide +kernel
theorem dX6_best_129 : decode cX6_best 129 = .ok (.goto (-84), 3) := by decide +kernel
theorem dX6_best_132 : decode cX6_best 132 = .ok (.iload_n 3, 1) := by decide +kernel
theorem dX6_best_133 : decode cX6_best 133 = .ok (.bipush (-9), 2) := by decide +kernel
theorem dX6_best_135 : decode cX6_best 135 = .ok (.if_icmp .ne 8, 3) := by decide +kernel
theorem dX6_best_138 : decode cX6_best 138 = .ok (.bipush (-9), 2) := by decide +kernel
theorem dX6_best_140 : decode cX6_best 140 = .ok (.goto 10, 3) := by decide +kernel
theorem dX6_best_143 : decode cX6_best 143 = .ok (.aload_n 0, 1) := by decide +kernel
theorem dX6_best_144 : decode cX6_best 144 = .ok (.iload 4, 2) := by decide +kernel
theorem dX6_best_146 : decode cX6_best 146 = .ok (.iload_n 3, 1) := by decide +kernel
theorem dX6_best_147 : decode cX6_best 147 = .ok (.invokevirtual 81, 3) := by decide +kernel
theorem dX6_best_150 : decode cX6_best 150 = .ok (.ireturn, 1) := by decide +kernel
theorem dX6_both_0 : decode cX6_both 0 = .ok (.iload_n 1, 1) := by decide +kernel
theorem dX6_both_1 : decode cX6_both 1 = .ok (.invokestatic 252, 3) := by decide +kernel
theorem dX6_both_4 : decode cX6_both 4 = .ok (.ifCond .eq 22, 3) := by decide +kernel
theorem dX6_both_7 : decode cX6_both 7 = .ok (.iload_n 2, 1) := by decide +kernel
theorem dX6_both_8 : decode cX6_both 8 = .ok (.invokestatic 252, 3) := by decide +kernel
theorem dX6_both_11 : decode cX6_both 11 = .ok (.ifCond .eq 15, 3) := by decide +kernel
theorem dX6_both_14 : decode cX6_both 14 = .ok (.iload_n 3, 1) := by decide +kernel
theorem dX6_both_15 : decode cX6_both 15 = .ok (.i2l, 1) := by decide +kernel
theorem dX6_both_16 : decode cX6_both 16 = .ok (.lconst 0, 1) := by decide +kernel
theorem dX6_both_17 : decode cX6_both 17 = .ok (.ldc2_w 214, 3) := by decide +kernel
theorem dX6_both_20 : decode cX6_both 20 = .ok (.invokestatic 63, 3) := by decide +kernel
theorem dX6_both_23 : decode cX6_both 23 = .ok (.ifCond .ne 5, 3) := by decide +kernel
theorem dX6_both_26 : decode cX6_both 26 = .ok (.iconst (-1), 1) := by decide +kernel
theorem dX6_both_27 : decode cX6_both 27 = .ok (.ireturn, 1) := by decide +kernel
theorem dX6_both_28 : decode cX6_both 28 = .ok (.aload_n 0, 1) := by decide +kernel
theorem dX6_both_29 : decode cX6_both 29 = .ok (.invokevirtual 228, 3) := by decide +kernel
theorem dX6_both_32 : decode cX6_both 32 = .ok (.ifCond .eq 6, 3) := by decide +kernel
theorem dX6_both_35 : decode cX6_both 35 = .ok (.bipush (-4), 2) := by decide +kernel
theorem dX6_both_37 : decode cX6_both 37 = .ok (.ireturn, 1) := by decide +kernel
theorem dX6_both_38 : decode cX6_both 38 = .ok (.bipush (-9), 2) := by decide +kernel
theorem dX6_both_40 : decode cX6_both 40 = .ok (.istore 4, 2) := by decide +kernel
theorem dX6_both_42 : decode cX6_both 42 = .ok (.ldc 255, 2) := by decide +kernel
theorem dX6_both_44 : decode cX6_both 44 = .ok (.istore 5, 2) := by decide +kernel
theorem dX6_both_46 : decode cX6_both 46 = .ok (.aload_n 0, 1) := by decide +kernel
theorem dX6_both_47 : decode cX6_both 47 = .ok (.invokevirtual 256, 3) := by decide +kernel
theorem dX6_both_50 : decode cX6_both 50 = .ok (.iconst 0, 1) := by decide +kernel
theorem dX6_both_51 : decode cX6_both 51 = .ok (.istore 6, 2) := by decide +kernel
theorem dX6_both_53 : decode cX6_both 53 = .ok (.iload 6, 2) := by decide +kernel
theorem dX6_both_55 : decode cX6_both 55 = .ok (.aload_n 0, 1) := by decide +kernel
theorem dX6_both_56 : decode cX6_both 56 = .ok (.getfield 7, 3) := by decide +kernel
theorem dX6_both_59 : decode cX6_both 59 = .ok (.iconst 0, 1) := by decide +kernel
theorem dX6_both_60 : decode cX6_both 60 = .ok (.iaload, 1) := by decide +kernel
theorem dX6_both_61 : decode cX6_both 61 = .ok (.aload_n 0, 1) := by decide +kernel
theorem dX6_both_62 : decode cX6_both 62 = .ok (.getfield 7, 3) := by decide +kernel
theorem dX6_both_65 : decode cX6_both 65 = .ok (.iconst 0, 1) := by decide +kernel
theorem dX6_both_66 : decode cX6_both 66 = .ok (.iaload, 1) := by decide +kernel
theorem dX6_both_67 : decode cX6_both 67 = .ok (.imul, 1) := by decide +kernel
theorem dX6_both_68 : decode cX6_both 68 = .ok (.if_icmp .ge 127, 3) := by decide +kernel
theorem dX6_both_71 : decode cX6_both 71 = .ok (.iload 6, 2) := by decide +kernel
theorem dX6_both_73 : decode cX6_both 73 = .ok (.aload_n 0, 1) := by decide +kernel
theorem dX6_both_74 : decode cX6_both 74 = .ok (.getfield 7, 3) := by decide +kernel
theorem dX6_both_77 : decode cX6_both 77 = .ok (.iconst 0, 1) := by decide +kernel
theorem dX6_both_78 : decode cX6_both 78 = .ok (.iaload, 1) := by decide +kernel
theorem dX6_both_79 : decode cX6_both 79 = .ok (.idiv, 1) := by decide +kernel
theorem dX6_both_80 : decode cX6_both 80 = .ok (.istore 7, 2) := by decide +kernel
theorem dX6_both_82 : decode cX6_both 82 = .ok (.iload 6, 2) := by decide +kernel
theorem dX6_both_84 : decode cX6_both 84 = .ok (.aload_n 0, 1) := by decide +kernel
theorem dX6_both_85 : decode cX6_both 85 = .ok (.getfield 7, 3) := by decide +kernel
theorem dX6_both_88 : decode cX6_both 88 = .ok (.iconst 0, 1) := by decide +kernel
theorem dX6_both_89 : decode cX6_both 89 = .ok (.iaload, 1) := by decide +kernel
theorem dX6_both_90 : decode cX6_both 90 = .ok (.irem, 1) := by decide +kernel
theorem dX6_both_91 : decode cX6_both 91 = .ok (.istore 8, 2) := by decide +kernel
theorem dX6_both_93 : decode cX6_both 93 = .ok (.aload_n 0, 1) := by decide +kernel
theorem dX6_both_94 : decode cX6_both 94 = .ok (.iload 7, 2) := by decide +kernel
theorem dX6_both_96 : decode cX6_both 96 = .ok (.invokevirtual 216, 3) := by decide +kernel
theorem dX6_both_99 : decode cX6_both 99 = .ok (.ifCond .eq 90, 3) := by decide +kernel
theorem dX6_both_102 : decode cX6_both 102 = .ok (.aload_n 0, 1) := by decide +kernel
theorem dX6_both_103 : decode cX6_both 103 = .ok (.iconst 0, 1) := by decide +kernel
theorem dX6_both_104 : decode cX6_both 104 = .ok (.iload 7, 2) := by decide +kernel
theorem dX6_both_106 : decode cX6_both 106 = .ok (.iload_n 1, 1) := by decide +kernel
theorem dX6_both_107 : decode cX6_both 107 = .ok (.iload_n 3, 1) := by decide +kernel
theorem dX6_both_108 : decode cX6_both 108 = .ok (.invokevirtual 104, 3) := by decide +kernel
theorem dX6_both_111 : decode cX6_both 111 = .ok (.aload_n 0, 1) := by decide +kernel
theorem dX6_both_112 : decode cX6_both 112 = .ok (.iload 8, 2) := by decide +kernel
theorem dX6_both_114 : decode cX6_both 114 = .ok (.invokevirtual 216, 3) := by decide +kernel
theorem dX6_both_117 : decode cX6_both 117 = .ok (.ifCond .eq 68, 3) := by decide +kernel
theorem dX6_both_120 : decode cX6_both 120 = .ok (.aload_n 0, 1) := by decide +kernel
theorem dX6_both_121 : decode cX6_both 121 = .ok (.iconst 0, 1) := by decide +kernel
theorem dX6_both_122 : decode cX6_both 122 = .ok (.iload 8, 2) := by decide +kernel
theorem dX6_both_124 : decode cX6_both 124 = .ok (.iload_n 2, 1) := by decide +kernel
theorem dX6_both_125 : decode cX6_both 125 = .ok (.iload_n 3, 1) := by decide +kernel
theorem dX6_both_126 : decode cX6_both 126 = .ok (.invokevirtual 104, 3) := by decide +kernel
theorem dX6_both_129 : decode cX6_both 129 = .ok (.aload_n 0, 1) := by decide +kernel
theorem dX6_both_130 : decode cX6_both 130 = .ok (.invokevirtual 246, 3) := by decide +kernel
theorem dX6_both_133 : decode cX6_both 133 = .ok (.ifCond .ne 10, 3) := by decide +kernel
theorem dX6_both_136 : decode cX6_both 136 = .ok (.aload_n 0, 1) := by decide +kernel
theorem dX6_both_137 : decode cX6_both 137 = .ok (.invokevirtual 237, 3) := by decide +kernel
theorem dX6_both_140 : decode cX6_both 140 = .ok (.goto 5, 3) := by decide +kernel
theorem dX6_both_143 : decode cX6_both 143 = .ok (.ldc 255, 2) := by decide +kernel
theorem dX6_both_145 : decode cX6_both 145 = .ok (.istore 9, 2) := by decide +kernel
theorem dX6_both_147 : decode cX6_both 147 = .ok (.iload 9, 2) := by decide +kernel
theorem dX6_both_149 : decode cX6_both 149 = .ok (.iload 5, 2) := by decide +kernel
theorem dX6_both_151 : decode cX6_both 151 = .ok (.if_icmp .ge 14, 3) := by decide +kernel
theorem dX6_both_154 : decode cX6_both 154 = .ok (.bipush 10, 2) := by decide +kernel
theorem dX6_both_156 : decode cX6_both 156 = .ok (.iload 7, 2) := by decide +kernel
theorem dX6_both_158 : decode cX6_both 158 = .ok (.imul, 1) := by decide +kernel
theorem dX6_both_159 : decode cX6_both 159 = .ok (.iload 8, 2) := by decide +kernel
theorem dX6_both_161 : decode cX6_both 161 = .ok (.iadd, 1) := by decide +kernel
theorem dX6_both_162 : decode cX6_both 162 = .ok (.goto 5, 3) := by decide +kernel
theorem dX6_both_165 : decode cX6_both 165 = .ok (.iload 4, 2) := by decide +kernel
theorem dX6_both_167 : decode cX6_both 167 = .ok (.istore 4, 2) := by decide +kernel
theorem dX6_both_169 : decode cX6_both 169 = .ok (.iload 9, 2) := by decide +kernel
theorem dX6_both_171 : decode cX6_both 171 = .ok (.iload 5, 2) := by decide +kernel
theorem dX6_both_173 : decode cX6_both 173 = .ok (.if_icmp .ge 8, 3) := by decide +kernel
theorem dX6_both_176 : decode cX6_both 176 = .ok (.iload 9, 2) := by decide +kernel
theorem dX6_both_178 : decode cX6_both 178 = .ok (.goto 5, 3) := by decide +kernel
theorem dX6_both_181 : decode cX6_both 181 = .ok (.iload 5, 2) := by decide +kernel
theorem dX6_both_183 : decode cX6_both 183 = .ok (.istore 5, 2) := by decide +kernel
theorem dX6_both_185 : decode cX6_both 185 = .ok (.aload_n 0, 1) := by decide +kernel
theorem dX6_both_186 : decode cX6_both 186 = .ok (.invokevirtual 259, 3) := by decide +kernel
theorem dX6_both_189 : decode cX6_both 189 = .ok (.iinc 6 1, 3) := by decide +kernel
theorem dX6_both_192 : decode cX6_both 192 = .ok (.goto (-139), 3) := by decide +kernel
theorem dX6_both_195 : decode cX6_both 195 = .ok (.iload 4, 2) := by decide +kernel
theorem dX6_both_197 : decode cX6_both 197 = .ok (.bipush (-9), 2) := by decide +kernel
theorem dX6_both_199 : decode cX6_both 199 = .ok (.if_icmp .ne 8, 3) := by decide +kernel
theorem dX6_both_202 : decode cX6_both 202 = .ok (.bipush (-9), 2) := by decide +kernel
theorem dX6_both_204 : decode cX6_both 204 = .ok (.goto 11, 3) := by decide +kernel
theorem dX6_both_207 : decode cX6_both 207 = .ok (.aload_n 0, 1) := by decide +kernel
theorem dX6_both_208 : decode cX6_both 208 = .ok (.iload 5, 2) := by decide +kernel
theorem dX6_both_210 : decode cX6_both 210 = .ok (.iload 4, 2) := by decide +kernel
theorem dX6_both_212 : decode cX6_both 212 = .ok (.invokevirtual 81, 3) := by decide +kernel
theorem dX6_both_215 : decode cX6_both 215 = .ok (.ireturn, 1) := by decide +kernel
theorem dX6_leaveAll_0 : decode cX6_leaveAll 0 = .ok (.bipush 11, 2) := by decide +kernel
theorem dX6_leaveAll_2 : decode cX6_leaveAll 2 = .ok (.istore_n 2, 1) := by decide +kernel
theorem dX6_leaveAll_3 : decode cX6_leaveAll 3 = .ok (.iload_n 2, 1) := by decide +kernel
theorem dX6_leaveAll_4 : decode cX6_leaveAll 4 = .ok (.ifCond .lt 31, 3) := by decide +kernel
theorem dX6_leaveAll_7 : decode cX6_leaveAll 7 = .ok (.iload_n 1, 1) := by decide +kernel
theorem dX6_leaveAll_8 : decode cX6_leaveAll 8 = .ok (.iload_n 2, 1) := by decide +kernel
theorem dX6_leaveAll_9 : decode cX6_leaveAll 9 = .ok (.invokestatic 243, 3) := by decide +kernel
theorem dX6_leaveAll_12 : decode cX6_leaveAll 12 = .ok (.ifCond .eq 17, 3) := by decide +kernel
theorem dX6_leaveAll_15 : decode cX6_leaveAll 15 = .ok (.aload_n 0, 1) := by decide +kernel
theorem dX6_leaveAll_16 : decode cX6_leaveAll 16 = .ok (.aload_n 0, 1) := by decide +kernel
theorem dX6_leaveAll_17 : decode cX6_leaveAll 17 = .ok (.iload_n 2, 1) := by decide +kernel
theorem dX6_leaveAll_18 : decode cX6_leaveAll 18 = .ok (.invokevirtual 121, 3) := by decide +kernel
theorem dX6_leaveAll_21 : decode cX6_leaveAll 21 = .ok (.aload_n 0, 1) := by decide +kernel
theorem dX6_leaveAll_22 : decode cX6_leaveAll 22 = .ok (.iload_n 2, 1) := by decide +kernel
theorem dX6_leaveAll_23 : decode cX6_leaveAll 23 = .ok (.invokevirtual 171, 3) := by decide +kernel
theorem dX6_leaveAll_26 : decode cX6_leaveAll 26 = .ok (.invokevirtual 222, 3) := by decide +kernel
theorem dX6_leaveAll_29 : decode cX6_leaveAll 29 = .ok (.iinc 2 (-1), 3) := by decide +kernel
theorem dX6_leaveAll_32 : decode cX6_leaveAll 32 = .ok (.goto (-29), 3) := by decide +kernel
theorem dX6_leaveAll_35 : decode cX6_leaveAll 35 = .ok (.return_, 1) := by decide +kernel
theorem dX6_fewest_0 : decode cX6_fewest 0 = .ok (.iconst (-1), 1) := by decide +kernel
theorem dX6_fewest_1 : decode cX6_fewest 1 = .ok (.istore_n 1, 1) := by decide +kernel
theorem dX6_fewest_2 : decode cX6_fewest 2 = .ok (.iconst 1, 1) := by decide +kernel
theorem dX6_fewest_3 : decode cX6_fewest 3 = .ok (.aload_n 0, 1) := by decide +kernel
theorem dX6_fewest_4 : decode cX6_fewest 4 = .ok (.invokevirtual 177, 3) := by decide +kernel
theorem dX6_fewest_7 : decode cX6_fewest 7 = .ok (.ishl, 1) := by decide +kernel
theorem dX6_fewest_8 : decode cX6_fewest 8 = .ok (.istore_n 2, 1) := by decide +kernel
theorem dX6_fewest_9 : decode cX6_fewest 9 = .ok (.aload_n 0, 1) := by decide +kernel
theorem dX6_fewest_10 : decode cX6_fewest 10 = .ok (.invokevirtual 256, 3) := by decide +kernel
theorem dX6_fewest_13 : decode cX6_fewest 13 = .ok (.iconst 0, 1) := by decide +kernel
theorem dX6_fewest_14 : decode cX6_fewest 14 = .ok (.istore_n 3, 1) := by decide +kernel
theorem dX6_fewest_15 : decode cX6_fewest 15 = .ok (.iload_n 3, 1) := by decide +kernel
theorem dX6_fewest_16 : decode cX6_fewest 16 = .ok (.iload_n 2, 1) := by decide +kernel
theorem dX6_fewest_17 : decode cX6_fewest 17 = .ok (.if_icmp .ge 54, 3) := by decide +kernel
theorem dX6_fewest_20 : decode cX6_fewest 20 = .ok (.iload_n 3, 1) := by decide +kernel
theorem dX6_fewest_21 : decode cX6_fewest 21 = .ok (.invokestatic 162, 3) := by decide +kernel
theorem dX6_fewest_24 : decode cX6_fewest 24 = .ok (.iconst 4, 1) := by decide +kernel
theorem dX6_fewest_25 : decode cX6_fewest 25 = .ok (.if_icmp .ge 40, 3) := by decide +kernel
theorem dX6_fewest_28 : decode cX6_fewest 28 = .ok (.iload_n 1, 1) := by decide +kernel
theorem dX6_fewest_29 : decode cX6_fewest 29 = .ok (.ifCond .lt 14, 3) := by decide +kernel
theorem dX6_fewest_32 : decode cX6_fewest 32 = .ok (.iload_n 3, 1) := by decide +kernel
theorem dX6_fewest_33 : decode cX6_fewest 33 = .ok (.invokestatic 162, 3) := by decide +kernel
theorem dX6_fewest_36 : decode cX6_fewest 36 = .ok (.iload_n 1, 1) := by decide +kernel
theorem dX6_fewest_37 : decode cX6_fewest 37 = .ok (.invokestatic 162, 3) := by decide +kernel
theorem dX6_fewest_40 : decode cX6_fewest 40 = .ok (.if_icmp .ge 25, 3) := by decide +kernel
theorem dX6_fewest_43 : decode cX6_fewest 43 = .ok (.aload_n 0, 1) := by decide +kernel
theorem dX6_fewest_44 : decode cX6_fewest 44 = .ok (.iload_n 3, 1) := by decide +kernel
theorem dX6_fewest_45 : decode cX6_fewest 45 = .ok (.invokevirtual 262, 3) := by decide +kernel
theorem dX6_fewest_48 : decode cX6_fewest 48 = .ok (.aload_n 0, 1) := by decide +kernel
theorem dX6_fewest_49 : decode cX6_fewest 49 = .ok (.invokevirtual 246, 3) := by decide +kernel
theorem dX6_fewest_52 : decode cX6_fewest 52 = .ok (.ifCond .ne 7, 3) := by decide +kernel
theorem dX6_fewest_55 : decode cX6_fewest 55 = .ok (.iload_n 3, 1) := by decide +kernel
theorem dX6_fewest_56 : decode cX6_fewest 56 = .ok (.goto 4, 3) := by decide +kernel
theorem dX6_fewest_59 : decode cX6_fewest 59 = .ok (.iload_n 1, 1) := by decide +kernel
theorem dX6_fewest_60 : decode cX6_fewest 60 = .ok (.istore_n 1, 1) := by decide +kernel
theorem dX6_fewest_61 : decode cX6_fewest 61 = .ok (.aload_n 0, 1) := by decide +kernel
theorem dX6_fewest_62 : decode cX6_fewest 62 = .ok (.invokevirtual 259, 3) := by decide +kernel
theorem dX6_fewest_65 : decode cX6_fewest 65 = .ok (.iinc 3 1, 3) := by decide +kernel
theorem dX6_fewest_68 : decode cX6_fewest 68 = .ok (.goto (-53), 3) := by decide +kernel
theorem dX6_fewest_71 : decode cX6_fewest 71 = .ok (.iload_n 1, 1) := by decide +kernel
theorem dX6_fewest_72 : decode cX6_fewest 72 = .ok (.ifCond .ge 8, 3) := by decide +kernel
theorem dX6_fewest_75 : decode cX6_fewest 75 = .ok (.bipush (-9), 2) := by decide +kernel
theorem dX6_fewest_77 : decode cX6_fewest 77 = .ok (.goto 12, 3) := by decide +kernel
theorem dX6_fewest_80 : decode cX6_fewest 80 = .ok (.aload_n 0, 1) := by decide +kernel
theorem dX6_fewest_81 : decode cX6_fewest 81 = .ok (.iload_n 1, 1) := by decide +kernel
theorem dX6_fewest_82 : decode cX6_fewest 82 = .ok (.iload_n 1, 1) := by decide +kernel
theorem dX6_fewest_83 : decode cX6_fewest 83 = .ok (.invokestatic 162, 3) := by decide +kernel
theorem dX6_fewest_86 : decode cX6_fewest 86 = .ok (.invokevirtual 81, 3) := by decide +kernel
theorem dX6_fewest_89 : decode cX6_fewest 89 = .ok (.ireturn, 1) := by decide +kernel
theorem dX6_relief_0 : decode cX6_relief 0 = .ok (.aload_n 0, 1) := by decide +kernel
theorem dX6_relief_1 : decode cX6_relief 1 = .ok (.invokevirtual 177, 3) := by decide +kernel
theorem dX6_relief_4 : decode cX6_relief 4 = .ok (.istore_n 1, 1) := by decide +kernel
theorem dX6_relief_5 : decode cX6_relief 5 = .ok (.bipush (-9), 2) := by decide +kernel
theorem dX6_relief_7 : decode cX6_relief 7 = .ok (.istore_n 2, 1) := by decide +kernel
theorem dX6_relief_8 : decode cX6_relief 8 = .ok (.ldc_w 266, 3) := by decide +kernel
theorem dX6_relief_11 : decode cX6_relief 11 = .ok (.istore_n 3, 1) := by decide +kernel
theorem dX6_relief_12 : decode cX6_relief 12 = .ok (.aload_n 0, 1) := by decide +kernel
theorem dX6_relief_13 : decode cX6_relief 13 = .ok (.invokevirtual 256, 3) := by decide +kernel
theorem dX6_relief_16 : decode cX6_relief 16 = .ok (.iconst 0, 1) := by decide +kernel
theorem dX6_relief_17 : decode cX6_relief 17 = .ok (.istore 4, 2) := by decide +kernel
theorem dX6_relief_19 : decode cX6_relief 19 = .ok (.iload 4, 2) := by decide +kernel
theorem dX6_relief_21 : decode cX6_relief 21 = .ok (.iload_n 1, 1) := by decide +kernel
theorem dX6_relief_22 : decode cX6_relief 22 = .ok (.if_icmp .ge 77, 3) := by decide +kernel
theorem dX6_relief_25 : decode cX6_relief 25 = .ok (.aload_n 0, 1) := by decide +kernel
theorem dX6_relief_26 : decode cX6_relief 26 = .ok (.invokevirtual 240, 3) := by decide +kernel
theorem dX6_relief_29 : decode cX6_relief 29 = .ok (.aload_n 0, 1) := by decide +kernel
theorem dX6_relief_30 : decode cX6_relief 30 = .ok (.iload 4, 2) := by decide +kernel
theorem dX6_relief_32 : decode cX6_relief 32 = .ok (.invokevirtual 181, 3) := by decide +kernel
theorem dX6_relief_35 : decode cX6_relief 35 = .ok (.isub, 1) := by decide +kernel
theorem dX6_relief_36 : decode cX6_relief 36 = .ok (.istore 5, 2) := by decide +kernel
theorem dX6_relief_38 : decode cX6_relief 38 = .ok (.aload_n 0, 1) := by decide +kernel
theorem dX6_relief_39 : decode cX6_relief 39 = .ok (.aload_n 0, 1) := by decide +kernel
theorem dX6_relief_40 : decode cX6_relief 40 = .ok (.iload 4, 2) := by decide +kernel
theorem dX6_relief_42 : decode cX6_relief 42 = .ok (.invokevirtual 121, 3) := by decide +kernel
theorem dX6_relief_45 : decode cX6_relief 45 = .ok (.aload_n 0, 1) := by decide +kernel
theorem dX6_relief_46 : decode cX6_relief 46 = .ok (.iload 4, 2) := by decide +kernel
theorem dX6_relief_48 : decode cX6_relief 48 = .ok (.invokevirtual 171, 3) := by decide +kernel
theorem dX6_relief_51 : decode cX6_relief 51 = .ok (.invokevirtual 222, 3) := by decide +kernel
theorem dX6_relief_54 : decode cX6_relief 54 = .ok (.aload_n 0, 1) := by decide +kernel
theorem dX6_relief_55 : decode cX6_relief 55 = .ok (.invokevirtual 240, 3) := by decide +kernel
theorem dX6_relief_58 : decode cX6_relief 58 = .ok (.iload 5, 2) := by decide +kernel
theorem dX6_relief_60 : decode cX6_relief 60 = .ok (.isub, 1) := by decide +kernel
theorem dX6_relief_61 : decode cX6_relief 61 = .ok (.istore 6, 2) := by decide +kernel
theorem dX6_relief_63 : decode cX6_relief 63 = .ok (.iload 6, 2) := by decide +kernel
theorem dX6_relief_65 : decode cX6_relief 65 = .ok (.iload_n 3, 1) := by decide +kernel
theorem dX6_relief_66 : decode cX6_relief 66 = .ok (.if_icmp .le 8, 3) := by decide +kernel
theorem dX6_relief_69 : decode cX6_relief 69 = .ok (.iload 4, 2) := by decide +kernel
theorem dX6_relief_71 : decode cX6_relief 71 = .ok (.goto 4, 3) := by decide +kernel
theorem dX6_relief_74 : decode cX6_relief 74 = .ok (.iload_n 2, 1) := by decide +kernel
theorem dX6_relief_75 : decode cX6_relief 75 = .ok (.istore_n 2, 1) := by decide +kernel
theorem dX6_relief_76 : decode cX6_relief 76 = .ok (.iload 6, 2) := by decide +kernel
theorem dX6_relief_78 : decode cX6_relief 78 = .ok (.iload_n 3, 1) := by decide +kernel
theorem dX6_relief_79 : decode cX6_relief 79 = .ok (.if_icmp .le 8, 3) := by decide +kernel
theorem dX6_relief_82 : decode cX6_relief 82 = .ok (.iload 6, 2) := by decide +kernel
theorem dX6_relief_84 : decode cX6_relief 84 = .ok (.goto 4, 3) := by decide +kernel
theorem dX6_relief_87 : decode cX6_relief 87 = .ok (.iload_n 3, 1) := by decide +kernel
theorem dX6_relief_88 : decode cX6_relief 88 = .ok (.istore_n 3, 1) := by decide +kernel
theorem dX6_relief_89 : decode cX6_relief 89 = .ok (.aload_n 0, 1) := by decide +kernel
theorem dX6_relief_90 : decode cX6_relief 90 = .ok (.invokevirtual 259, 3) := by decide +kernel
theorem dX6_relief_93 : decode cX6_relief 93 = .ok (.iinc 4 1, 3) := by decide +kernel
theorem dX6_relief_96 : decode cX6_relief 96 = .ok (.goto (-77), 3) := by decide +kernel
theorem dX6_relief_99 : decode cX6_relief 99 = .ok (.iload_n 2, 1) := by decide +kernel
theorem dX6_relief_100 : decode cX6_relief 100 = .ok (.bipush (-9), 2) := by decide +kernel
theorem dX6_relief_102 : decode cX6_relief 102 = .ok (.if_icmp .ne 8, 3) := by decide +kernel
theorem dX6_relief_105 : decode cX6_relief 105 = .ok (.bipush (-9), 2) := by decide +kernel
theorem dX6_relief_107 : decode cX6_relief 107 = .ok (.goto 9, 3) := by decide +kernel
theorem dX6_relief_110 : decode cX6_relief 110 = .ok (.aload_n 0, 1) := by decide +kernel
theorem dX6_relief_111 : decode cX6_relief 111 = .ok (.iload_n 3, 1) := by decide +kernel
theorem dX6_relief_112 : decode cX6_relief 112 = .ok (.iload_n 2, 1) := by decide +kernel
theorem dX6_relief_113 : decode cX6_relief 113 = .ok (.invokevirtual 81, 3) := by decide +kernel
theorem dX6_relief_116 : decode cX6_relief 116 = .ok (.ireturn, 1) := by decide +kernel
theorem dX6_high_0 : decode cX6_high 0 = .ok (.aload_n 0, 1) := by decide +kernel
theorem dX6_high_1 : decode cX6_high 1 = .ok (.iload_n 1, 1) := by decide +kernel
theorem dX6_high_2 : decode cX6_high 2 = .ok (.invokevirtual 118, 3) := by decide +kernel
theorem dX6_high_5 : decode cX6_high 5 = .ok (.ifCond .eq 15, 3) := by decide +kernel
theorem dX6_high_8 : decode cX6_high 8 = .ok (.iload_n 2, 1) := by decide +kernel
theorem dX6_high_9 : decode cX6_high 9 = .ok (.i2l, 1) := by decide +kernel
theorem dX6_high_10 : decode cX6_high 10 = .ok (.lconst 0, 1) := by decide +kernel
theorem dX6_high_11 : decode cX6_high 11 = .ok (.ldc2_w 214, 3) := by decide +kernel
theorem dX6_high_14 : decode cX6_high 14 = .ok (.invokestatic 63, 3) := by decide +kernel
theorem dX6_high_17 : decode cX6_high 17 = .ok (.ifCond .ne 5, 3) := by decide +kernel
theorem dX6_high_20 : decode cX6_high 20 = .ok (.iconst (-1), 1) := by decide +kernel
theorem dX6_high_21 : decode cX6_high 21 = .ok (.ireturn, 1) := by decide +kernel
theorem dX6_high_22 : decode cX6_high 22 = .ok (.aload_n 0, 1) := by decide +kernel
theorem dX6_high_23 : decode cX6_high 23 = .ok (.invokevirtual 256, 3) := by decide +kernel
theorem dX6_high_26 : decode cX6_high 26 = .ok (.iconst 0, 1) := by decide +kernel
theorem dX6_high_27 : decode cX6_high 27 = .ok (.istore_n 3, 1) := by decide +kernel
theorem dX6_high_28 : decode cX6_high 28 = .ok (.iconst 1, 1) := by decide +kernel
theorem dX6_high_29 : decode cX6_high 29 = .ok (.istore 4, 2) := by decide +kernel
theorem dX6_high_31 : decode cX6_high 31 = .ok (.iload 4, 2) := by decide +kernel
theorem dX6_high_33 : decode cX6_high 33 = .ok (.ifCond .eq 49, 3) := by decide +kernel
theorem dX6_high_36 : decode cX6_high 36 = .ok (.aload_n 0, 1) := by decide +kernel
theorem dX6_high_37 : decode cX6_high 37 = .ok (.iload_n 1, 1) := by decide +kernel
theorem dX6_high_38 : decode cX6_high 38 = .ok (.invokevirtual 216, 3) := by decide +kernel
theorem dX6_high_41 : decode cX6_high 41 = .ok (.ifCond .eq 41, 3) := by decide +kernel
theorem dX6_high_44 : decode cX6_high 44 = .ok (.aload_n 0, 1) := by decide +kernel
theorem dX6_high_45 : decode cX6_high 45 = .ok (.iconst 0, 1) := by decide +kernel
theorem dX6_high_46 : decode cX6_high 46 = .ok (.iload_n 1, 1) := by decide +kernel
theorem dX6_high_47 : decode cX6_high 47 = .ok (.iconst 0, 1) := by decide +kernel
theorem dX6_high_48 : decode cX6_high 48 = .ok (.iload_n 2, 1) := by decide +kernel
theorem dX6_high_49 : decode cX6_high 49 = .ok (.invokevirtual 104, 3) := by decide +kernel
theorem dX6_high_52 : decode cX6_high 52 = .ok (.aload_n 0, 1) := by decide +kernel
theorem dX6_high_53 : decode cX6_high 53 = .ok (.invokevirtual 246, 3) := by decide +kernel
theorem dX6_high_56 : decode cX6_high 56 = .ok (.ifCond .ne 7, 3) := by decide +kernel
theorem dX6_high_59 : decode cX6_high 59 = .ok (.iconst 1, 1) := by decide +kernel
theorem dX6_high_60 : decode cX6_high 60 = .ok (.goto 4, 3) := by decide +kernel
theorem dX6_high_63 : decode cX6_high 63 = .ok (.iconst 0, 1) := by decide +kernel
theorem dX6_high_64 : decode cX6_high 64 = .ok (.istore 4, 2) := by decide +kernel
theorem dX6_high_66 : decode cX6_high 66 = .ok (.iload_n 3, 1) := by decide +kernel
theorem dX6_high_67 : decode cX6_high 67 = .ok (.iload 4, 2) := by decide +kernel
theorem dX6_high_69 : decode cX6_high 69 = .ok (.ifCond .eq 7, 3) := by decide +kernel
theorem dX6_high_72 : decode cX6_high 72 = .ok (.iconst 1, 1) := by decide +kernel
theorem dX6_high_73 : decode cX6_high 73 = .ok (.goto 4, 3) := by decide +kernel
theorem dX6_high_76 : decode cX6_high 76 = .ok (.iconst 0, 1) := by decide +kernel
theorem dX6_high_77 : decode cX6_high 77 = .ok (.iadd, 1) := by decide +kernel
theorem dX6_high_78 : decode cX6_high 78 = .ok (.istore_n 3, 1) := by decide +kernel
theorem dX6_high_79 : decode cX6_high 79 = .ok (.goto (-48), 3) := by decide +kernel
theorem dX6_high_82 : decode cX6_high 82 = .ok (.aload_n 0, 1) := by decide +kernel
theorem dX6_high_83 : decode cX6_high 83 = .ok (.invokevirtual 259, 3) := by decide +kernel
theorem dX6_high_86 : decode cX6_high 86 = .ok (.iload_n 3, 1) := by decide +kernel
theorem dX6_high_87 : decode cX6_high 87 = .ok (.ireturn, 1) := by decide +kernel
theorem dX6_settle_0 : decode cX6_settle 0 = .ok (.aload_n 0, 1) := by decide +kernel
theorem dX6_settle_1 : decode cX6_settle 1 = .ok (.invokevirtual 184, 3) := by decide +kernel
theorem dX6_settle_4 : decode cX6_settle 4 = .ok (.aload_n 0, 1) := by decide +kernel
theorem dX6_settle_5 : decode cX6_settle 5 = .ok (.invokevirtual 177, 3) := by decide +kernel
theorem dX6_settle_8 : decode cX6_settle 8 = .ok (.istore_n 1, 1) := by decide +kernel
theorem dX6_settle_9 : decode cX6_settle 9 = .ok (.iconst 0, 1) := by decide +kernel
theorem dX6_settle_10 : decode cX6_settle 10 = .ok (.istore_n 2, 1) := by decide +kernel
theorem dX6_settle_11 : decode cX6_settle 11 = .ok (.iload_n 2, 1) := by decide +kernel
theorem dX6_settle_12 : decode cX6_settle 12 = .ok (.iconst 1, 1) := by decide +kernel
theorem dX6_settle_13 : decode cX6_settle 13 = .ok (.iload_n 1, 1) := by decide +kernel
theorem dX6_settle_14 : decode cX6_settle 14 = .ok (.ishl, 1) := by decide +kernel
theorem dX6_settle_15 : decode cX6_settle 15 = .ok (.if_icmp .ge 143, 3) := by decide +kernel
theorem dX6_settle_18 : decode cX6_settle 18 = .ok (.aload_n 0, 1) := by decide +kernel
theorem dX6_settle_19 : decode cX6_settle 19 = .ok (.getfield 41, 3) := by decide +kernel
theorem dX6_settle_22 : decode cX6_settle 22 = .ok (.iload_n 2, 1) := by decide +kernel
theorem dX6_settle_23 : decode cX6_settle 23 = .ok (.iconst 0, 1) := by decide +kernel
theorem dX6_settle_24 : decode cX6_settle 24 = .ok (.iastore, 1) := by decide +kernel
theorem dX6_settle_25 : decode cX6_settle 25 = .ok (.aload_n 0, 1) := by decide +kernel
theorem dX6_settle_26 : decode cX6_settle 26 = .ok (.getfield 44, 3) := by decide +kernel
theorem dX6_settle_29 : decode cX6_settle 29 = .ok (.iload_n 2, 1) := by decide +kernel
theorem dX6_settle_30 : decode cX6_settle 30 = .ok (.iconst 0, 1) := by decide +kernel
theorem dX6_settle_31 : decode cX6_settle 31 = .ok (.iastore, 1) := by decide +kernel
theorem dX6_settle_32 : decode cX6_settle 32 = .ok (.iconst 0, 1) := by decide +kernel
theorem dX6_settle_33 : decode cX6_settle 33 = .ok (.istore_n 3, 1) := by decide +kernel
theorem dX6_settle_34 : decode cX6_settle 34 = .ok (.iload_n 3, 1) := by decide +kernel
theorem dX6_settle_35 : decode cX6_settle 35 = .ok (.iload_n 1, 1) := by decide +kernel
theorem dX6_settle_36 : decode cX6_settle 36 = .ok (.if_icmp .ge 89, 3) := by decide +kernel
theorem dX6_settle_39 : decode cX6_settle 39 = .ok (.iload_n 2, 1) := by decide +kernel
theorem dX6_settle_40 : decode cX6_settle 40 = .ok (.iload_n 3, 1) := by decide +kernel
theorem dX6_settle_41 : decode cX6_settle 41 = .ok (.invokestatic 243, 3) := by decide +kernel
theorem dX6_settle_44 : decode cX6_settle 44 = .ok (.ifCond .eq 75, 3) := by decide +kernel
theorem dX6_settle_47 : decode cX6_settle 47 = .ok (.iload_n 2, 1) := by decide +kernel
theorem dX6_settle_48 : decode cX6_settle 48 = .ok (.iconst 1, 1) := by decide +kernel
theorem dX6_settle_49 : decode cX6_settle 49 = .ok (.iload_n 3, 1) := by decide +kernel
theorem dX6_settle_50 : decode cX6_settle 50 = .ok (.ishl, 1) := by decide +kernel
theorem dX6_settle_51 : decode cX6_settle 51 = .ok (.iconst (-1), 1) := by decide +kernel
theorem dX6_settle_52 : decode cX6_settle 52 = .ok (.ixor, 1) := by decide +kernel
theorem dX6_settle_53 : decode cX6_settle 53 = .ok (.iand, 1) := by decide +kernel
theorem dX6_settle_54 : decode cX6_settle 54 = .ok (.istore 4, 2) := by decide +kernel
theorem dX6_settle_56 : decode cX6_settle 56 = .ok (.aload_n 0, 1) := by decide +kernel
theorem dX6_settle_57 : decode cX6_settle 57 = .ok (.getfield 41, 3) := by decide +kernel
theorem dX6_settle_60 : decode cX6_settle 60 = .ok (.iload_n 2, 1) := by decide +kernel
theorem dX6_settle_61 : decode cX6_settle 61 = .ok (.aload_n 0, 1) := by decide +kernel
theorem dX6_settle_62 : decode cX6_settle 62 = .ok (.getfield 41, 3) := by decide +kernel
theorem dX6_settle_65 : decode cX6_settle 65 = .ok (.iload 4, 2) := by decide +kernel
theorem dX6_settle_67 : decode cX6_settle 67 = .ok (.iaload, 1) := by decide +kernel
theorem dX6_settle_68 : decode cX6_settle 68 = .ok (.aload_n 0, 1) := by decide +kernel
theorem dX6_settle_69 : decode cX6_settle 69 = .ok (.iload_n 3, 1) := by decide +kernel
theorem dX6_settle_70 : decode cX6_settle 70 = .ok (.invokevirtual 187, 3) := by decide +kernel
theorem dX6_settle_73 : decode cX6_settle 73 = .ok (.iadd, 1) := by decide +kernel
theorem dX6_settle_74 : decode cX6_settle 74 = .ok (.aload_n 0, 1) := by decide +kernel
theorem dX6_settle_75 : decode cX6_settle 75 = .ok (.iload_n 3, 1) := by decide +kernel
theorem dX6_settle_76 : decode cX6_settle 76 = .ok (.invokevirtual 190, 3) := by decide +kernel
theorem dX6_settle_79 : decode cX6_settle 79 = .ok (.isub, 1) := by decide +kernel
theorem dX6_settle_80 : decode cX6_settle 80 = .ok (.iastore, 1) := by decide +kernel
theorem dX6_settle_81 : decode cX6_settle 81 = .ok (.aload_n 0, 1) := by decide +kernel
theorem dX6_settle_82 : decode cX6_settle 82 = .ok (.getfield 44, 3) := by decide +kernel
theorem dX6_settle_85 : decode cX6_settle 85 = .ok (.iload_n 2, 1) := by decide +kernel
theorem dX6_settle_86 : decode cX6_settle 86 = .ok (.aload_n 0, 1) := by decide +kernel
theorem dX6_settle_87 : decode cX6_settle 87 = .ok (.getfield 44, 3) := by decide +kernel
theorem dX6_settle_90 : decode cX6_settle 90 = .ok (.iload 4, 2) := by decide +kernel
theorem dX6_settle_92 : decode cX6_settle 92 = .ok (.iaload, 1) := by decide +kernel
theorem dX6_settle_93 : decode cX6_settle 93 = .ok (.aload_n 0, 1) := by decide +kernel
theorem dX6_settle_94 : decode cX6_settle 94 = .ok (.getfield 44, 3) := by decide +kernel
theorem dX6_settle_97 : decode cX6_settle 97 = .ok (.iload_n 2, 1) := by decide +kernel
theorem dX6_settle_98 : decode cX6_settle 98 = .ok (.iaload, 1) := by decide +kernel
theorem dX6_settle_99 : decode cX6_settle 99 = .ok (.if_icmp .le 13, 3) := by decide +kernel
theorem dX6_settle_102 : decode cX6_settle 102 = .ok (.aload_n 0, 1) := by decide +kernel
theorem dX6_settle_103 : decode cX6_settle 103 = .ok (.getfield 44, 3) := by decide +kernel
theorem dX6_settle_106 : decode cX6_settle 106 = .ok (.iload 4, 2) := by decide +kernel
theorem dX6_settle_108 : decode cX6_settle 108 = .ok (.iaload, 1) := by decide +kernel
theorem dX6_settle_109 : decode cX6_settle 109 = .ok (.goto 9, 3) := by decide +kernel
theorem dX6_settle_112 : decode cX6_settle 112 = .ok (.aload_n 0, 1) := by decide +kernel
theorem dX6_settle_113 : decode cX6_settle 113 = .ok (.getfield 44, 3) := by decide +kernel
theorem dX6_settle_116 : decode cX6_settle 116 = .ok (.iload_n 2, 1) := by decide +kernel
theorem dX6_settle_117 : decode cX6_settle 117 = .ok (.iaload, 1) := by decide +kernel
theorem dX6_settle_118 : decode cX6_settle 118 = .ok (.iastore, 1) := by decide +kernel
theorem dX6_settle_119 : decode cX6_settle 119 = .ok (.iinc 3 1, 3) := by decide +kernel
theorem dX6_settle_122 : decode cX6_settle 122 = .ok (.goto (-88), 3) := by decide +kernel
theorem dX6_settle_125 : decode cX6_settle 125 = .ok (.aload_n 0, 1) := by decide +kernel
theorem dX6_settle_126 : decode cX6_settle 126 = .ok (.getfield 44, 3) := by decide +kernel
theorem dX6_settle_129 : decode cX6_settle 129 = .ok (.iload_n 2, 1) := by decide +kernel
theorem dX6_settle_130 : decode cX6_settle 130 = .ok (.dup2, 1) := by decide +kernel
theorem dX6_settle_131 : decode cX6_settle 131 = .ok (.iaload, 1) := by decide +kernel
theorem dX6_settle_132 : decode cX6_settle 132 = .ok (.aload_n 0, 1) := by decide +kernel
theorem dX6_settle_133 : decode cX6_settle 133 = .ok (.getfield 41, 3) := by decide +kernel
theorem dX6_settle_136 : decode cX6_settle 136 = .ok (.iload_n 2, 1) := by decide +kernel
theorem dX6_settle_137 : decode cX6_settle 137 = .ok (.iaload, 1) := by decide +kernel
theorem dX6_settle_138 : decode cX6_settle 138 = .ok (.ifCond .ne 11, 3) := by decide +kernel
theorem dX6_settle_141 : decode cX6_settle 141 = .ok (.iload_n 2, 1) := by decide +kernel
theorem dX6_settle_142 : decode cX6_settle 142 = .ok (.ifCond .le 7, 3) := by decide +kernel
theorem dX6_settle_145 : decode cX6_settle 145 = .ok (.iconst 1, 1) := by decide +kernel
theorem dX6_settle_146 : decode cX6_settle 146 = .ok (.goto 4, 3) := by decide +kernel
theorem dX6_settle_149 : decode cX6_settle 149 = .ok (.iconst 0, 1) := by decide +kernel
theorem dX6_settle_150 : decode cX6_settle 150 = .ok (.iadd, 1) := by decide +kernel
theorem dX6_settle_151 : decode cX6_settle 151 = .ok (.iastore, 1) := by decide +kernel
theorem dX6_settle_152 : decode cX6_settle 152 = .ok (.iinc 2 1, 3) := by decide +kernel
theorem dX6_settle_155 : decode cX6_settle 155 = .ok (.goto (-144), 3) := by decide +kernel
theorem dX6_settle_158 : decode cX6_settle 158 = .ok (.iload_n 1, 1) := by decide +kernel
theorem dX6_settle_159 : decode cX6_settle 159 = .ok (.aload_n 0, 1) := by decide +kernel
theorem dX6_settle_160 : decode cX6_settle 160 = .ok (.getfield 44, 3) := by decide +kernel
theorem dX6_settle_163 : decode cX6_settle 163 = .ok (.iconst 1, 1) := by decide +kernel
theorem dX6_settle_164 : decode cX6_settle 164 = .ok (.iload_n 1, 1) := by decide +kernel
theorem dX6_settle_165 : decode cX6_settle 165 = .ok (.ishl, 1) := by decide +kernel
theorem dX6_settle_166 : decode cX6_settle 166 = .ok (.iconst 1, 1) := by decide +kernel
theorem dX6_settle_167 : decode cX6_settle 167 = .ok (.isub, 1) := by decide +kernel
theorem dX6_settle_168 : decode cX6_settle 168 = .ok (.iaload, 1) := by decide +kernel
theorem dX6_settle_169 : decode cX6_settle 169 = .ok (.isub, 1) := by decide +kernel
theorem dX6_settle_170 : decode cX6_settle 170 = .ok (.ireturn, 1) := by decide +kernel
theorem dX6_rings_0 : decode cX6_rings 0 = .ok (.aload_n 0, 1) := by decide +kernel
theorem dX6_rings_1 : decode cX6_rings 1 = .ok (.invokevirtual 184, 3) := by decide +kernel
theorem dX6_rings_4 : decode cX6_rings 4 = .ok (.aload_n 0, 1) := by decide +kernel
theorem dX6_rings_5 : decode cX6_rings 5 = .ok (.invokevirtual 177, 3) := by decide +kernel
theorem dX6_rings_8 : decode cX6_rings 8 = .ok (.istore_n 1, 1) := by decide +kernel
theorem dX6_rings_9 : decode cX6_rings 9 = .ok (.iconst 0, 1) := by decide +kernel
theorem dX6_rings_10 : decode cX6_rings 10 = .ok (.istore_n 2, 1) := by decide +kernel
theorem dX6_rings_11 : decode cX6_rings 11 = .ok (.iconst 0, 1) := by decide +kernel
theorem dX6_rings_12 : decode cX6_rings 12 = .ok (.istore_n 3, 1) := by decide +kernel
theorem dX6_rings_13 : decode cX6_rings 13 = .ok (.iload_n 3, 1) := by decide +kernel
theorem dX6_rings_14 : decode cX6_rings 14 = .ok (.iload_n 1, 1) := by decide +kernel
theorem dX6_rings_15 : decode cX6_rings 15 = .ok (.if_icmp .ge 62, 3) := by decide +kernel
theorem dX6_rings_18 : decode cX6_rings 18 = .ok (.iconst 0, 1) := by decide +kernel
theorem dX6_rings_19 : decode cX6_rings 19 = .ok (.istore 4, 2) := by decide +kernel
theorem dX6_rings_21 : decode cX6_rings 21 = .ok (.iload 4, 2) := by decide +kernel
theorem dX6_rings_23 : decode cX6_rings 23 = .ok (.iload_n 3, 1) := by decide +kernel
theorem dX6_rings_24 : decode cX6_rings 24 = .ok (.if_icmp .ge 47, 3) := by decide +kernel
theorem dX6_rings_27 : decode cX6_rings 27 = .ok (.iload_n 2, 1) := by decide +kernel
theorem dX6_rings_28 : decode cX6_rings 28 = .ok (.aload_n 0, 1) := by decide +kernel
theorem dX6_rings_29 : decode cX6_rings 29 = .ok (.getfield 38, 3) := by decide +kernel
theorem dX6_rings_32 : decode cX6_rings 32 = .ok (.bipush 12, 2) := by decide +kernel
theorem dX6_rings_34 : decode cX6_rings 34 = .ok (.iload_n 3, 1) := by decide +kernel
theorem dX6_rings_35 : decode cX6_rings 35 = .ok (.imul, 1) := by decide +kernel
theorem dX6_rings_36 : decode cX6_rings 36 = .ok (.iload 4, 2) := by decide +kernel
theorem dX6_rings_38 : decode cX6_rings 38 = .ok (.iadd, 1) := by decide +kernel
theorem dX6_rings_39 : decode cX6_rings 39 = .ok (.iaload, 1) := by decide +kernel
theorem dX6_rings_40 : decode cX6_rings 40 = .ok (.ifCond .le 22, 3) := by decide +kernel
theorem dX6_rings_43 : decode cX6_rings 43 = .ok (.aload_n 0, 1) := by decide +kernel
theorem dX6_rings_44 : decode cX6_rings 44 = .ok (.getfield 38, 3) := by decide +kernel
theorem dX6_rings_47 : decode cX6_rings 47 = .ok (.bipush 12, 2) := by decide +kernel
theorem dX6_rings_49 : decode cX6_rings 49 = .ok (.iload 4, 2) := by decide +kernel
theorem dX6_rings_51 : decode cX6_rings 51 = .ok (.imul, 1) := by decide +kernel
theorem dX6_rings_52 : decode cX6_rings 52 = .ok (.iload_n 3, 1) := by decide +kernel
theorem dX6_rings_53 : decode cX6_rings 53 = .ok (.iadd, 1) := by decide +kernel
theorem dX6_rings_54 : decode cX6_rings 54 = .ok (.iaload, 1) := by decide +kernel
theorem dX6_rings_55 : decode cX6_rings 55 = .ok (.ifCond .le 7, 3) := by decide +kernel
theorem dX6_rings_58 : decode cX6_rings 58 = .ok (.iconst 1, 1) := by decide +kernel
theorem dX6_rings_59 : decode cX6_rings 59 = .ok (.goto 4, 3) := by decide +kernel
theorem dX6_rings_62 : decode cX6_rings 62 = .ok (.iconst 0, 1) := by decide +kernel
theorem dX6_rings_63 : decode cX6_rings 63 = .ok (.iadd, 1) := by decide +kernel
theorem dX6_rings_64 : decode cX6_rings 64 = .ok (.istore_n 2, 1) := by decide +kernel
theorem dX6_rings_65 : decode cX6_rings 65 = .ok (.iinc 4 1, 3) := by decide +kernel
theorem dX6_rings_68 : decode cX6_rings 68 = .ok (.goto (-47), 3) := by decide +kernel
theorem dX6_rings_71 : decode cX6_rings 71 = .ok (.iinc 3 1, 3) := by decide +kernel
theorem dX6_rings_74 : decode cX6_rings 74 = .ok (.goto (-61), 3) := by decide +kernel
theorem dX6_rings_77 : decode cX6_rings 77 = .ok (.iconst 0, 1) := by decide +kernel
theorem dX6_rings_78 : decode cX6_rings 78 = .ok (.istore_n 3, 1) := by decide +kernel
theorem dX6_rings_79 : decode cX6_rings 79 = .ok (.iload_n 3, 1) := by decide +kernel
theorem dX6_rings_80 : decode cX6_rings 80 = .ok (.iload_n 1, 1) := by decide +kernel
theorem dX6_rings_81 : decode cX6_rings 81 = .ok (.if_icmp .ge 106, 3) := by decide +kernel
theorem dX6_rings_84 : decode cX6_rings 84 = .ok (.iconst 0, 1) := by decide +kernel
theorem dX6_rings_85 : decode cX6_rings 85 = .ok (.istore 4, 2) := by decide +kernel
theorem dX6_rings_87 : decode cX6_rings 87 = .ok (.iload 4, 2) := by decide +kernel
theorem dX6_rings_89 : decode cX6_rings 89 = .ok (.iload_n 1, 1) := by decide +kernel
theorem dX6_rings_90 : decode cX6_rings 90 = .ok (.if_icmp .ge 91, 3) := by decide +kernel
theorem dX6_rings_93 : decode cX6_rings 93 = .ok (.iconst 0, 1) := by decide +kernel
theorem dX6_rings_94 : decode cX6_rings 94 = .ok (.istore 5, 2) := by decide +kernel
theorem dX6_rings_96 : decode cX6_rings 96 = .ok (.iload 5, 2) := by decide +kernel
theorem dX6_rings_98 : decode cX6_rings 98 = .ok (.iload_n 1, 1) := by decide +kernel
theorem dX6_rings_99 : decode cX6_rings 99 = .ok (.if_icmp .ge 76, 3) := by decide +kernel
theorem dX6_rings_102 : decode cX6_rings 102 = .ok (.aload_n 0, 1) := by decide +kernel
theorem dX6_rings_103 : decode cX6_rings 103 = .ok (.getfield 38, 3) := by decide +kernel
theorem dX6_rings_106 : decode cX6_rings 106 = .ok (.bipush 12, 2) := by decide +kernel
theorem dX6_rings_108 : decode cX6_rings 108 = .ok (.iload 4, 2) := by decide +kernel
theorem dX6_rings_110 : decode cX6_rings 110 = .ok (.imul, 1) := by decide +kernel
theorem dX6_rings_111 : decode cX6_rings 111 = .ok (.iload 5, 2) := by decide +kernel
theorem dX6_rings_113 : decode cX6_rings 113 = .ok (.iadd, 1) := by decide +kernel
theorem dX6_rings_114 : decode cX6_rings 114 = .ok (.dup2, 1) := by decide +kernel
theorem dX6_rings_115 : decode cX6_rings 115 = .ok (.iaload, 1) := by decide +kernel
theorem dX6_rings_116 : decode cX6_rings 116 = .ok (.aload_n 0, 1) := by decide +kernel
theorem dX6_rings_117 : decode cX6_rings 117 = .ok (.getfield 38, 3) := by decide +kernel
theorem dX6_rings_120 : decode cX6_rings 120 = .ok (.bipush 12, 2) := by decide +kernel
theorem dX6_rings_122 : decode cX6_rings 122 = .ok (.iload 4, 2) := by decide +kernel
theorem dX6_rings_124 : decode cX6_rings 124 = .ok (.imul, 1) := by decide +kernel
theorem dX6_rings_125 : decode cX6_rings 125 = .ok (.iload 5, 2) := by decide +kernel
theorem dX6_rings_127 : decode cX6_rings 127 = .ok (.iadd, 1) := by decide +kernel
theorem dX6_rings_128 : decode cX6_rings 128 = .ok (.iaload, 1) := by decide +kernel
theorem dX6_rings_129 : decode cX6_rings 129 = .ok (.ifCond .ne 37, 3) := by decide +kernel
theorem dX6_rings_132 : decode cX6_rings 132 = .ok (.aload_n 0, 1) := by decide +kernel
theorem dX6_rings_133 : decode cX6_rings 133 = .ok (.getfield 38, 3) := by decide +kernel
theorem dX6_rings_136 : decode cX6_rings 136 = .ok (.bipush 12, 2) := by decide +kernel
theorem dX6_rings_138 : decode cX6_rings 138 = .ok (.iload 4, 2) := by decide +kernel
theorem dX6_rings_140 : decode cX6_rings 140 = .ok (.imul, 1) := by decide +kernel
theorem dX6_rings_141 : decode cX6_rings 141 = .ok (.iload_n 3, 1) := by decide +kernel
theorem dX6_rings_142 : decode cX6_rings 142 = .ok (.iadd, 1) := by decide +kernel
theorem dX6_rings_143 : decode cX6_rings 143 = .ok (.iaload, 1) := by decide +kernel
theorem dX6_rings_144 : decode cX6_rings 144 = .ok (.ifCond .le 22, 3) := by decide +kernel
theorem dX6_rings_147 : decode cX6_rings 147 = .ok (.aload_n 0, 1) := by decide +kernel
theorem dX6_rings_148 : decode cX6_rings 148 = .ok (.getfield 38, 3) := by decide +kernel
theorem dX6_rings_151 : decode cX6_rings 151 = .ok (.bipush 12, 2) := by decide +kernel
theorem dX6_rings_153 : decode cX6_rings 153 = .ok (.iload_n 3, 1) := by decide +kernel
theorem dX6_rings_154 : decode cX6_rings 154 = .ok (.imul, 1) := by decide +kernel
theorem dX6_rings_155 : decode cX6_rings 155 = .ok (.iload 5, 2) := by decide +kernel
theorem dX6_rings_157 : decode cX6_rings 157 = .ok (.iadd, 1) := by decide +kernel
theorem dX6_rings_158 : decode cX6_rings 158 = .ok (.iaload, 1) := by decide +kernel
theorem dX6_rings_159 : decode cX6_rings 159 = .ok (.ifCond .le 7, 3) := by decide +kernel
theorem dX6_rings_162 : decode cX6_rings 162 = .ok (.iconst 1, 1) := by decide +kernel
theorem dX6_rings_163 : decode cX6_rings 163 = .ok (.goto 4, 3) := by decide +kernel
theorem dX6_rings_166 : decode cX6_rings 166 = .ok (.iconst 0, 1) := by decide +kernel
theorem dX6_rings_167 : decode cX6_rings 167 = .ok (.iadd, 1) := by decide +kernel
theorem dX6_rings_168 : decode cX6_rings 168 = .ok (.iastore, 1) := by decide +kernel
theorem dX6_rings_169 : decode cX6_rings 169 = .ok (.iinc 5 1, 3) := by decide +kernel
theorem dX6_rings_172 : decode cX6_rings 172 = .ok (.goto (-76), 3) := by decide +kernel
theorem dX6_rings_175 : decode cX6_rings 175 = .ok (.iinc 4 1, 3) := by decide +kernel
theorem dX6_rings_178 : decode cX6_rings 178 = .ok (.goto (-91), 3) := by decide +kernel
theorem dX6_rings_181 : decode cX6_rings 181 = .ok (.iinc 3 1, 3) := by decide +kernel
theorem dX6_rings_184 : decode cX6_rings 184 = .ok (.goto (-105), 3) := by decide +kernel
theorem dX6_rings_187 : decode cX6_rings 187 = .ok (.iconst 0, 1) := by decide +kernel
theorem dX6_rings_188 : decode cX6_rings 188 = .ok (.istore_n 3, 1) := by decide +kernel
theorem dX6_rings_189 : decode cX6_rings 189 = .ok (.iconst 0, 1) := by decide +kernel
theorem dX6_rings_190 : decode cX6_rings 190 = .ok (.istore 4, 2) := by decide +kernel
theorem dX6_rings_192 : decode cX6_rings 192 = .ok (.iload 4, 2) := by decide +kernel
theorem dX6_rings_194 : decode cX6_rings 194 = .ok (.iload_n 1, 1) := by decide +kernel
theorem dX6_rings_195 : decode cX6_rings 195 = .ok (.if_icmp .ge 36, 3) := by decide +kernel
theorem dX6_rings_198 : decode cX6_rings 198 = .ok (.iload_n 3, 1) := by decide +kernel
theorem dX6_rings_199 : decode cX6_rings 199 = .ok (.aload_n 0, 1) := by decide +kernel
theorem dX6_rings_200 : decode cX6_rings 200 = .ok (.getfield 38, 3) := by decide +kernel
theorem dX6_rings_203 : decode cX6_rings 203 = .ok (.bipush 12, 2) := by decide +kernel
theorem dX6_rings_205 : decode cX6_rings 205 = .ok (.iload 4, 2) := by decide +kernel
theorem dX6_rings_207 : decode cX6_rings 207 = .ok (.imul, 1) := by decide +kernel
theorem dX6_rings_208 : decode cX6_rings 208 = .ok (.iload 4, 2) := by decide +kernel
theorem dX6_rings_210 : decode cX6_rings 210 = .ok (.iadd, 1) := by decide +kernel
theorem dX6_rings_211 : decode cX6_rings 211 = .ok (.iaload, 1) := by decide +kernel
theorem dX6_rings_212 : decode cX6_rings 212 = .ok (.ifCond .le 10, 3) := by decide +kernel
theorem dX6_rings_215 : decode cX6_rings 215 = .ok (.iconst 1, 1) := by decide +kernel
theorem dX6_rings_216 : decode cX6_rings 216 = .ok (.iload 4, 2) := by decide +kernel
theorem dX6_rings_218 : decode cX6_rings 218 = .ok (.ishl, 1) := by decide +kernel
theorem dX6_rings_219 : decode cX6_rings 219 = .ok (.goto 4, 3) := by decide +kernel
theorem dX6_rings_222 : decode cX6_rings 222 = .ok (.iconst 0, 1) := by decide +kernel
theorem dX6_rings_223 : decode cX6_rings 223 = .ok (.ior, 1) := by decide +kernel
theorem dX6_rings_224 : decode cX6_rings 224 = .ok (.istore_n 3, 1) := by decide +kernel
theorem dX6_rings_225 : decode cX6_rings 225 = .ok (.iinc 4 1, 3) := by decide +kernel
theorem dX6_rings_228 : decode cX6_rings 228 = .ok (.goto (-36), 3) := by decide +kernel
theorem dX6_rings_231 : decode cX6_rings 231 = .ok (.aload_n 0, 1) := by decide +kernel
theorem dX6_rings_232 : decode cX6_rings 232 = .ok (.iload_n 2, 1) := by decide +kernel
theorem dX6_rings_233 : decode cX6_rings 233 = .ok (.iload_n 3, 1) := by decide +kernel
theorem dX6_rings_234 : decode cX6_rings 234 = .ok (.invokevirtual 81, 3) := by decide +kernel
theorem dX6_rings_237 : decode cX6_rings 237 = .ok (.ireturn, 1) := by decide +kernel
theorem dX6_isBuilt_0 : decode cX6_isBuilt 0 = .ok (.aload_n 0, 1) := by decide +kernel
theorem dX6_isBuilt_1 : decode cX6_isBuilt 1 = .ok (.iload_n 1, 1) := by decide +kernel
theorem dX6_isBuilt_2 : decode cX6_isBuilt 2 = .ok (.invokevirtual 216, 3) := by decide +kernel
theorem dX6_isBuilt_5 : decode cX6_isBuilt 5 = .ok (.istore_n 3, 1) := by decide +kernel
theorem dX6_isBuilt_6 : decode cX6_isBuilt 6 = .ok (.iload_n 3, 1) := by decide +kernel
theorem dX6_isBuilt_7 : decode cX6_isBuilt 7 = .ok (.ifCond .eq 44, 3) := by decide +kernel
theorem dX6_isBuilt_10 : decode cX6_isBuilt 10 = .ok (.aload_n 0, 1) := by decide +kernel
theorem dX6_isBuilt_11 : decode cX6_isBuilt 11 = .ok (.iconst 0, 1) := by decide +kernel
theorem dX6_isBuilt_12 : decode cX6_isBuilt 12 = .ok (.iload_n 1, 1) := by decide +kernel
theorem dX6_isBuilt_13 : decode cX6_isBuilt 13 = .ok (.iconst 0, 1) := by decide +kernel
theorem dX6_isBuilt_14 : decode cX6_isBuilt 14 = .ok (.iload_n 2, 1) := by decide +kernel
theorem dX6_isBuilt_15 : decode cX6_isBuilt 15 = .ok (.invokevirtual 104, 3) := by decide +kernel
theorem dX6_isBuilt_18 : decode cX6_isBuilt 18 = .ok (.aload_n 0, 1) := by decide +kernel
theorem dX6_isBuilt_19 : decode cX6_isBuilt 19 = .ok (.invokevirtual 246, 3) := by decide +kernel
theorem dX6_isBuilt_22 : decode cX6_isBuilt 22 = .ok (.ifCond .ne 7, 3) := by decide +kernel
theorem dX6_isBuilt_25 : decode cX6_isBuilt 25 = .ok (.iconst 1, 1) := by decide +kernel
theorem dX6_isBuilt_26 : decode cX6_isBuilt 26 = .ok (.goto 4, 3) := by decide +kernel
theorem dX6_isBuilt_29 : decode cX6_isBuilt 29 = .ok (.iconst 0, 1) := by decide +kernel
theorem dX6_isBuilt_30 : decode cX6_isBuilt 30 = .ok (.istore_n 3, 1) := by decide +kernel
theorem dX6_isBuilt_31 : decode cX6_isBuilt 31 = .ok (.aload_n 0, 1) := by decide +kernel
theorem dX6_isBuilt_32 : decode cX6_isBuilt 32 = .ok (.getfield 7, 3) := by decide +kernel
theorem dX6_isBuilt_35 : decode cX6_isBuilt 35 = .ok (.iconst 1, 1) := by decide +kernel
theorem dX6_isBuilt_36 : decode cX6_isBuilt 36 = .ok (.iload_n 1, 1) := by decide +kernel
theorem dX6_isBuilt_37 : decode cX6_isBuilt 37 = .ok (.iadd, 1) := by decide +kernel
theorem dX6_isBuilt_38 : decode cX6_isBuilt 38 = .ok (.dup2, 1) := by decide +kernel
theorem dX6_isBuilt_39 : decode cX6_isBuilt 39 = .ok (.iaload, 1) := by decide +kernel
theorem dX6_isBuilt_40 : decode cX6_isBuilt 40 = .ok (.iload_n 3, 1) := by decide +kernel
theorem dX6_isBuilt_41 : decode cX6_isBuilt 41 = .ok (.ifCond .eq 7, 3) := by decide +kernel
theorem dX6_isBuilt_44 : decode cX6_isBuilt 44 = .ok (.iconst 0, 1) := by decide +kernel
theorem dX6_isBuilt_45 : decode cX6_isBuilt 45 = .ok (.goto 4, 3) := by decide +kernel
theorem dX6_isBuilt_48 : decode cX6_isBuilt 48 = .ok (.iconst 1, 1) := by decide +kernel
theorem dX6_isBuilt_49 : decode cX6_isBuilt 49 = .ok (.isub, 1) := by decide +kernel
theorem dX6_isBuilt_50 : decode cX6_isBuilt 50 = .ok (.iastore, 1) := by decide +kernel
theorem dX6_isBuilt_51 : decode cX6_isBuilt 51 = .ok (.iload_n 3, 1) := by decide +kernel
theorem dX6_isBuilt_52 : decode cX6_isBuilt 52 = .ok (.ireturn, 1) := by decide +kernel
theorem dX6_winsBy_0 : decode cX6_winsBy 0 = .ok (.iconst 0, 1) := by decide +kernel
theorem dX6_winsBy_1 : decode cX6_winsBy 1 = .ok (.istore_n 3, 1) := by decide +kernel
theorem dX6_winsBy_2 : decode cX6_winsBy 2 = .ok (.aload_n 0, 1) := by decide +kernel
theorem dX6_winsBy_3 : decode cX6_winsBy 3 = .ok (.getfield 47, 3) := by decide +kernel
theorem dX6_winsBy_6 : decode cX6_winsBy 6 = .ok (.iconst 0, 1) := by decide +kernel
theorem dX6_winsBy_7 : decode cX6_winsBy 7 = .ok (.iconst 0, 1) := by decide +kernel
theorem dX6_winsBy_8 : decode cX6_winsBy 8 = .ok (.iastore, 1) := by decide +kernel
theorem dX6_winsBy_9 : decode cX6_winsBy 9 = .ok (.aload_n 0, 1) := by decide +kernel
theorem dX6_winsBy_10 : decode cX6_winsBy 10 = .ok (.getfield 50, 3) := by decide +kernel
theorem dX6_winsBy_13 : decode cX6_winsBy 13 = .ok (.iconst 0, 1) := by decide +kernel
theorem dX6_winsBy_14 : decode cX6_winsBy 14 = .ok (.iconst 0, 1) := by decide +kernel
theorem dX6_winsBy_15 : decode cX6_winsBy 15 = .ok (.bastore, 1) := by decide +kernel
theorem dX6_winsBy_16 : decode cX6_winsBy 16 = .ok (.iload_n 3, 1) := by decide +kernel
theorem dX6_winsBy_17 : decode cX6_winsBy 17 = .ok (.iload_n 2, 1) := by decide +kernel
theorem dX6_winsBy_18 : decode cX6_winsBy 18 = .ok (.if_icmp .eq 27, 3) := by decide +kernel
theorem dX6_winsBy_21 : decode cX6_winsBy 21 = .ok (.aload_n 0, 1) := by decide +kernel
theorem dX6_winsBy_22 : decode cX6_winsBy 22 = .ok (.getfield 50, 3) := by decide +kernel
theorem dX6_winsBy_25 : decode cX6_winsBy 25 = .ok (.iload_n 3, 1) := by decide +kernel
theorem dX6_winsBy_26 : decode cX6_winsBy 26 = .ok (.baload, 1) := by decide +kernel
theorem dX6_winsBy_27 : decode cX6_winsBy 27 = .ok (.ifCond .ne 18, 3) := by decide +kernel
theorem dX6_winsBy_30 : decode cX6_winsBy 30 = .ok (.aload_n 0, 1) := by decide +kernel
theorem dX6_winsBy_31 : decode cX6_winsBy 31 = .ok (.getfield 47, 3) := by decide +kernel
theorem dX6_winsBy_34 : decode cX6_winsBy 34 = .ok (.iload_n 3, 1) := by decide +kernel
theorem dX6_winsBy_35 : decode cX6_winsBy 35 = .ok (.iaload, 1) := by decide +kernel
theorem dX6_winsBy_36 : decode cX6_winsBy 36 = .ok (.aload_n 0, 1) := by decide +kernel
theorem dX6_winsBy_37 : decode cX6_winsBy 37 = .ok (.getfield 7, 3) := by decide +kernel
theorem dX6_winsBy_40 : decode cX6_winsBy 40 = .ok (.iconst 0, 1) := by decide +kernel
theorem dX6_winsBy_41 : decode cX6_winsBy 41 = .ok (.iaload, 1) := by decide +kernel
theorem dX6_winsBy_42 : decode cX6_winsBy 42 = .ok (.if_icmp .ne 7, 3) := by decide +kernel
theorem dX6_winsBy_45 : decode cX6_winsBy 45 = .ok (.iconst 1, 1) := by decide +kernel
theorem dX6_winsBy_46 : decode cX6_winsBy 46 = .ok (.goto 4, 3) := by decide +kernel
theorem dX6_winsBy_49 : decode cX6_winsBy 49 = .ok (.iconst 0, 1) := by decide +kernel
theorem dX6_winsBy_50 : decode cX6_winsBy 50 = .ok (.istore 4, 2) := by decide +kernel
theorem dX6_winsBy_52 : decode cX6_winsBy 52 = .ok (.iload 4, 2) := by decide +kernel
theorem dX6_winsBy_54 : decode cX6_winsBy 54 = .ok (.ifCond .eq 89, 3) := by decide +kernel
theorem dX6_winsBy_57 : decode cX6_winsBy 57 = .ok (.iload_n 3, 1) := by decide +kernel
theorem dX6_winsBy_58 : decode cX6_winsBy 58 = .ok (.iload_n 2, 1) := by decide +kernel
theorem dX6_winsBy_59 : decode cX6_winsBy 59 = .ok (.if_icmp .ge 16, 3) := by decide +kernel
theorem dX6_winsBy_62 : decode cX6_winsBy 62 = .ok (.aload_n 0, 1) := by decide +kernel
theorem dX6_winsBy_63 : decode cX6_winsBy 63 = .ok (.getfield 50, 3) := by decide +kernel
theorem dX6_winsBy_66 : decode cX6_winsBy 66 = .ok (.iload_n 3, 1) := by decide +kernel
theorem dX6_winsBy_67 : decode cX6_winsBy 67 = .ok (.baload, 1) := by decide +kernel
theorem dX6_winsBy_68 : decode cX6_winsBy 68 = .ok (.ifCond .eq 7, 3) := by decide +kernel
theorem dX6_winsBy_71 : decode cX6_winsBy 71 = .ok (.iconst 1, 1) := by decide +kernel
theorem dX6_winsBy_72 : decode cX6_winsBy 72 = .ok (.goto 4, 3) := by decide +kernel
theorem dX6_winsBy_75 : decode cX6_winsBy 75 = .ok (.iconst 0, 1) := by decide +kernel
theorem dX6_winsBy_76 : decode cX6_winsBy 76 = .ok (.istore 5, 2) := by decide +kernel
theorem dX6_winsBy_78 : decode cX6_winsBy 78 = .ok (.iload_n 3, 1) := by decide +kernel
theorem dX6_winsBy_79 : decode cX6_winsBy 79 = .ok (.ifCond .ne 6, 3) := by decide +kernel
theorem dX6_winsBy_82 : decode cX6_winsBy 82 = .ok (.iload 5, 2) := by decide +kernel
theorem dX6_winsBy_84 : decode cX6_winsBy 84 = .ok (.ireturn, 1) := by decide +kernel
theorem dX6_winsBy_85 : decode cX6_winsBy 85 = .ok (.iinc 3 (-1), 3) := by decide +kernel
theorem dX6_winsBy_88 : decode cX6_winsBy 88 = .ok (.aload_n 0, 1) := by decide +kernel
theorem dX6_winsBy_89 : decode cX6_winsBy 89 = .ok (.getfield 7, 3) := by decide +kernel
theorem dX6_winsBy_92 : decode cX6_winsBy 92 = .ok (.iconst 1, 1) := by decide +kernel
theorem dX6_winsBy_93 : decode cX6_winsBy 93 = .ok (.aload_n 0, 1) := by decide +kernel
theorem dX6_winsBy_94 : decode cX6_winsBy 94 = .ok (.getfield 47, 3) := by decide +kernel
theorem dX6_winsBy_97 : decode cX6_winsBy 97 = .ok (.iload_n 3, 1) := by decide +kernel
theorem dX6_winsBy_98 : decode cX6_winsBy 98 = .ok (.iaload, 1) := by decide +kernel
theorem dX6_winsBy_99 : decode cX6_winsBy 99 = .ok (.iadd, 1) := by decide +kernel
theorem dX6_winsBy_100 : decode cX6_winsBy 100 = .ok (.dup2, 1) := by decide +kernel
theorem dX6_winsBy_101 : decode cX6_winsBy 101 = .ok (.iaload, 1) := by decide +kernel
theorem dX6_winsBy_102 : decode cX6_winsBy 102 = .ok (.iconst 1, 1) := by decide +kernel
theorem dX6_winsBy_103 : decode cX6_winsBy 103 = .ok (.isub, 1) := by decide +kernel
theorem dX6_winsBy_104 : decode cX6_winsBy 104 = .ok (.iastore, 1) := by decide +kernel
theorem dX6_winsBy_105 : decode cX6_winsBy 105 = .ok (.aload_n 0, 1) := by decide +kernel
theorem dX6_winsBy_106 : decode cX6_winsBy 106 = .ok (.getfield 50, 3) := by decide +kernel
theorem dX6_winsBy_109 : decode cX6_winsBy 109 = .ok (.iload_n 3, 1) := by decide +kernel
theorem dX6_winsBy_110 : decode cX6_winsBy 110 = .ok (.aload_n 0, 1) := by decide +kernel
theorem dX6_winsBy_111 : decode cX6_winsBy 111 = .ok (.getfield 50, 3) := by decide +kernel
theorem dX6_winsBy_114 : decode cX6_winsBy 114 = .ok (.iload_n 3, 1) := by decide +kernel
theorem dX6_winsBy_115 : decode cX6_winsBy 115 = .ok (.baload, 1) := by decide +kernel
theorem dX6_winsBy_116 : decode cX6_winsBy 116 = .ok (.ifCond .ne 8, 3) := by decide +kernel
theorem dX6_winsBy_119 : decode cX6_winsBy 119 = .ok (.iload 5, 2) := by decide +kernel
theorem dX6_winsBy_121 : decode cX6_winsBy 121 = .ok (.ifCond .ne 7, 3) := by decide +kernel
theorem dX6_winsBy_124 : decode cX6_winsBy 124 = .ok (.iconst 1, 1) := by decide +kernel
theorem dX6_winsBy_125 : decode cX6_winsBy 125 = .ok (.goto 4, 3) := by decide +kernel
theorem dX6_winsBy_128 : decode cX6_winsBy 128 = .ok (.iconst 0, 1) := by decide +kernel
theorem dX6_winsBy_129 : decode cX6_winsBy 129 = .ok (.bastore, 1) := by decide +kernel
theorem dX6_winsBy_130 : decode cX6_winsBy 130 = .ok (.aload_n 0, 1) := by decide +kernel
theorem dX6_winsBy_131 : decode cX6_winsBy 131 = .ok (.getfield 47, 3) := by decide +kernel
theorem dX6_winsBy_134 : decode cX6_winsBy 134 = .ok (.iload_n 3, 1) := by decide +kernel
theorem dX6_winsBy_135 : decode cX6_winsBy 135 = .ok (.dup2, 1) := by decide +kernel
theorem dX6_winsBy_136 : decode cX6_winsBy 136 = .ok (.iaload, 1) := by decide +kernel
theorem dX6_winsBy_137 : decode cX6_winsBy 137 = .ok (.iconst 1, 1) := by decide +kernel
theorem dX6_winsBy_138 : decode cX6_winsBy 138 = .ok (.iadd, 1) := by decide +kernel
theorem dX6_winsBy_139 : decode cX6_winsBy 139 = .ok (.iastore, 1) := by decide +kernel
theorem dX6_winsBy_140 : decode cX6_winsBy 140 = .ok (.goto 52, 3) := by decide +kernel
theorem dX6_winsBy_143 : decode cX6_winsBy 143 = .ok (.aload_n 0, 1) := by decide +kernel
theorem dX6_winsBy_144 : decode cX6_winsBy 144 = .ok (.aload_n 0, 1) := by decide +kernel
theorem dX6_winsBy_145 : decode cX6_winsBy 145 = .ok (.getfield 47, 3) := by decide +kernel
theorem dX6_winsBy_148 : decode cX6_winsBy 148 = .ok (.iload_n 3, 1) := by decide +kernel
theorem dX6_winsBy_149 : decode cX6_winsBy 149 = .ok (.iaload, 1) := by decide +kernel
theorem dX6_winsBy_150 : decode cX6_winsBy 150 = .ok (.iload_n 1, 1) := by decide +kernel
theorem dX6_winsBy_151 : decode cX6_winsBy 151 = .ok (.invokevirtual 267, 3) := by decide +kernel
theorem dX6_winsBy_154 : decode cX6_winsBy 154 = .ok (.ifCond .eq 28, 3) := by decide +kernel
theorem dX6_winsBy_157 : decode cX6_winsBy 157 = .ok (.iinc 3 1, 3) := by decide +kernel
theorem dX6_winsBy_160 : decode cX6_winsBy 160 = .ok (.iload_n 3, 1) := by decide +kernel
theorem dX6_winsBy_161 : decode cX6_winsBy 161 = .ok (.iload_n 2, 1) := by decide +kernel
theorem dX6_winsBy_162 : decode cX6_winsBy 162 = .ok (.if_icmp .ge 30, 3) := by decide +kernel
theorem dX6_winsBy_165 : decode cX6_winsBy 165 = .ok (.aload_n 0, 1) := by decide +kernel
theorem dX6_winsBy_166 : decode cX6_winsBy 166 = .ok (.getfield 47, 3) := by decide +kernel
theorem dX6_winsBy_169 : decode cX6_winsBy 169 = .ok (.iload_n 3, 1) := by decide +kernel
theorem dX6_winsBy_170 : decode cX6_winsBy 170 = .ok (.iconst 0, 1) := by decide +kernel
theorem dX6_winsBy_171 : decode cX6_winsBy 171 = .ok (.iastore, 1) := by decide +kernel
theorem dX6_winsBy_172 : decode cX6_winsBy 172 = .ok (.aload_n 0, 1) := by decide +kernel
theorem dX6_winsBy_173 : decode cX6_winsBy 173 = .ok (.getfield 50, 3) := by decide +kernel
theorem dX6_winsBy_176 : decode cX6_winsBy 176 = .ok (.iload_n 3, 1) := by decide +kernel
theorem dX6_winsBy_177 : decode cX6_winsBy 177 = .ok (.iconst 0, 1) := by decide +kernel
theorem dX6_winsBy_178 : decode cX6_winsBy 178 = .ok (.bastore, 1) := by decide +kernel
theorem dX6_winsBy_179 : decode cX6_winsBy 179 = .ok (.goto 13, 3) := by decide +kernel
theorem dX6_winsBy_182 : decode cX6_winsBy 182 = .ok (.aload_n 0, 1) := by decide +kernel
theorem dX6_winsBy_183 : decode cX6_winsBy 183 = .ok (.getfield 47, 3) := by decide +kernel
theorem dX6_winsBy_186 : decode cX6_winsBy 186 = .ok (.iload_n 3, 1) := by decide +kernel
theorem dX6_winsBy_187 : decode cX6_winsBy 187 = .ok (.dup2, 1) := by decide +kernel
theorem dX6_winsBy_188 : decode cX6_winsBy 188 = .ok (.iaload, 1) := by decide +kernel
theorem dX6_winsBy_189 : decode cX6_winsBy 189 = .ok (.iconst 1, 1) := by decide +kernel
theorem dX6_winsBy_190 : decode cX6_winsBy 190 = .ok (.iadd, 1) := by decide +kernel
theorem dX6_winsBy_191 : decode cX6_winsBy 191 = .ok (.iastore, 1) := by decide +kernel
theorem dX6_winsBy_192 : decode cX6_winsBy 192 = .ok (.goto (-176), 3) := by decide +kernel
theorem dX6_isGame_0 : decode cX6_isGame 0 = .ok (.iload_n 1, 1) := by decide +kernel
theorem dX6_isGame_1 : decode cX6_isGame 1 = .ok (.i2l, 1) := by decide +kernel
theorem dX6_isGame_2 : decode cX6_isGame 2 = .ok (.lconst 0, 1) := by decide +kernel
theorem dX6_isGame_3 : decode cX6_isGame 3 = .ok (.ldc2_w 214, 3) := by decide +kernel
theorem dX6_isGame_6 : decode cX6_isGame 6 = .ok (.invokestatic 63, 3) := by decide +kernel
theorem dX6_isGame_9 : decode cX6_isGame 9 = .ok (.ifCond .eq 19, 3) := by decide +kernel
theorem dX6_isGame_12 : decode cX6_isGame 12 = .ok (.iload_n 2, 1) := by decide +kernel
theorem dX6_isGame_13 : decode cX6_isGame 13 = .ok (.i2l, 1) := by decide +kernel
theorem dX6_isGame_14 : decode cX6_isGame 14 = .ok (.lconst 0, 1) := by decide +kernel
theorem dX6_isGame_15 : decode cX6_isGame 15 = .ok (.ldc2_w 232, 3) := by decide +kernel
theorem dX6_isGame_18 : decode cX6_isGame 18 = .ok (.invokestatic 63, 3) := by decide +kernel
theorem dX6_isGame_21 : decode cX6_isGame 21 = .ok (.ifCond .eq 7, 3) := by decide +kernel
theorem dX6_isGame_24 : decode cX6_isGame 24 = .ok (.iconst 1, 1) := by decide +kernel
theorem dX6_isGame_25 : decode cX6_isGame 25 = .ok (.goto 4, 3) := by decide +kernel
theorem dX6_isGame_28 : decode cX6_isGame 28 = .ok (.iconst 0, 1) := by decide +kernel
theorem dX6_isGame_29 : decode cX6_isGame 29 = .ok (.ireturn, 1) := by decide +kernel
theorem dX6_game_0 : decode cX6_game 0 = .ok (.aload_n 0, 1) := by decide +kernel
theorem dX6_game_1 : decode cX6_game 1 = .ok (.iload_n 1, 1) := by decide +kernel
theorem dX6_game_2 : decode cX6_game 2 = .ok (.iload_n 2, 1) := by decide +kernel
theorem dX6_game_3 : decode cX6_game 3 = .ok (.invokevirtual 270, 3) := by decide +kernel
theorem dX6_game_6 : decode cX6_game 6 = .ok (.ifCond .ne 5, 3) := by decide +kernel
theorem dX6_game_9 : decode cX6_game 9 = .ok (.iconst (-1), 1) := by decide +kernel
theorem dX6_game_10 : decode cX6_game 10 = .ok (.ireturn, 1) := by decide +kernel
theorem dX6_game_11 : decode cX6_game 11 = .ok (.aload_n 0, 1) := by decide +kernel
theorem dX6_game_12 : decode cX6_game 12 = .ok (.invokevirtual 228, 3) := by decide +kernel
theorem dX6_game_15 : decode cX6_game 15 = .ok (.ifCond .eq 8, 3) := by decide +kernel
theorem dX6_game_18 : decode cX6_game 18 = .ok (.bipush (-4), 2) := by decide +kernel
theorem dX6_game_20 : decode cX6_game 20 = .ok (.goto 17, 3) := by decide +kernel
theorem dX6_game_23 : decode cX6_game 23 = .ok (.aload_n 0, 1) := by decide +kernel
theorem dX6_game_24 : decode cX6_game 24 = .ok (.iload_n 1, 1) := by decide +kernel
theorem dX6_game_25 : decode cX6_game 25 = .ok (.iload_n 2, 1) := by decide +kernel
theorem dX6_game_26 : decode cX6_game 26 = .ok (.invokevirtual 273, 3) := by decide +kernel
theorem dX6_game_29 : decode cX6_game 29 = .ok (.ifCond .eq 7, 3) := by decide +kernel
theorem dX6_game_32 : decode cX6_game 32 = .ok (.iconst 1, 1) := by decide +kernel
theorem dX6_game_33 : decode cX6_game 33 = .ok (.goto 4, 3) := by decide +kernel
theorem dX6_game_36 : decode cX6_game 36 = .ok (.iconst 0, 1) := by decide +kernel
theorem dX6_game_37 : decode cX6_game 37 = .ok (.ireturn, 1) := by decide +kernel
theorem dX6_begin_0 : decode cX6_begin 0 = .ok (.aload_n 0, 1) := by decide +kernel
theorem dX6_begin_1 : decode cX6_begin 1 = .ok (.iload_n 1, 1) := by decide +kernel
theorem dX6_begin_2 : decode cX6_begin 2 = .ok (.iload_n 2, 1) := by decide +kernel
theorem dX6_begin_3 : decode cX6_begin 3 = .ok (.invokevirtual 270, 3) := by decide +kernel
theorem dX6_begin_6 : decode cX6_begin 6 = .ok (.ifCond .ne 5, 3) := by decide +kernel
theorem dX6_begin_9 : decode cX6_begin 9 = .ok (.iconst (-1), 1) := by decide +kernel
theorem dX6_begin_10 : decode cX6_begin 10 = .ok (.ireturn, 1) := by decide +kernel
theorem dX6_begin_11 : decode cX6_begin 11 = .ok (.aload_n 0, 1) := by decide +kernel
theorem dX6_begin_12 : decode cX6_begin 12 = .ok (.invokevirtual 228, 3) := by decide +kernel
theorem dX6_begin_15 : decode cX6_begin 15 = .ok (.ifCond .eq 6, 3) := by decide +kernel
theorem dX6_begin_18 : decode cX6_begin 18 = .ok (.bipush (-4), 2) := by decide +kernel
theorem dX6_begin_20 : decode cX6_begin 20 = .ok (.ireturn, 1) := by decide +kernel
theorem dX6_begin_21 : decode cX6_begin 21 = .ok (.iconst 0, 1) := by decide +kernel
theorem dX6_begin_22 : decode cX6_begin 22 = .ok (.istore_n 3, 1) := by decide +kernel
theorem dX6_begin_23 : decode cX6_begin 23 = .ok (.iload_n 3, 1) := by decide +kernel
theorem dX6_begin_24 : decode cX6_begin 24 = .ok (.aload_n 0, 1) := by decide +kernel
theorem dX6_begin_25 : decode cX6_begin 25 = .ok (.getfield 7, 3) := by decide +kernel
theorem dX6_begin_28 : decode cX6_begin 28 = .ok (.iconst 0, 1) := by decide +kernel
theorem dX6_begin_29 : decode cX6_begin 29 = .ok (.iaload, 1) := by decide +kernel
theorem dX6_begin_30 : decode cX6_begin 30 = .ok (.if_icmp .ge 59, 3) := by decide +kernel
theorem dX6_begin_33 : decode cX6_begin 33 = .ok (.iload_n 2, 1) := by decide +kernel
theorem dX6_begin_34 : decode cX6_begin 34 = .ok (.ifCond .le 55, 3) := by decide +kernel
theorem dX6_begin_37 : decode cX6_begin 37 = .ok (.aload_n 0, 1) := by decide +kernel
theorem dX6_begin_38 : decode cX6_begin 38 = .ok (.iload_n 3, 1) := by decide +kernel
theorem dX6_begin_39 : decode cX6_begin 39 = .ok (.iload_n 1, 1) := by decide +kernel
theorem dX6_begin_40 : decode cX6_begin 40 = .ok (.invokevirtual 267, 3) := by decide +kernel
theorem dX6_begin_43 : decode cX6_begin 43 = .ok (.ifCond .eq 40, 3) := by decide +kernel
theorem dX6_begin_46 : decode cX6_begin 46 = .ok (.aload_n 0, 1) := by decide +kernel
theorem dX6_begin_47 : decode cX6_begin 47 = .ok (.iload_n 1, 1) := by decide +kernel
theorem dX6_begin_48 : decode cX6_begin 48 = .ok (.iload_n 2, 1) := by decide +kernel
theorem dX6_begin_49 : decode cX6_begin 49 = .ok (.iconst 1, 1) := by decide +kernel
theorem dX6_begin_50 : decode cX6_begin 50 = .ok (.isub, 1) := by decide +kernel
theorem dX6_begin_51 : decode cX6_begin 51 = .ok (.invokevirtual 273, 3) := by decide +kernel
theorem dX6_begin_54 : decode cX6_begin 54 = .ok (.ifCond .ne 7, 3) := by decide +kernel
theorem dX6_begin_57 : decode cX6_begin 57 = .ok (.iconst 1, 1) := by decide +kernel
theorem dX6_begin_58 : decode cX6_begin 58 = .ok (.goto 4, 3) := by decide +kernel
theorem dX6_begin_61 : decode cX6_begin 61 = .ok (.iconst 0, 1) := by decide +kernel
theorem dX6_begin_62 : decode cX6_begin 62 = .ok (.istore 4, 2) := by decide +kernel
theorem dX6_begin_64 : decode cX6_begin 64 = .ok (.aload_n 0, 1) := by decide +kernel
theorem dX6_begin_65 : decode cX6_begin 65 = .ok (.getfield 7, 3) := by decide +kernel
theorem dX6_begin_68 : decode cX6_begin 68 = .ok (.iconst 1, 1) := by decide +kernel
theorem dX6_begin_69 : decode cX6_begin 69 = .ok (.iload_n 3, 1) := by decide +kernel
theorem dX6_begin_70 : decode cX6_begin 70 = .ok (.iadd, 1) := by decide +kernel
theorem dX6_begin_71 : decode cX6_begin 71 = .ok (.dup2, 1) := by decide +kernel
theorem dX6_begin_72 : decode cX6_begin 72 = .ok (.iaload, 1) := by decide +kernel
theorem dX6_begin_73 : decode cX6_begin 73 = .ok (.iconst 1, 1) := by decide +kernel
theorem dX6_begin_74 : decode cX6_begin 74 = .ok (.isub, 1) := by decide +kernel
theorem dX6_begin_75 : decode cX6_begin 75 = .ok (.iastore, 1) := by decide +kernel
theorem dX6_begin_76 : decode cX6_begin 76 = .ok (.iload 4, 2) := by decide +kernel
theorem dX6_begin_78 : decode cX6_begin 78 = .ok (.ifCond .eq 5, 3) := by decide +kernel
theorem dX6_begin_81 : decode cX6_begin 81 = .ok (.iload_n 3, 1) := by decide +kernel
theorem dX6_begin_82 : decode cX6_begin 82 = .ok (.ireturn, 1) := by decide +kernel
theorem dX6_begin_83 : decode cX6_begin 83 = .ok (.iinc 3 1, 3) := by decide +kernel
theorem dX6_begin_86 : decode cX6_begin 86 = .ok (.goto (-63), 3) := by decide +kernel
theorem dX6_begin_89 : decode cX6_begin 89 = .ok (.bipush (-9), 2) := by decide +kernel
theorem dX6_begin_91 : decode cX6_begin 91 = .ok (.ireturn, 1) := by decide +kernel
theorem dX6_isSeen_0 : decode cX6_isSeen 0 = .ok (.iconst 1, 1) := by decide +kernel
theorem dX6_isSeen_1 : decode cX6_isSeen 1 = .ok (.istore_n 3, 1) := by decide +kernel
theorem dX6_isSeen_2 : decode cX6_isSeen 2 = .ok (.iconst 0, 1) := by decide +kernel
theorem dX6_isSeen_3 : decode cX6_isSeen 3 = .ok (.istore 4, 2) := by decide +kernel
theorem dX6_isSeen_5 : decode cX6_isSeen 5 = .ok (.iload 4, 2) := by decide +kernel
theorem dX6_isSeen_7 : decode cX6_isSeen 7 = .ok (.aload_n 0, 1) := by decide +kernel
theorem dX6_isSeen_8 : decode cX6_isSeen 8 = .ok (.invokevirtual 177, 3) := by decide +kernel
theorem dX6_isSeen_11 : decode cX6_isSeen 11 = .ok (.if_icmp .ge 51, 3) := by decide +kernel
theorem dX6_isSeen_14 : decode cX6_isSeen 14 = .ok (.iload_n 3, 1) := by decide +kernel
theorem dX6_isSeen_15 : decode cX6_isSeen 15 = .ok (.ifCond .eq 39, 3) := by decide +kernel
theorem dX6_isSeen_18 : decode cX6_isSeen 18 = .ok (.aload_n 0, 1) := by decide +kernel
theorem dX6_isSeen_19 : decode cX6_isSeen 19 = .ok (.aload_n 0, 1) := by decide +kernel
theorem dX6_isSeen_20 : decode cX6_isSeen 20 = .ok (.iload 4, 2) := by decide +kernel
theorem dX6_isSeen_22 : decode cX6_isSeen 22 = .ok (.invokevirtual 121, 3) := by decide +kernel
theorem dX6_isSeen_25 : decode cX6_isSeen 25 = .ok (.aload_n 0, 1) := by decide +kernel
theorem dX6_isSeen_26 : decode cX6_isSeen 26 = .ok (.iload 4, 2) := by decide +kernel
theorem dX6_isSeen_28 : decode cX6_isSeen 28 = .ok (.invokevirtual 171, 3) := by decide +kernel
theorem dX6_isSeen_31 : decode cX6_isSeen 31 = .ok (.iload_n 2, 1) := by decide +kernel
theorem dX6_isSeen_32 : decode cX6_isSeen 32 = .ok (.invokevirtual 174, 3) := by decide +kernel
theorem dX6_isSeen_35 : decode cX6_isSeen 35 = .ok (.aload_n 0, 1) := by decide +kernel
theorem dX6_isSeen_36 : decode cX6_isSeen 36 = .ok (.getfield 16, 3) := by decide +kernel
theorem dX6_isSeen_39 : decode cX6_isSeen 39 = .ok (.bipush 40, 2) := by decide +kernel
theorem dX6_isSeen_41 : decode cX6_isSeen 41 = .ok (.iload_n 1, 1) := by decide +kernel
theorem dX6_isSeen_42 : decode cX6_isSeen 42 = .ok (.imul, 1) := by decide +kernel
theorem dX6_isSeen_43 : decode cX6_isSeen 43 = .ok (.iload 4, 2) := by decide +kernel
theorem dX6_isSeen_45 : decode cX6_isSeen 45 = .ok (.iadd, 1) := by decide +kernel
theorem dX6_isSeen_46 : decode cX6_isSeen 46 = .ok (.iaload, 1) := by decide +kernel
theorem dX6_isSeen_47 : decode cX6_isSeen 47 = .ok (.if_icmp .ne 7, 3) := by decide +kernel
theorem dX6_isSeen_50 : decode cX6_isSeen 50 = .ok (.iconst 1, 1) := by decide +kernel
theorem dX6_isSeen_51 : decode cX6_isSeen 51 = .ok (.goto 4, 3) := by decide +kernel
theorem dX6_isSeen_54 : decode cX6_isSeen 54 = .ok (.iconst 0, 1) := by decide +kernel
theorem dX6_isSeen_55 : decode cX6_isSeen 55 = .ok (.istore_n 3, 1) := by decide +kernel
theorem dX6_isSeen_56 : decode cX6_isSeen 56 = .ok (.iinc 4 1, 3) := by decide +kernel
theorem dX6_isSeen_59 : decode cX6_isSeen 59 = .ok (.goto (-54), 3) := by decide +kernel
theorem dX6_isSeen_62 : decode cX6_isSeen 62 = .ok (.iload_n 3, 1) := by decide +kernel
theorem dX6_isSeen_63 : decode cX6_isSeen 63 = .ok (.ireturn, 1) := by decide +kernel
theorem dX6_fog_0 : decode cX6_fog 0 = .ok (.iload_n 1, 1) := by decide +kernel
theorem dX6_fog_1 : decode cX6_fog 1 = .ok (.invokestatic 69, 3) := by decide +kernel
theorem dX6_fog_4 : decode cX6_fog 4 = .ok (.ifCond .ne 5, 3) := by decide +kernel
theorem dX6_fog_7 : decode cX6_fog 7 = .ok (.iconst (-1), 1) := by decide +kernel
theorem dX6_fog_8 : decode cX6_fog 8 = .ok (.ireturn, 1) := by decide +kernel
theorem dX6_fog_9 : decode cX6_fog 9 = .ok (.aload_n 0, 1) := by decide +kernel
theorem dX6_fog_10 : decode cX6_fog 10 = .ok (.getfield 19, 3) := by decide +kernel
theorem dX6_fog_13 : decode cX6_fog 13 = .ok (.iload_n 1, 1) := by decide +kernel
theorem dX6_fog_14 : decode cX6_fog 14 = .ok (.iaload, 1) := by decide +kernel
theorem dX6_fog_15 : decode cX6_fog 15 = .ok (.ifCond .ge 9, 3) := by decide +kernel
theorem dX6_fog_18 : decode cX6_fog 18 = .ok (.aload_n 0, 1) := by decide +kernel
theorem dX6_fog_19 : decode cX6_fog 19 = .ok (.iconst 1, 1) := by decide +kernel
theorem dX6_fog_20 : decode cX6_fog 20 = .ok (.invokevirtual 73, 3) := by decide +kernel
theorem dX6_fog_23 : decode cX6_fog 23 = .ok (.ireturn, 1) := by decide +kernel
theorem dX6_fog_24 : decode cX6_fog 24 = .ok (.aload_n 0, 1) := by decide +kernel
theorem dX6_fog_25 : decode cX6_fog 25 = .ok (.getfield 19, 3) := by decide +kernel
theorem dX6_fog_28 : decode cX6_fog 28 = .ok (.iload_n 1, 1) := by decide +kernel
theorem dX6_fog_29 : decode cX6_fog 29 = .ok (.iaload, 1) := by decide +kernel
theorem dX6_fog_30 : decode cX6_fog 30 = .ok (.aload_n 0, 1) := by decide +kernel
theorem dX6_fog_31 : decode cX6_fog 31 = .ok (.invokevirtual 177, 3) := by decide +kernel
theorem dX6_fog_34 : decode cX6_fog 34 = .ok (.if_icmp .eq 9, 3) := by decide +kernel
theorem dX6_fog_37 : decode cX6_fog 37 = .ok (.aload_n 0, 1) := by decide +kernel
theorem dX6_fog_38 : decode cX6_fog 38 = .ok (.iconst 5, 1) := by decide +kernel
theorem dX6_fog_39 : decode cX6_fog 39 = .ok (.invokevirtual 73, 3) := by decide +kernel
theorem dX6_fog_42 : decode cX6_fog 42 = .ok (.ireturn, 1) := by decide +kernel
theorem dX6_fog_43 : decode cX6_fog 43 = .ok (.iconst 0, 1) := by decide +kernel
theorem dX6_fog_44 : decode cX6_fog 44 = .ok (.istore_n 2, 1) := by decide +kernel
theorem dX6_fog_45 : decode cX6_fog 45 = .ok (.bipush (-9), 2) := by decide +kernel
theorem dX6_fog_47 : decode cX6_fog 47 = .ok (.istore_n 3, 1) := by decide +kernel
theorem dX6_fog_48 : decode cX6_fog 48 = .ok (.iconst 0, 1) := by decide +kernel
theorem dX6_fog_49 : decode cX6_fog 49 = .ok (.istore 4, 2) := by decide +kernel
theorem dX6_fog_51 : decode cX6_fog 51 = .ok (.iload 4, 2) := by decide +kernel
theorem dX6_fog_53 : decode cX6_fog 53 = .ok (.bipush 32, 2) := by decide +kernel
theorem dX6_fog_55 : decode cX6_fog 55 = .ok (.if_icmp .ge 47, 3) := by decide +kernel
theorem dX6_fog_58 : decode cX6_fog 58 = .ok (.aload_n 0, 1) := by decide +kernel
theorem dX6_fog_59 : decode cX6_fog 59 = .ok (.iload_n 1, 1) := by decide +kernel
theorem dX6_fog_60 : decode cX6_fog 60 = .ok (.iload 4, 2) := by decide +kernel
theorem dX6_fog_62 : decode cX6_fog 62 = .ok (.invokevirtual 276, 3) := by decide +kernel
theorem dX6_fog_65 : decode cX6_fog 65 = .ok (.istore 5, 2) := by decide +kernel
theorem dX6_fog_67 : decode cX6_fog 67 = .ok (.iload 5, 2) := by decide +kernel
theorem dX6_fog_69 : decode cX6_fog 69 = .ok (.ifCond .eq 12, 3) := by decide +kernel
theorem dX6_fog_72 : decode cX6_fog 72 = .ok (.iload_n 2, 1) := by decide +kernel
theorem dX6_fog_73 : decode cX6_fog 73 = .ok (.ifCond .ne 8, 3) := by decide +kernel
theorem dX6_fog_76 : decode cX6_fog 76 = .ok (.iload 4, 2) := by decide +kernel
theorem dX6_fog_78 : decode cX6_fog 78 = .ok (.goto 4, 3) := by decide +kernel
theorem dX6_fog_81 : decode cX6_fog 81 = .ok (.iload_n 3, 1) := by decide +kernel
theorem dX6_fog_82 : decode cX6_fog 82 = .ok (.istore_n 3, 1) := by decide +kernel
theorem dX6_fog_83 : decode cX6_fog 83 = .ok (.iload_n 2, 1) := by decide +kernel
theorem dX6_fog_84 : decode cX6_fog 84 = .ok (.iload 5, 2) := by decide +kernel
theorem dX6_fog_86 : decode cX6_fog 86 = .ok (.ifCond .eq 7, 3) := by decide +kernel
theorem dX6_fog_89 : decode cX6_fog 89 = .ok (.iconst 1, 1) := by decide +kernel
theorem dX6_fog_90 : decode cX6_fog 90 = .ok (.goto 4, 3) := by decide +kernel
theorem dX6_fog_93 : decode cX6_fog 93 = .ok (.iconst 0, 1) := by decide +kernel
theorem dX6_fog_94 : decode cX6_fog 94 = .ok (.iadd, 1) := by decide +kernel
theorem dX6_fog_95 : decode cX6_fog 95 = .ok (.istore_n 2, 1) := by decide +kernel
theorem dX6_fog_96 : decode cX6_fog 96 = .ok (.iinc 4 1, 3) := by decide +kernel
theorem dX6_fog_99 : decode cX6_fog 99 = .ok (.goto (-48), 3) := by decide +kernel
theorem dX6_fog_102 : decode cX6_fog 102 = .ok (.aload_n 0, 1) := by decide +kernel
theorem dX6_fog_103 : decode cX6_fog 103 = .ok (.iload_n 3, 1) := by decide +kernel
theorem dX6_fog_104 : decode cX6_fog 104 = .ok (.iload_n 2, 1) := by decide +kernel
theorem dX6_fog_105 : decode cX6_fog 105 = .ok (.invokevirtual 81, 3) := by decide +kernel
theorem dX6_fog_108 : decode cX6_fog 108 = .ok (.ireturn, 1) := by decide +kernel
theorem dX6_kinds_0 : decode cX6_kinds 0 = .ok (.aload_n 0, 1) := by decide +kernel
theorem dX6_kinds_1 : decode cX6_kinds 1 = .ok (.iload_n 1, 1) := by decide +kernel
theorem dX6_kinds_2 : decode cX6_kinds 2 = .ok (.iload_n 2, 1) := by decide +kernel
theorem dX6_kinds_3 : decode cX6_kinds 3 = .ok (.invokevirtual 193, 3) := by decide +kernel
theorem dX6_kinds_6 : decode cX6_kinds 6 = .ok (.ifCond .eq 10, 3) := by decide +kernel
theorem dX6_kinds_9 : decode cX6_kinds 9 = .ok (.iload_n 3, 1) := by decide +kernel
theorem dX6_kinds_10 : decode cX6_kinds 10 = .ok (.invokestatic 69, 3) := by decide +kernel
theorem dX6_kinds_13 : decode cX6_kinds 13 = .ok (.ifCond .ne 5, 3) := by decide +kernel
theorem dX6_kinds_16 : decode cX6_kinds 16 = .ok (.iconst (-1), 1) := by decide +kernel
theorem dX6_kinds_17 : decode cX6_kinds 17 = .ok (.ireturn, 1) := by decide +kernel
theorem dX6_kinds_18 : decode cX6_kinds 18 = .ok (.aload_n 0, 1) := by decide +kernel
theorem dX6_kinds_19 : decode cX6_kinds 19 = .ok (.iload_n 1, 1) := by decide +kernel
theorem dX6_kinds_20 : decode cX6_kinds 20 = .ok (.iload_n 2, 1) := by decide +kernel
theorem dX6_kinds_21 : decode cX6_kinds 21 = .ok (.invokevirtual 151, 3) := by decide +kernel
theorem dX6_kinds_24 : decode cX6_kinds 24 = .ok (.ifCond .ne 9, 3) := by decide +kernel
theorem dX6_kinds_27 : decode cX6_kinds 27 = .ok (.aload_n 0, 1) := by decide +kernel
theorem dX6_kinds_28 : decode cX6_kinds 28 = .ok (.iconst 2, 1) := by decide +kernel
theorem dX6_kinds_29 : decode cX6_kinds 29 = .ok (.invokevirtual 73, 3) := by decide +kernel
theorem dX6_kinds_32 : decode cX6_kinds 32 = .ok (.ireturn, 1) := by decide +kernel
theorem dX6_kinds_33 : decode cX6_kinds 33 = .ok (.aload_n 0, 1) := by decide +kernel
theorem dX6_kinds_34 : decode cX6_kinds 34 = .ok (.getfield 19, 3) := by decide +kernel
theorem dX6_kinds_37 : decode cX6_kinds 37 = .ok (.iload_n 3, 1) := by decide +kernel
theorem dX6_kinds_38 : decode cX6_kinds 38 = .ok (.iaload, 1) := by decide +kernel
theorem dX6_kinds_39 : decode cX6_kinds 39 = .ok (.ifCond .ge 9, 3) := by decide +kernel
theorem dX6_kinds_42 : decode cX6_kinds 42 = .ok (.aload_n 0, 1) := by decide +kernel
theorem dX6_kinds_43 : decode cX6_kinds 43 = .ok (.iconst 1, 1) := by decide +kernel
theorem dX6_kinds_44 : decode cX6_kinds 44 = .ok (.invokevirtual 73, 3) := by decide +kernel
theorem dX6_kinds_47 : decode cX6_kinds 47 = .ok (.ireturn, 1) := by decide +kernel
theorem dX6_kinds_48 : decode cX6_kinds 48 = .ok (.aload_n 0, 1) := by decide +kernel
theorem dX6_kinds_49 : decode cX6_kinds 49 = .ok (.getfield 19, 3) := by decide +kernel
theorem dX6_kinds_52 : decode cX6_kinds 52 = .ok (.iload_n 3, 1) := by decide +kernel
theorem dX6_kinds_53 : decode cX6_kinds 53 = .ok (.iaload, 1) := by decide +kernel
theorem dX6_kinds_54 : decode cX6_kinds 54 = .ok (.aload_n 0, 1) := by decide +kernel
theorem dX6_kinds_55 : decode cX6_kinds 55 = .ok (.invokevirtual 177, 3) := by decide +kernel
theorem dX6_kinds_58 : decode cX6_kinds 58 = .ok (.if_icmp .eq 9, 3) := by decide +kernel
theorem dX6_kinds_61 : decode cX6_kinds 61 = .ok (.aload_n 0, 1) := by decide +kernel
theorem dX6_kinds_62 : decode cX6_kinds 62 = .ok (.iconst 5, 1) := by decide +kernel
theorem dX6_kinds_63 : decode cX6_kinds 63 = .ok (.invokevirtual 73, 3) := by decide +kernel
theorem dX6_kinds_66 : decode cX6_kinds 66 = .ok (.ireturn, 1) := by decide +kernel
theorem dX6_kinds_67 : decode cX6_kinds 67 = .ok (.aload_n 0, 1) := by decide +kernel
theorem dX6_kinds_68 : decode cX6_kinds 68 = .ok (.iload_n 1, 1) := by decide +kernel
theorem dX6_kinds_69 : decode cX6_kinds 69 = .ok (.iload_n 2, 1) := by decide +kernel
theorem dX6_kinds_70 : decode cX6_kinds 70 = .ok (.invokevirtual 133, 3) := by decide +kernel
theorem dX6_kinds_73 : decode cX6_kinds 73 = .ok (.istore 4, 2) := by decide +kernel
theorem dX6_kinds_75 : decode cX6_kinds 75 = .ok (.iconst 0, 1) := by decide +kernel
theorem dX6_kinds_76 : decode cX6_kinds 76 = .ok (.istore 5, 2) := by decide +kernel
theorem dX6_kinds_78 : decode cX6_kinds 78 = .ok (.iconst 0, 1) := by decide +kernel
theorem dX6_kinds_79 : decode cX6_kinds 79 = .ok (.istore 6, 2) := by decide +kernel
theorem dX6_kinds_81 : decode cX6_kinds 81 = .ok (.iload 6, 2) := by decide +kernel
theorem dX6_kinds_83 : decode cX6_kinds 83 = .ok (.bipush 6, 2) := by decide +kernel
theorem dX6_kinds_85 : decode cX6_kinds 85 = .ok (.if_icmp .ge 47, 3) := by decide +kernel
theorem dX6_kinds_88 : decode cX6_kinds 88 = .ok (.aload_n 0, 1) := by decide +kernel
theorem dX6_kinds_89 : decode cX6_kinds 89 = .ok (.getfield 7, 3) := by decide +kernel
theorem dX6_kinds_92 : decode cX6_kinds 92 = .ok (.bipush 6, 2) := by decide +kernel
theorem dX6_kinds_94 : decode cX6_kinds 94 = .ok (.bipush 6, 2) := by decide +kernel
theorem dX6_kinds_96 : decode cX6_kinds 96 = .ok (.iload_n 1, 1) := by decide +kernel
theorem dX6_kinds_97 : decode cX6_kinds 97 = .ok (.imul, 1) := by decide +kernel
theorem dX6_kinds_98 : decode cX6_kinds 98 = .ok (.iadd, 1) := by decide +kernel
theorem dX6_kinds_99 : decode cX6_kinds 99 = .ok (.iload_n 2, 1) := by decide +kernel
theorem dX6_kinds_100 : decode cX6_kinds 100 = .ok (.iadd, 1) := by decide +kernel
theorem dX6_kinds_101 : decode cX6_kinds 101 = .ok (.iload 6, 2) := by decide +kernel
theorem dX6_kinds_103 : decode cX6_kinds 103 = .ok (.iastore, 1) := by decide +kernel
theorem dX6_kinds_104 : decode cX6_kinds 104 = .ok (.iload 5, 2) := by decide +kernel
theorem dX6_kinds_106 : decode cX6_kinds 106 = .ok (.aload_n 0, 1) := by decide +kernel
theorem dX6_kinds_107 : decode cX6_kinds 107 = .ok (.iload_n 3, 1) := by decide +kernel
theorem dX6_kinds_108 : decode cX6_kinds 108 = .ok (.iconst 0, 1) := by decide +kernel
theorem dX6_kinds_109 : decode cX6_kinds 109 = .ok (.invokevirtual 276, 3) := by decide +kernel
theorem dX6_kinds_112 : decode cX6_kinds 112 = .ok (.ifCond .eq 10, 3) := by decide +kernel
theorem dX6_kinds_115 : decode cX6_kinds 115 = .ok (.iconst 1, 1) := by decide +kernel
theorem dX6_kinds_116 : decode cX6_kinds 116 = .ok (.iload 6, 2) := by decide +kernel
theorem dX6_kinds_118 : decode cX6_kinds 118 = .ok (.ishl, 1) := by decide +kernel
theorem dX6_kinds_119 : decode cX6_kinds 119 = .ok (.goto 4, 3) := by decide +kernel
theorem dX6_kinds_122 : decode cX6_kinds 122 = .ok (.iconst 0, 1) := by decide +kernel
theorem dX6_kinds_123 : decode cX6_kinds 123 = .ok (.ior, 1) := by decide +kernel
theorem dX6_kinds_124 : decode cX6_kinds 124 = .ok (.istore 5, 2) := by decide +kernel
theorem dX6_kinds_126 : decode cX6_kinds 126 = .ok (.iinc 6 1, 3) := by decide +kernel
theorem dX6_kinds_129 : decode cX6_kinds 129 = .ok (.goto (-48), 3) := by decide +kernel
theorem dX6_kinds_132 : decode cX6_kinds 132 = .ok (.aload_n 0, 1) := by decide +kernel
theorem dX6_kinds_133 : decode cX6_kinds 133 = .ok (.getfield 7, 3) := by decide +kernel
theorem dX6_kinds_136 : decode cX6_kinds 136 = .ok (.bipush 6, 2) := by decide +kernel
theorem dX6_kinds_138 : decode cX6_kinds 138 = .ok (.bipush 6, 2) := by decide +kernel
theorem dX6_kinds_140 : decode cX6_kinds 140 = .ok (.iload_n 1, 1) := by decide +kernel
theorem dX6_kinds_141 : decode cX6_kinds 141 = .ok (.imul, 1) := by decide +kernel
theorem dX6_kinds_142 : decode cX6_kinds 142 = .ok (.iadd, 1) := by decide +kernel
theorem dX6_kinds_143 : decode cX6_kinds 143 = .ok (.iload_n 2, 1) := by decide +kernel
theorem dX6_kinds_144 : decode cX6_kinds 144 = .ok (.iadd, 1) := by decide +kernel
theorem dX6_kinds_145 : decode cX6_kinds 145 = .ok (.iload 4, 2) := by decide +kernel
theorem dX6_kinds_147 : decode cX6_kinds 147 = .ok (.iastore, 1) := by decide +kernel
theorem dX6_kinds_148 : decode cX6_kinds 148 = .ok (.iload 5, 2) := by decide +kernel
theorem dX6_kinds_150 : decode cX6_kinds 150 = .ok (.ireturn, 1) := by decide +kernel
theorem dX6_odds_0 : decode cX6_odds 0 = .ok (.aload_n 0, 1) := by decide +kernel
theorem dX6_odds_1 : decode cX6_odds 1 = .ok (.iload_n 1, 1) := by decide +kernel
theorem dX6_odds_2 : decode cX6_odds 2 = .ok (.iload_n 2, 1) := by decide +kernel
theorem dX6_odds_3 : decode cX6_odds 3 = .ok (.invokevirtual 193, 3) := by decide +kernel
theorem dX6_odds_6 : decode cX6_odds 6 = .ok (.ifCond .ne 5, 3) := by decide +kernel
theorem dX6_odds_9 : decode cX6_odds 9 = .ok (.iconst (-1), 1) := by decide +kernel
theorem dX6_odds_10 : decode cX6_odds 10 = .ok (.ireturn, 1) := by decide +kernel
theorem dX6_odds_11 : decode cX6_odds 11 = .ok (.aload_n 0, 1) := by decide +kernel
theorem dX6_odds_12 : decode cX6_odds 12 = .ok (.iload_n 1, 1) := by decide +kernel
theorem dX6_odds_13 : decode cX6_odds 13 = .ok (.iload_n 2, 1) := by decide +kernel
theorem dX6_odds_14 : decode cX6_odds 14 = .ok (.invokevirtual 151, 3) := by decide +kernel
theorem dX6_odds_17 : decode cX6_odds 17 = .ok (.ifCond .ne 9, 3) := by decide +kernel
theorem dX6_odds_20 : decode cX6_odds 20 = .ok (.aload_n 0, 1) := by decide +kernel
theorem dX6_odds_21 : decode cX6_odds 21 = .ok (.iconst 2, 1) := by decide +kernel
theorem dX6_odds_22 : decode cX6_odds 22 = .ok (.invokevirtual 73, 3) := by decide +kernel
theorem dX6_odds_25 : decode cX6_odds 25 = .ok (.ireturn, 1) := by decide +kernel
theorem dX6_odds_26 : decode cX6_odds 26 = .ok (.aload_n 0, 1) := by decide +kernel
theorem dX6_odds_27 : decode cX6_odds 27 = .ok (.iload_n 1, 1) := by decide +kernel
theorem dX6_odds_28 : decode cX6_odds 28 = .ok (.iload_n 2, 1) := by decide +kernel
theorem dX6_odds_29 : decode cX6_odds 29 = .ok (.invokevirtual 159, 3) := by decide +kernel
theorem dX6_odds_32 : decode cX6_odds 32 = .ok (.invokestatic 162, 3) := by decide +kernel
theorem dX6_odds_35 : decode cX6_odds 35 = .ok (.istore_n 3, 1) := by decide +kernel
theorem dX6_odds_36 : decode cX6_odds 36 = .ok (.aload_n 0, 1) := by decide +kernel
theorem dX6_odds_37 : decode cX6_odds 37 = .ok (.iload_n 3, 1) := by decide +kernel
theorem dX6_odds_38 : decode cX6_odds 38 = .ok (.iconst 5, 1) := by decide +kernel
theorem dX6_odds_39 : decode cX6_odds 39 = .ok (.if_icmp .ne 7, 3) := by decide +kernel
theorem dX6_odds_42 : decode cX6_odds 42 = .ok (.lconst 1, 1) := by decide +kernel
theorem dX6_odds_43 : decode cX6_odds 43 = .ok (.goto 5, 3) := by decide +kernel
theorem dX6_odds_46 : decode cX6_odds 46 = .ok (.iload_n 3, 1) := by decide +kernel
theorem dX6_odds_47 : decode cX6_odds 47 = .ok (.i2l, 1) := by decide +kernel
theorem dX6_odds_48 : decode cX6_odds 48 = .ok (.putfield 279, 3) := by decide +kernel
theorem dX6_odds_51 : decode cX6_odds 51 = .ok (.aload_n 0, 1) := by decide +kernel
theorem dX6_odds_52 : decode cX6_odds 52 = .ok (.iload_n 3, 1) := by decide +kernel
theorem dX6_odds_53 : decode cX6_odds 53 = .ok (.iconst 5, 1) := by decide +kernel
theorem dX6_odds_54 : decode cX6_odds 54 = .ok (.if_icmp .eq 7, 3) := by decide +kernel
theorem dX6_odds_57 : decode cX6_odds 57 = .ok (.iload_n 3, 1) := by decide +kernel
theorem dX6_odds_58 : decode cX6_odds 58 = .ok (.ifCond .ne 7, 3) := by decide +kernel
theorem dX6_odds_61 : decode cX6_odds 61 = .ok (.lconst 1, 1) := by decide +kernel
theorem dX6_odds_62 : decode cX6_odds 62 = .ok (.goto 6, 3) := by decide +kernel
theorem dX6_odds_65 : decode cX6_odds 65 = .ok (.ldc2_w 61, 3) := by decide +kernel
theorem dX6_odds_68 : decode cX6_odds 68 = .ok (.putfield 34, 3) := by decide +kernel
theorem dX6_odds_71 : decode cX6_odds 71 = .ok (.iconst 1, 1) := by decide +kernel
theorem dX6_odds_72 : decode cX6_odds 72 = .ok (.ireturn, 1) := by decide +kernel
theorem dX6_lots_0 : decode cX6_lots 0 = .ok (.iload_n 1, 1) := by decide +kernel
theorem dX6_lots_1 : decode cX6_lots 1 = .ok (.i2l, 1) := by decide +kernel
theorem dX6_lots_2 : decode cX6_lots 2 = .ok (.lconst 1, 1) := by decide +kernel
theorem dX6_lots_3 : decode cX6_lots 3 = .ok (.ldc2_w 282, 3) := by decide +kernel
theorem dX6_lots_6 : decode cX6_lots 6 = .ok (.invokestatic 63, 3) := by decide +kernel
theorem dX6_lots_9 : decode cX6_lots 9 = .ok (.ifCond .eq 15, 3) := by decide +kernel
theorem dX6_lots_12 : decode cX6_lots 12 = .ok (.iload_n 2, 1) := by decide +kernel
theorem dX6_lots_13 : decode cX6_lots 13 = .ok (.i2l, 1) := by decide +kernel
theorem dX6_lots_14 : decode cX6_lots 14 = .ok (.lconst 1, 1) := by decide +kernel
theorem dX6_lots_15 : decode cX6_lots 15 = .ok (.ldc2_w 284, 3) := by decide +kernel
theorem dX6_lots_18 : decode cX6_lots 18 = .ok (.invokestatic 63, 3) := by decide +kernel
theorem dX6_lots_21 : decode cX6_lots 21 = .ok (.ifCond .ne 5, 3) := by decide +kernel
theorem dX6_lots_24 : decode cX6_lots 24 = .ok (.iconst (-1), 1) := by decide +kernel
theorem dX6_lots_25 : decode cX6_lots 25 = .ok (.ireturn, 1) := by decide +kernel
theorem dX6_lots_26 : decode cX6_lots 26 = .ok (.aload_n 0, 1) := by decide +kernel
theorem dX6_lots_27 : decode cX6_lots 27 = .ok (.invokevirtual 228, 3) := by decide +kernel
theorem dX6_lots_30 : decode cX6_lots 30 = .ok (.ifCond .eq 6, 3) := by decide +kernel
theorem dX6_lots_33 : decode cX6_lots 33 = .ok (.bipush (-4), 2) := by decide +kernel
theorem dX6_lots_35 : decode cX6_lots 35 = .ok (.ireturn, 1) := by decide +kernel
theorem dX6_lots_36 : decode cX6_lots 36 = .ok (.aload_n 0, 1) := by decide +kernel
theorem dX6_lots_37 : decode cX6_lots 37 = .ok (.getfield 115, 3) := by decide +kernel
theorem dX6_lots_40 : decode cX6_lots 40 = .ok (.iload_n 1, 1) := by decide +kernel
theorem dX6_lots_41 : decode cX6_lots 41 = .ok (.iadd, 1) := by decide +kernel
theorem dX6_lots_42 : decode cX6_lots 42 = .ok (.bipush 40, 2) := by decide +kernel
theorem dX6_lots_44 : decode cX6_lots 44 = .ok (.if_icmp .le 6, 3) := by decide +kernel
theorem dX6_lots_47 : decode cX6_lots 47 = .ok (.bipush (-2), 2) := by decide +kernel
theorem dX6_lots_49 : decode cX6_lots 49 = .ok (.ireturn, 1) := by decide +kernel
theorem dX6_lots_50 : decode cX6_lots 50 = .ok (.iload_n 2, 1) := by decide +kernel
theorem dX6_lots_51 : decode cX6_lots 51 = .ok (.i2l, 1) := by decide +kernel
theorem dX6_lots_52 : decode cX6_lots 52 = .ok (.lstore_n 3, 1) := by decide +kernel
theorem dX6_lots_53 : decode cX6_lots 53 = .ok (.iconst 0, 1) := by decide +kernel
theorem dX6_lots_54 : decode cX6_lots 54 = .ok (.istore 5, 2) := by decide +kernel
theorem dX6_lots_56 : decode cX6_lots 56 = .ok (.iconst 0, 1) := by decide +kernel
theorem dX6_lots_57 : decode cX6_lots 57 = .ok (.istore 6, 2) := by decide +kernel
theorem dX6_lots_59 : decode cX6_lots 59 = .ok (.iload 6, 2) := by decide +kernel
theorem dX6_lots_61 : decode cX6_lots 61 = .ok (.iload_n 1, 1) := by decide +kernel
theorem dX6_lots_62 : decode cX6_lots 62 = .ok (.if_icmp .ge 74, 3) := by decide +kernel
theorem dX6_lots_65 : decode cX6_lots 65 = .ok (.lload_n 3, 1) := by decide +kernel
theorem dX6_lots_66 : decode cX6_lots 66 = .ok (.ldc2_w 286, 3) := by decide +kernel
theorem dX6_lots_69 : decode cX6_lots 69 = .ok (.lmul, 1) := by decide +kernel
theorem dX6_lots_70 : decode cX6_lots 70 = .ok (.ldc2_w 288, 3) := by decide +kernel
theorem dX6_lots_73 : decode cX6_lots 73 = .ok (.lrem, 1) := by decide +kernel
theorem dX6_lots_74 : decode cX6_lots 74 = .ok (.lstore_n 3, 1) := by decide +kernel
theorem dX6_lots_75 : decode cX6_lots 75 = .ok (.lload_n 3, 1) := by decide +kernel
theorem dX6_lots_76 : decode cX6_lots 76 = .ok (.aload_n 0, 1) := by decide +kernel
theorem dX6_lots_77 : decode cX6_lots 77 = .ok (.getfield 7, 3) := by decide +kernel
theorem dX6_lots_80 : decode cX6_lots 80 = .ok (.iconst 0, 1) := by decide +kernel
theorem dX6_lots_81 : decode cX6_lots 81 = .ok (.iaload, 1) := by decide +kernel
theorem dX6_lots_82 : decode cX6_lots 82 = .ok (.i2l, 1) := by decide +kernel
theorem dX6_lots_83 : decode cX6_lots 83 = .ok (.lrem, 1) := by decide +kernel
theorem dX6_lots_84 : decode cX6_lots 84 = .ok (.l2i, 1) := by decide +kernel
theorem dX6_lots_85 : decode cX6_lots 85 = .ok (.istore 7, 2) := by decide +kernel
theorem dX6_lots_87 : decode cX6_lots 87 = .ok (.aload_n 0, 1) := by decide +kernel
theorem dX6_lots_88 : decode cX6_lots 88 = .ok (.iload 7, 2) := by decide +kernel
theorem dX6_lots_90 : decode cX6_lots 90 = .ok (.invokevirtual 216, 3) := by decide +kernel
theorem dX6_lots_93 : decode cX6_lots 93 = .ok (.ifCond .eq 37, 3) := by decide +kernel
theorem dX6_lots_96 : decode cX6_lots 96 = .ok (.aload_n 0, 1) := by decide +kernel
theorem dX6_lots_97 : decode cX6_lots 97 = .ok (.invokevirtual 219, 3) := by decide +kernel
theorem dX6_lots_100 : decode cX6_lots 100 = .ok (.aload_n 0, 1) := by decide +kernel
theorem dX6_lots_101 : decode cX6_lots 101 = .ok (.iconst 0, 1) := by decide +kernel
theorem dX6_lots_102 : decode cX6_lots 102 = .ok (.iload 7, 2) := by decide +kernel
theorem dX6_lots_104 : decode cX6_lots 104 = .ok (.lload_n 3, 1) := by decide +kernel
theorem dX6_lots_105 : decode cX6_lots 105 = .ok (.ldc2_w 290, 3) := by decide +kernel
theorem dX6_lots_108 : decode cX6_lots 108 = .ok (.ldiv, 1) := by decide +kernel
theorem dX6_lots_109 : decode cX6_lots 109 = .ok (.ldc2_w 196, 3) := by decide +kernel
theorem dX6_lots_112 : decode cX6_lots 112 = .ok (.lrem, 1) := by decide +kernel
theorem dX6_lots_113 : decode cX6_lots 113 = .ok (.l2i, 1) := by decide +kernel
theorem dX6_lots_114 : decode cX6_lots 114 = .ok (.lload_n 3, 1) := by decide +kernel
theorem dX6_lots_115 : decode cX6_lots 115 = .ok (.ldc2_w 292, 3) := by decide +kernel
theorem dX6_lots_118 : decode cX6_lots 118 = .ok (.ldiv, 1) := by decide +kernel
theorem dX6_lots_119 : decode cX6_lots 119 = .ok (.ldc2_w 294, 3) := by decide +kernel
theorem dX6_lots_122 : decode cX6_lots 122 = .ok (.lrem, 1) := by decide +kernel
theorem dX6_lots_123 : decode cX6_lots 123 = .ok (.l2i, 1) := by decide +kernel
theorem dX6_lots_124 : decode cX6_lots 124 = .ok (.invokevirtual 104, 3) := by decide +kernel
theorem dX6_lots_127 : decode cX6_lots 127 = .ok (.iinc 5 1, 3) := by decide +kernel
theorem dX6_lots_130 : decode cX6_lots 130 = .ok (.iinc 6 1, 3) := by decide +kernel
theorem dX6_lots_133 : decode cX6_lots 133 = .ok (.goto (-74), 3) := by decide +kernel
theorem dX6_lots_136 : decode cX6_lots 136 = .ok (.iload 5, 2) := by decide +kernel
theorem dX6_lots_138 : decode cX6_lots 138 = .ok (.ireturn, 1) := by decide +kernel
theorem dX6_asked_0 : decode cX6_asked 0 = .ok (.aload_n 0, 1) := by decide +kernel
theorem dX6_asked_1 : decode cX6_asked 1 = .ok (.getfield 58, 3) := by decide +kernel
theorem dX6_asked_4 : decode cX6_asked 4 = .ok (.ireturn, 1) := by decide +kernel
theorem dX6_upper_0 : decode cX6_upper 0 = .ok (.aload_n 0, 1) := by decide +kernel
theorem dX6_upper_1 : decode cX6_upper 1 = .ok (.getfield 279, 3) := by decide +kernel
theorem dX6_upper_4 : decode cX6_upper 4 = .ok (.lreturn, 1) := by decide +kernel
theorem dX6_lower_0 : decode cX6_lower 0 = .ok (.aload_n 0, 1) := by decide +kernel
theorem dX6_lower_1 : decode cX6_lower 1 = .ok (.getfield 34, 3) := by decide +kernel
theorem dX6_lower_4 : decode cX6_lower 4 = .ok (.lreturn, 1) := by decide +kernel
theorem dX6_kindsMany_0 : decode cX6_kindsMany 0 = .ok (.iconst 0, 1) := by decide +kernel
theorem dX6_kindsMany_1 : decode cX6_kindsMany 1 = .ok (.istore_n 2, 1) := by decide +kernel
theorem dX6_kindsMany_2 : decode cX6_kindsMany 2 = .ok (.iconst 0, 1) := by decide +kernel
theorem dX6_kindsMany_3 : decode cX6_kindsMany 3 = .ok (.istore_n 3, 1) := by decide +kernel
theorem dX6_kindsMany_4 : decode cX6_kindsMany 4 = .ok (.iload_n 3, 1) := by decide +kernel
theorem dX6_kindsMany_5 : decode cX6_kindsMany 5 = .ok (.aload_n 0, 1) := by decide +kernel
theorem dX6_kindsMany_6 : decode cX6_kindsMany 6 = .ok (.getfield 7, 3) := by decide +kernel
theorem dX6_kindsMany_9 : decode cX6_kindsMany 9 = .ok (.iconst 0, 1) := by decide +kernel
theorem dX6_kindsMany_10 : decode cX6_kindsMany 10 = .ok (.iaload, 1) := by decide +kernel
theorem dX6_kindsMany_11 : decode cX6_kindsMany 11 = .ok (.if_icmp .ge 72, 3) := by decide +kernel
theorem dX6_kindsMany_14 : decode cX6_kindsMany 14 = .ok (.iconst 0, 1) := by decide +kernel
theorem dX6_kindsMany_15 : decode cX6_kindsMany 15 = .ok (.istore 4, 2) := by decide +kernel
theorem dX6_kindsMany_17 : decode cX6_kindsMany 17 = .ok (.iload 4, 2) := by decide +kernel
theorem dX6_kindsMany_19 : decode cX6_kindsMany 19 = .ok (.aload_n 0, 1) := by decide +kernel
theorem dX6_kindsMany_20 : decode cX6_kindsMany 20 = .ok (.getfield 7, 3) := by decide +kernel
theorem dX6_kindsMany_23 : decode cX6_kindsMany 23 = .ok (.iconst 1, 1) := by decide +kernel
theorem dX6_kindsMany_24 : decode cX6_kindsMany 24 = .ok (.iload_n 3, 1) := by decide +kernel
theorem dX6_kindsMany_25 : decode cX6_kindsMany 25 = .ok (.iadd, 1) := by decide +kernel
theorem dX6_kindsMany_26 : decode cX6_kindsMany 26 = .ok (.iaload, 1) := by decide +kernel
theorem dX6_kindsMany_27 : decode cX6_kindsMany 27 = .ok (.if_icmp .ge 50, 3) := by decide +kernel
theorem dX6_kindsMany_30 : decode cX6_kindsMany 30 = .ok (.iload_n 2, 1) := by decide +kernel
theorem dX6_kindsMany_31 : decode cX6_kindsMany 31 = .ok (.iload_n 1, 1) := by decide +kernel
theorem dX6_kindsMany_32 : decode cX6_kindsMany 32 = .ok (.ifCond .eq 19, 3) := by decide +kernel
theorem dX6_kindsMany_35 : decode cX6_kindsMany 35 = .ok (.aload_n 0, 1) := by decide +kernel
theorem dX6_kindsMany_36 : decode cX6_kindsMany 36 = .ok (.iload_n 3, 1) := by decide +kernel
theorem dX6_kindsMany_37 : decode cX6_kindsMany 37 = .ok (.iload 4, 2) := by decide +kernel
theorem dX6_kindsMany_39 : decode cX6_kindsMany 39 = .ok (.invokevirtual 133, 3) := by decide +kernel
theorem dX6_kindsMany_42 : decode cX6_kindsMany 42 = .ok (.invokestatic 127, 3) := by decide +kernel
theorem dX6_kindsMany_45 : decode cX6_kindsMany 45 = .ok (.ifCond .eq 23, 3) := by decide +kernel
theorem dX6_kindsMany_48 : decode cX6_kindsMany 48 = .ok (.goto 16, 3) := by decide +kernel
theorem dX6_kindsMany_51 : decode cX6_kindsMany 51 = .ok (.aload_n 0, 1) := by decide +kernel
theorem dX6_kindsMany_52 : decode cX6_kindsMany 52 = .ok (.iload_n 3, 1) := by decide +kernel
theorem dX6_kindsMany_53 : decode cX6_kindsMany 53 = .ok (.iload 4, 2) := by decide +kernel
theorem dX6_kindsMany_55 : decode cX6_kindsMany 55 = .ok (.invokevirtual 133, 3) := by decide +kernel
theorem dX6_kindsMany_58 : decode cX6_kindsMany 58 = .ok (.invokestatic 130, 3) := by decide +kernel
theorem dX6_kindsMany_61 : decode cX6_kindsMany 61 = .ok (.ifCond .eq 7, 3) := by decide +kernel
theorem dX6_kindsMany_64 : decode cX6_kindsMany 64 = .ok (.iconst 1, 1) := by decide +kernel
theorem dX6_kindsMany_65 : decode cX6_kindsMany 65 = .ok (.goto 4, 3) := by decide +kernel
theorem dX6_kindsMany_68 : decode cX6_kindsMany 68 = .ok (.iconst 0, 1) := by decide +kernel
theorem dX6_kindsMany_69 : decode cX6_kindsMany 69 = .ok (.iadd, 1) := by decide +kernel
theorem dX6_kindsMany_70 : decode cX6_kindsMany 70 = .ok (.istore_n 2, 1) := by decide +kernel
theorem dX6_kindsMany_71 : decode cX6_kindsMany 71 = .ok (.iinc 4 1, 3) := by decide +kernel
theorem dX6_kindsMany_74 : decode cX6_kindsMany 74 = .ok (.goto (-57), 3) := by decide +kernel
theorem dX6_kindsMany_77 : decode cX6_kindsMany 77 = .ok (.iinc 3 1, 3) := by decide +kernel
theorem dX6_kindsMany_80 : decode cX6_kindsMany 80 = .ok (.goto (-76), 3) := by decide +kernel
theorem dX6_kindsMany_83 : decode cX6_kindsMany 83 = .ok (.iload_n 2, 1) := by decide +kernel
theorem dX6_kindsMany_84 : decode cX6_kindsMany 84 = .ok (.ireturn, 1) := by decide +kernel
theorem dX6_thereOf_0 : decode cX6_thereOf 0 = .ok (.iconst 0, 1) := by decide +kernel
theorem dX6_thereOf_1 : decode cX6_thereOf 1 = .ok (.istore_n 2, 1) := by decide +kernel
theorem dX6_thereOf_2 : decode cX6_thereOf 2 = .ok (.iconst 0, 1) := by decide +kernel
theorem dX6_thereOf_3 : decode cX6_thereOf 3 = .ok (.istore_n 3, 1) := by decide +kernel
theorem dX6_thereOf_4 : decode cX6_thereOf 4 = .ok (.iload_n 3, 1) := by decide +kernel
theorem dX6_thereOf_5 : decode cX6_thereOf 5 = .ok (.iload_n 1, 1) := by decide +kernel
theorem dX6_thereOf_6 : decode cX6_thereOf 6 = .ok (.if_icmp .ge 23, 3) := by decide +kernel
theorem dX6_thereOf_9 : decode cX6_thereOf 9 = .ok (.iload_n 2, 1) := by decide +kernel
theorem dX6_thereOf_10 : decode cX6_thereOf 10 = .ok (.aload_n 0, 1) := by decide +kernel
theorem dX6_thereOf_11 : decode cX6_thereOf 11 = .ok (.iload_n 3, 1) := by decide +kernel
theorem dX6_thereOf_12 : decode cX6_thereOf 12 = .ok (.iaload, 1) := by decide +kernel
theorem dX6_thereOf_13 : decode cX6_thereOf 13 = .ok (.ifCond .ge 7, 3) := by decide +kernel
theorem dX6_thereOf_16 : decode cX6_thereOf 16 = .ok (.iconst 0, 1) := by decide +kernel
theorem dX6_thereOf_17 : decode cX6_thereOf 17 = .ok (.goto 4, 3) := by decide +kernel
theorem dX6_thereOf_20 : decode cX6_thereOf 20 = .ok (.iconst 1, 1) := by decide +kernel
theorem dX6_thereOf_21 : decode cX6_thereOf 21 = .ok (.iadd, 1) := by decide +kernel
theorem dX6_thereOf_22 : decode cX6_thereOf 22 = .ok (.istore_n 2, 1) := by decide +kernel
theorem dX6_thereOf_23 : decode cX6_thereOf 23 = .ok (.iinc 3 1, 3) := by decide +kernel
theorem dX6_thereOf_26 : decode cX6_thereOf 26 = .ok (.goto (-22), 3) := by decide +kernel
theorem dX6_thereOf_29 : decode cX6_thereOf 29 = .ok (.iload_n 2, 1) := by decide +kernel
theorem dX6_thereOf_30 : decode cX6_thereOf 30 = .ok (.ireturn, 1) := by decide +kernel
theorem dX6_highest_0 : decode cX6_highest 0 = .ok (.iconst 0, 1) := by decide +kernel
theorem dX6_highest_1 : decode cX6_highest 1 = .ok (.istore_n 1, 1) := by decide +kernel
theorem dX6_highest_2 : decode cX6_highest 2 = .ok (.iconst 0, 1) := by decide +kernel
theorem dX6_highest_3 : decode cX6_highest 3 = .ok (.istore_n 2, 1) := by decide +kernel
theorem dX6_highest_4 : decode cX6_highest 4 = .ok (.iload_n 2, 1) := by decide +kernel
theorem dX6_highest_5 : decode cX6_highest 5 = .ok (.aload_n 0, 1) := by decide +kernel
theorem dX6_highest_6 : decode cX6_highest 6 = .ok (.getfield 7, 3) := by decide +kernel
theorem dX6_highest_9 : decode cX6_highest 9 = .ok (.iconst 0, 1) := by decide +kernel
theorem dX6_highest_10 : decode cX6_highest 10 = .ok (.iaload, 1) := by decide +kernel
theorem dX6_highest_11 : decode cX6_highest 11 = .ok (.if_icmp .ge 34, 3) := by decide +kernel
theorem dX6_highest_14 : decode cX6_highest 14 = .ok (.aload_n 0, 1) := by decide +kernel
theorem dX6_highest_15 : decode cX6_highest 15 = .ok (.getfield 7, 3) := by decide +kernel
theorem dX6_highest_18 : decode cX6_highest 18 = .ok (.iconst 1, 1) := by decide +kernel
theorem dX6_highest_19 : decode cX6_highest 19 = .ok (.iload_n 2, 1) := by decide +kernel
theorem dX6_highest_20 : decode cX6_highest 20 = .ok (.iadd, 1) := by decide +kernel
theorem dX6_highest_21 : decode cX6_highest 21 = .ok (.iaload, 1) := by decide +kernel
theorem dX6_highest_22 : decode cX6_highest 22 = .ok (.iload_n 1, 1) := by decide +kernel
theorem dX6_highest_23 : decode cX6_highest 23 = .ok (.if_icmp .le 14, 3) := by decide +kernel
theorem dX6_highest_26 : decode cX6_highest 26 = .ok (.aload_n 0, 1) := by decide +kernel
theorem dX6_highest_27 : decode cX6_highest 27 = .ok (.getfield 7, 3) := by decide +kernel
theorem dX6_highest_30 : decode cX6_highest 30 = .ok (.iconst 1, 1) := by decide +kernel
theorem dX6_highest_31 : decode cX6_highest 31 = .ok (.iload_n 2, 1) := by decide +kernel
theorem dX6_highest_32 : decode cX6_highest 32 = .ok (.iadd, 1) := by decide +kernel
theorem dX6_highest_33 : decode cX6_highest 33 = .ok (.iaload, 1) := by decide +kernel
theorem dX6_highest_34 : decode cX6_highest 34 = .ok (.goto 4, 3) := by decide +kernel
theorem dX6_highest_37 : decode cX6_highest 37 = .ok (.iload_n 1, 1) := by decide +kernel
theorem dX6_highest_38 : decode cX6_highest 38 = .ok (.istore_n 1, 1) := by decide +kernel
theorem dX6_highest_39 : decode cX6_highest 39 = .ok (.iinc 2 1, 3) := by decide +kernel
theorem dX6_highest_42 : decode cX6_highest 42 = .ok (.goto (-38), 3) := by decide +kernel
theorem dX6_highest_45 : decode cX6_highest 45 = .ok (.iload_n 1, 1) := by decide +kernel
theorem dX6_highest_46 : decode cX6_highest 46 = .ok (.ireturn, 1) := by decide +kernel
theorem dX6_count_0 : decode cX6_count 0 = .ok (.iload_n 1, 1) := by decide +kernel
theorem dX6_count_1 : decode cX6_count 1 = .ok (.tableswitch 113 0 8 #[51, 58, 63, 68, 73, 79, 85, 95, 104], 51) := by decide +kernel
theorem dX6_count_52 : decode cX6_count 52 = .ok (.aload_n 0, 1) := by decide +kernel
theorem dX6_count_53 : decode cX6_count 53 = .ok (.getfield 7, 3) := by decide +kernel
theorem dX6_count_56 : decode cX6_count 56 = .ok (.iconst 0, 1) := by decide +kernel
theorem dX6_count_57 : decode cX6_count 57 = .ok (.iaload, 1) := by decide +kernel
theorem dX6_count_58 : decode cX6_count 58 = .ok (.ireturn, 1) := by decide +kernel
theorem dX6_count_59 : decode cX6_count 59 = .ok (.aload_n 0, 1) := by decide +kernel
theorem dX6_count_60 : decode cX6_count 60 = .ok (.invokevirtual 177, 3) := by decide +kernel
theorem dX6_count_63 : decode cX6_count 63 = .ok (.ireturn, 1) := by decide +kernel
theorem dX6_count_64 : decode cX6_count 64 = .ok (.aload_n 0, 1) := by decide +kernel
theorem dX6_count_65 : decode cX6_count 65 = .ok (.getfield 115, 3) := by decide +kernel
theorem dX6_count_68 : decode cX6_count 68 = .ok (.ireturn, 1) := by decide +kernel
theorem dX6_count_69 : decode cX6_count 69 = .ok (.aload_n 0, 1) := by decide +kernel
theorem dX6_count_70 : decode cX6_count 70 = .ok (.invokevirtual 296, 3) := by decide +kernel
theorem dX6_count_73 : decode cX6_count 73 = .ok (.ireturn, 1) := by decide +kernel
theorem dX6_count_74 : decode cX6_count 74 = .ok (.aload_n 0, 1) := by decide +kernel
theorem dX6_count_75 : decode cX6_count 75 = .ok (.iconst 1, 1) := by decide +kernel
theorem dX6_count_76 : decode cX6_count 76 = .ok (.invokevirtual 299, 3) := by decide +kernel
theorem dX6_count_79 : decode cX6_count 79 = .ok (.ireturn, 1) := by decide +kernel
theorem dX6_count_80 : decode cX6_count 80 = .ok (.aload_n 0, 1) := by decide +kernel
theorem dX6_count_81 : decode cX6_count 81 = .ok (.iconst 0, 1) := by decide +kernel
theorem dX6_count_82 : decode cX6_count 82 = .ok (.invokevirtual 299, 3) := by decide +kernel
theorem dX6_count_85 : decode cX6_count 85 = .ok (.ireturn, 1) := by decide +kernel
theorem dX6_count_86 : decode cX6_count 86 = .ok (.aload_n 0, 1) := by decide +kernel
theorem dX6_count_87 : decode cX6_count 87 = .ok (.getfield 19, 3) := by decide +kernel
theorem dX6_count_90 : decode cX6_count 90 = .ok (.bipush 6, 2) := by decide +kernel
theorem dX6_count_92 : decode cX6_count 92 = .ok (.invokestatic 303, 3) := by decide +kernel
theorem dX6_count_95 : decode cX6_count 95 = .ok (.ireturn, 1) := by decide +kernel
theorem dX6_count_96 : decode cX6_count 96 = .ok (.aload_n 0, 1) := by decide +kernel
theorem dX6_count_97 : decode cX6_count 97 = .ok (.getfield 25, 3) := by decide +kernel
theorem dX6_count_100 : decode cX6_count 100 = .ok (.iconst 4, 1) := by decide +kernel
theorem dX6_count_101 : decode cX6_count 101 = .ok (.invokestatic 303, 3) := by decide +kernel
theorem dX6_count_104 : decode cX6_count 104 = .ok (.ireturn, 1) := by decide +kernel
theorem dX6_count_105 : decode cX6_count 105 = .ok (.aload_n 0, 1) := by decide +kernel
theorem dX6_count_106 : decode cX6_count 106 = .ok (.getfield 13, 3) := by decide +kernel
theorem dX6_count_109 : decode cX6_count 109 = .ok (.iconst 3, 1) := by decide +kernel
theorem dX6_count_110 : decode cX6_count 110 = .ok (.invokestatic 303, 3) := by decide +kernel
theorem dX6_count_113 : decode cX6_count 113 = .ok (.ireturn, 1) := by decide +kernel
theorem dX6_count_114 : decode cX6_count 114 = .ok (.iconst (-1), 1) := by decide +kernel
theorem dX6_count_115 : decode cX6_count 115 = .ok (.ireturn, 1) := by decide +kernel
theorem dX6_finding_0 : decode cX6_finding 0 = .ok (.aload_n 0, 1) := by decide +kernel
theorem dX6_finding_1 : decode cX6_finding 1 = .ok (.getfield 54, 3) := by decide +kernel
theorem dX6_finding_4 : decode cX6_finding 4 = .ok (.ireturn, 1) := by decide +kernel
theorem dX6_findings_0 : decode cX6_findings 0 = .ok (.iload_n 1, 1) := by decide +kernel
theorem dX6_findings_1 : decode cX6_findings 1 = .ok (.i2l, 1) := by decide +kernel
theorem dX6_findings_2 : decode cX6_findings 2 = .ok (.lconst 1, 1) := by decide +kernel
theorem dX6_findings_3 : decode cX6_findings 3 = .ok (.ldc2_w 61, 3) := by decide +kernel
theorem dX6_findings_6 : decode cX6_findings 6 = .ok (.invokestatic 63, 3) := by decide +kernel
theorem dX6_findings_9 : decode cX6_findings 9 = .ok (.ifCond .eq 12, 3) := by decide +kernel
theorem dX6_findings_12 : decode cX6_findings 12 = .ok (.aload_n 0, 1) := by decide +kernel
theorem dX6_findings_13 : decode cX6_findings 13 = .ok (.getfield 31, 3) := by decide +kernel
theorem dX6_findings_16 : decode cX6_findings 16 = .ok (.iload_n 1, 1) := by decide +kernel
theorem dX6_findings_17 : decode cX6_findings 17 = .ok (.iaload, 1) := by decide +kernel
theorem dX6_findings_18 : decode cX6_findings 18 = .ok (.goto 4, 3) := by decide +kernel
theorem dX6_findings_21 : decode cX6_findings 21 = .ok (.iconst (-1), 1) := by decide +kernel
theorem dX6_findings_22 : decode cX6_findings 22 = .ok (.ireturn, 1) := by decide +kernel
theorem dX6_mix_0 : decode cX6_mix 0 = .ok (.aload_n 0, 1) := by decide +kernel
theorem dX6_mix_1 : decode cX6_mix 1 = .ok (.ldc2_w 307, 3) := by decide +kernel
theorem dX6_mix_4 : decode cX6_mix 4 = .ok (.aload_n 0, 1) := by decide +kernel
theorem dX6_mix_5 : decode cX6_mix 5 = .ok (.getfield 309, 3) := by decide +kernel
theorem dX6_mix_8 : decode cX6_mix 8 = .ok (.lmul, 1) := by decide +kernel
theorem dX6_mix_9 : decode cX6_mix 9 = .ok (.lload_n 1, 1) := by decide +kernel
theorem dX6_mix_10 : decode cX6_mix 10 = .ok (.ladd, 1) := by decide +kernel
theorem dX6_mix_11 : decode cX6_mix 11 = .ok (.putfield 309, 3) := by decide +kernel
theorem dX6_mix_14 : decode cX6_mix 14 = .ok (.return_, 1) := by decide +kernel
theorem dX6_digest_0 : decode cX6_digest 0 = .ok (.aload_n 0, 1) := by decide +kernel
theorem dX6_digest_1 : decode cX6_digest 1 = .ok (.ldc2_w 312, 3) := by decide +kernel
theorem dX6_digest_4 : decode cX6_digest 4 = .ok (.putfield 309, 3) := by decide +kernel
theorem dX6_digest_7 : decode cX6_digest 7 = .ok (.iconst 0, 1) := by decide +kernel
theorem dX6_digest_8 : decode cX6_digest 8 = .ok (.istore_n 1, 1) := by decide +kernel
theorem dX6_digest_9 : decode cX6_digest 9 = .ok (.iload_n 1, 1) := by decide +kernel
theorem dX6_digest_10 : decode cX6_digest 10 = .ok (.bipush 9, 2) := by decide +kernel
theorem dX6_digest_12 : decode cX6_digest 12 = .ok (.if_icmp .ge 19, 3) := by decide +kernel
theorem dX6_digest_15 : decode cX6_digest 15 = .ok (.aload_n 0, 1) := by decide +kernel
theorem dX6_digest_16 : decode cX6_digest 16 = .ok (.aload_n 0, 1) := by decide +kernel
theorem dX6_digest_17 : decode cX6_digest 17 = .ok (.iload_n 1, 1) := by decide +kernel
theorem dX6_digest_18 : decode cX6_digest 18 = .ok (.invokevirtual 314, 3) := by decide +kernel
theorem dX6_digest_21 : decode cX6_digest 21 = .ok (.i2l, 1) := by decide +kernel
theorem dX6_digest_22 : decode cX6_digest 22 = .ok (.invokevirtual 317, 3) := by decide +kernel
theorem dX6_digest_25 : decode cX6_digest 25 = .ok (.iinc 1 1, 3) := by decide +kernel
theorem dX6_digest_28 : decode cX6_digest 28 = .ok (.goto (-19), 3) := by decide +kernel
theorem dX6_digest_31 : decode cX6_digest 31 = .ok (.aload_n 0, 1) := by decide +kernel
theorem dX6_digest_32 : decode cX6_digest 32 = .ok (.invokevirtual 184, 3) := by decide +kernel
theorem dX6_digest_35 : decode cX6_digest 35 = .ok (.iconst 0, 1) := by decide +kernel
theorem dX6_digest_36 : decode cX6_digest 36 = .ok (.istore_n 1, 1) := by decide +kernel
theorem dX6_digest_37 : decode cX6_digest 37 = .ok (.iload_n 1, 1) := by decide +kernel
theorem dX6_digest_38 : decode cX6_digest 38 = .ok (.aload_n 0, 1) := by decide +kernel
theorem dX6_digest_39 : decode cX6_digest 39 = .ok (.getfield 7, 3) := by decide +kernel
theorem dX6_digest_42 : decode cX6_digest 42 = .ok (.iconst 0, 1) := by decide +kernel
theorem dX6_digest_43 : decode cX6_digest 43 = .ok (.iaload, 1) := by decide +kernel
theorem dX6_digest_44 : decode cX6_digest 44 = .ok (.if_icmp .ge 68, 3) := by decide +kernel
theorem dX6_digest_47 : decode cX6_digest 47 = .ok (.aload_n 0, 1) := by decide +kernel
theorem dX6_digest_48 : decode cX6_digest 48 = .ok (.aload_n 0, 1) := by decide +kernel
theorem dX6_digest_49 : decode cX6_digest 49 = .ok (.getfield 7, 3) := by decide +kernel
theorem dX6_digest_52 : decode cX6_digest 52 = .ok (.iconst 1, 1) := by decide +kernel
theorem dX6_digest_53 : decode cX6_digest 53 = .ok (.iload_n 1, 1) := by decide +kernel
theorem dX6_digest_54 : decode cX6_digest 54 = .ok (.iadd, 1) := by decide +kernel
theorem dX6_digest_55 : decode cX6_digest 55 = .ok (.iaload, 1) := by decide +kernel
theorem dX6_digest_56 : decode cX6_digest 56 = .ok (.i2l, 1) := by decide +kernel
theorem dX6_digest_57 : decode cX6_digest 57 = .ok (.invokevirtual 317, 3) := by decide +kernel
theorem dX6_digest_60 : decode cX6_digest 60 = .ok (.iconst 0, 1) := by decide +kernel
theorem dX6_digest_61 : decode cX6_digest 61 = .ok (.istore_n 2, 1) := by decide +kernel
theorem dX6_digest_62 : decode cX6_digest 62 = .ok (.iload_n 2, 1) := by decide +kernel
theorem dX6_digest_63 : decode cX6_digest 63 = .ok (.aload_n 0, 1) := by decide +kernel
theorem dX6_digest_64 : decode cX6_digest 64 = .ok (.getfield 7, 3) := by decide +kernel
theorem dX6_digest_67 : decode cX6_digest 67 = .ok (.iconst 1, 1) := by decide +kernel
theorem dX6_digest_68 : decode cX6_digest 68 = .ok (.iload_n 1, 1) := by decide +kernel
theorem dX6_digest_69 : decode cX6_digest 69 = .ok (.iadd, 1) := by decide +kernel
theorem dX6_digest_70 : decode cX6_digest 70 = .ok (.iaload, 1) := by decide +kernel
theorem dX6_digest_71 : decode cX6_digest 71 = .ok (.if_icmp .ge 35, 3) := by decide +kernel
theorem dX6_digest_74 : decode cX6_digest 74 = .ok (.iconst 0, 1) := by decide +kernel
theorem dX6_digest_75 : decode cX6_digest 75 = .ok (.istore_n 3, 1) := by decide +kernel
theorem dX6_digest_76 : decode cX6_digest 76 = .ok (.iload_n 3, 1) := by decide +kernel
theorem dX6_digest_77 : decode cX6_digest 77 = .ok (.bipush 7, 2) := by decide +kernel
theorem dX6_digest_79 : decode cX6_digest 79 = .ok (.if_icmp .ge 21, 3) := by decide +kernel
theorem dX6_digest_82 : decode cX6_digest 82 = .ok (.aload_n 0, 1) := by decide +kernel
theorem dX6_digest_83 : decode cX6_digest 83 = .ok (.aload_n 0, 1) := by decide +kernel
theorem dX6_digest_84 : decode cX6_digest 84 = .ok (.iload_n 1, 1) := by decide +kernel
theorem dX6_digest_85 : decode cX6_digest 85 = .ok (.iload_n 2, 1) := by decide +kernel
theorem dX6_digest_86 : decode cX6_digest 86 = .ok (.iload_n 3, 1) := by decide +kernel
theorem dX6_digest_87 : decode cX6_digest 87 = .ok (.invokevirtual 198, 3) := by decide +kernel
theorem dX6_digest_90 : decode cX6_digest 90 = .ok (.i2l, 1) := by decide +kernel
theorem dX6_digest_91 : decode cX6_digest 91 = .ok (.invokevirtual 317, 3) := by decide +kernel
theorem dX6_digest_94 : decode cX6_digest 94 = .ok (.iinc 3 1, 3) := by decide +kernel
theorem dX6_digest_97 : decode cX6_digest 97 = .ok (.goto (-21), 3) := by decide +kernel
theorem dX6_digest_100 : decode cX6_digest 100 = .ok (.iinc 2 1, 3) := by decide +kernel
theorem dX6_digest_103 : decode cX6_digest 103 = .ok (.goto (-41), 3) := by decide +kernel
theorem dX6_digest_106 : decode cX6_digest 106 = .ok (.iinc 1 1, 3) := by decide +kernel
theorem dX6_digest_109 : decode cX6_digest 109 = .ok (.goto (-72), 3) := by decide +kernel
theorem dX6_digest_112 : decode cX6_digest 112 = .ok (.iconst 0, 1) := by decide +kernel
theorem dX6_digest_113 : decode cX6_digest 113 = .ok (.istore_n 1, 1) := by decide +kernel
theorem dX6_digest_114 : decode cX6_digest 114 = .ok (.iload_n 1, 1) := by decide +kernel
theorem dX6_digest_115 : decode cX6_digest 115 = .ok (.iconst 3, 1) := by decide +kernel
theorem dX6_digest_116 : decode cX6_digest 116 = .ok (.if_icmp .ge 20, 3) := by decide +kernel
theorem dX6_digest_119 : decode cX6_digest 119 = .ok (.aload_n 0, 1) := by decide +kernel
theorem dX6_digest_120 : decode cX6_digest 120 = .ok (.aload_n 0, 1) := by decide +kernel
theorem dX6_digest_121 : decode cX6_digest 121 = .ok (.getfield 13, 3) := by decide +kernel
theorem dX6_digest_124 : decode cX6_digest 124 = .ok (.iload_n 1, 1) := by decide +kernel
theorem dX6_digest_125 : decode cX6_digest 125 = .ok (.iaload, 1) := by decide +kernel
theorem dX6_digest_126 : decode cX6_digest 126 = .ok (.i2l, 1) := by decide +kernel
theorem dX6_digest_127 : decode cX6_digest 127 = .ok (.invokevirtual 317, 3) := by decide +kernel
theorem dX6_digest_130 : decode cX6_digest 130 = .ok (.iinc 1 1, 3) := by decide +kernel
theorem dX6_digest_133 : decode cX6_digest 133 = .ok (.goto (-19), 3) := by decide +kernel
theorem dX6_digest_136 : decode cX6_digest 136 = .ok (.iconst 0, 1) := by decide +kernel
theorem dX6_digest_137 : decode cX6_digest 137 = .ok (.istore_n 1, 1) := by decide +kernel
theorem dX6_digest_138 : decode cX6_digest 138 = .ok (.iload_n 1, 1) := by decide +kernel
theorem dX6_digest_139 : decode cX6_digest 139 = .ok (.bipush 6, 2) := by decide +kernel
theorem dX6_digest_141 : decode cX6_digest 141 = .ok (.if_icmp .ge 54, 3) := by decide +kernel
theorem dX6_digest_144 : decode cX6_digest 144 = .ok (.aload_n 0, 1) := by decide +kernel
theorem dX6_digest_145 : decode cX6_digest 145 = .ok (.aload_n 0, 1) := by decide +kernel
theorem dX6_digest_146 : decode cX6_digest 146 = .ok (.getfield 19, 3) := by decide +kernel
theorem dX6_digest_149 : decode cX6_digest 149 = .ok (.iload_n 1, 1) := by decide +kernel
theorem dX6_digest_150 : decode cX6_digest 150 = .ok (.iaload, 1) := by decide +kernel
theorem dX6_digest_151 : decode cX6_digest 151 = .ok (.i2l, 1) := by decide +kernel
theorem dX6_digest_152 : decode cX6_digest 152 = .ok (.invokevirtual 317, 3) := by decide +kernel
theorem dX6_digest_155 : decode cX6_digest 155 = .ok (.iconst 0, 1) := by decide +kernel
theorem dX6_digest_156 : decode cX6_digest 156 = .ok (.istore_n 2, 1) := by decide +kernel
theorem dX6_digest_157 : decode cX6_digest 157 = .ok (.iload_n 2, 1) := by decide +kernel
theorem dX6_digest_158 : decode cX6_digest 158 = .ok (.aload_n 0, 1) := by decide +kernel
theorem dX6_digest_159 : decode cX6_digest 159 = .ok (.getfield 19, 3) := by decide +kernel
theorem dX6_digest_162 : decode cX6_digest 162 = .ok (.iload_n 1, 1) := by decide +kernel
theorem dX6_digest_163 : decode cX6_digest 163 = .ok (.iaload, 1) := by decide +kernel
theorem dX6_digest_164 : decode cX6_digest 164 = .ok (.if_icmp .ge 25, 3) := by decide +kernel
theorem dX6_digest_167 : decode cX6_digest 167 = .ok (.aload_n 0, 1) := by decide +kernel
theorem dX6_digest_168 : decode cX6_digest 168 = .ok (.aload_n 0, 1) := by decide +kernel
theorem dX6_digest_169 : decode cX6_digest 169 = .ok (.getfield 16, 3) := by decide +kernel
theorem dX6_digest_172 : decode cX6_digest 172 = .ok (.bipush 40, 2) := by decide +kernel
theorem dX6_digest_174 : decode cX6_digest 174 = .ok (.iload_n 1, 1) := by decide +kernel
theorem dX6_digest_175 : decode cX6_digest 175 = .ok (.imul, 1) := by decide +kernel
theorem dX6_digest_176 : decode cX6_digest 176 = .ok (.iload_n 2, 1) := by decide +kernel
theorem dX6_digest_177 : decode cX6_digest 177 = .ok (.iadd, 1) := by decide +kernel
theorem dX6_digest_178 : decode cX6_digest 178 = .ok (.iaload, 1) := by decide +kernel
theorem dX6_digest_179 : decode cX6_digest 179 = .ok (.i2l, 1) := by decide +kernel
theorem dX6_digest_180 : decode cX6_digest 180 = .ok (.invokevirtual 317, 3) := by decide +kernel
theorem dX6_digest_183 : decode cX6_digest 183 = .ok (.iinc 2 1, 3) := by decide +kernel
theorem dX6_digest_186 : decode cX6_digest 186 = .ok (.goto (-29), 3) := by decide +kernel
theorem dX6_digest_189 : decode cX6_digest 189 = .ok (.iinc 1 1, 3) := by decide +kernel
theorem dX6_digest_192 : decode cX6_digest 192 = .ok (.goto (-54), 3) := by decide +kernel
theorem dX6_digest_195 : decode cX6_digest 195 = .ok (.iconst 0, 1) := by decide +kernel
theorem dX6_digest_196 : decode cX6_digest 196 = .ok (.istore_n 1, 1) := by decide +kernel
theorem dX6_digest_197 : decode cX6_digest 197 = .ok (.iload_n 1, 1) := by decide +kernel
theorem dX6_digest_198 : decode cX6_digest 198 = .ok (.iconst 4, 1) := by decide +kernel
theorem dX6_digest_199 : decode cX6_digest 199 = .ok (.if_icmp .ge 54, 3) := by decide +kernel
theorem dX6_digest_202 : decode cX6_digest 202 = .ok (.aload_n 0, 1) := by decide +kernel
theorem dX6_digest_203 : decode cX6_digest 203 = .ok (.aload_n 0, 1) := by decide +kernel
theorem dX6_digest_204 : decode cX6_digest 204 = .ok (.getfield 25, 3) := by decide +kernel
theorem dX6_digest_207 : decode cX6_digest 207 = .ok (.iload_n 1, 1) := by decide +kernel
theorem dX6_digest_208 : decode cX6_digest 208 = .ok (.iaload, 1) := by decide +kernel
theorem dX6_digest_209 : decode cX6_digest 209 = .ok (.i2l, 1) := by decide +kernel
theorem dX6_digest_210 : decode cX6_digest 210 = .ok (.invokevirtual 317, 3) := by decide +kernel
theorem dX6_digest_213 : decode cX6_digest 213 = .ok (.iconst 0, 1) := by decide +kernel
theorem dX6_digest_214 : decode cX6_digest 214 = .ok (.istore_n 2, 1) := by decide +kernel
theorem dX6_digest_215 : decode cX6_digest 215 = .ok (.iload_n 2, 1) := by decide +kernel
theorem dX6_digest_216 : decode cX6_digest 216 = .ok (.aload_n 0, 1) := by decide +kernel
theorem dX6_digest_217 : decode cX6_digest 217 = .ok (.getfield 25, 3) := by decide +kernel
theorem dX6_digest_220 : decode cX6_digest 220 = .ok (.iload_n 1, 1) := by decide +kernel
theorem dX6_digest_221 : decode cX6_digest 221 = .ok (.iaload, 1) := by decide +kernel
theorem dX6_digest_222 : decode cX6_digest 222 = .ok (.if_icmp .ge 25, 3) := by decide +kernel
theorem dX6_digest_225 : decode cX6_digest 225 = .ok (.aload_n 0, 1) := by decide +kernel
theorem dX6_digest_226 : decode cX6_digest 226 = .ok (.aload_n 0, 1) := by decide +kernel
theorem dX6_digest_227 : decode cX6_digest 227 = .ok (.getfield 22, 3) := by decide +kernel
theorem dX6_digest_230 : decode cX6_digest 230 = .ok (.bipush 60, 2) := by decide +kernel
theorem dX6_digest_232 : decode cX6_digest 232 = .ok (.iload_n 1, 1) := by decide +kernel
theorem dX6_digest_233 : decode cX6_digest 233 = .ok (.imul, 1) := by decide +kernel
theorem dX6_digest_234 : decode cX6_digest 234 = .ok (.iload_n 2, 1) := by decide +kernel
theorem dX6_digest_235 : decode cX6_digest 235 = .ok (.iadd, 1) := by decide +kernel
theorem dX6_digest_236 : decode cX6_digest 236 = .ok (.iaload, 1) := by decide +kernel
theorem dX6_digest_237 : decode cX6_digest 237 = .ok (.i2l, 1) := by decide +kernel
theorem dX6_digest_238 : decode cX6_digest 238 = .ok (.invokevirtual 317, 3) := by decide +kernel
theorem dX6_digest_241 : decode cX6_digest 241 = .ok (.iinc 2 1, 3) := by decide +kernel
theorem dX6_digest_244 : decode cX6_digest 244 = .ok (.goto (-29), 3) := by decide +kernel
theorem dX6_digest_247 : decode cX6_digest 247 = .ok (.iinc 1 1, 3) := by decide +kernel
theorem dX6_digest_250 : decode cX6_digest 250 = .ok (.goto (-53), 3) := by decide +kernel
theorem dX6_digest_253 : decode cX6_digest 253 = .ok (.aload_n 0, 1) := by decide +kernel
theorem dX6_digest_254 : decode cX6_digest 254 = .ok (.getfield 309, 3) := by decide +kernel
theorem dX6_digest_257 : decode cX6_digest 257 = .ok (.lreturn, 1) := by decide +kernel
theorem dJ6_bitCount_0f7a4_0 : decode cJ6_bitCount_0f7a4 0 = .ok (.iload_n 0, 1) := by decide +kernel
theorem dJ6_bitCount_0f7a4_1 : decode cJ6_bitCount_0f7a4 1 = .ok (.iload_n 0, 1) := by decide +kernel
theorem dJ6_bitCount_0f7a4_2 : decode cJ6_bitCount_0f7a4 2 = .ok (.iconst 1, 1) := by decide +kernel
theorem dJ6_bitCount_0f7a4_3 : decode cJ6_bitCount_0f7a4 3 = .ok (.iushr, 1) := by decide +kernel
theorem dJ6_bitCount_0f7a4_4 : decode cJ6_bitCount_0f7a4 4 = .ok (.ldc_w 265, 3) := by decide +kernel
theorem dJ6_bitCount_0f7a4_7 : decode cJ6_bitCount_0f7a4 7 = .ok (.iand, 1) := by decide +kernel
theorem dJ6_bitCount_0f7a4_8 : decode cJ6_bitCount_0f7a4 8 = .ok (.isub, 1) := by decide +kernel
theorem dJ6_bitCount_0f7a4_9 : decode cJ6_bitCount_0f7a4 9 = .ok (.istore_n 0, 1) := by decide +kernel
theorem dJ6_bitCount_0f7a4_10 : decode cJ6_bitCount_0f7a4 10 = .ok (.iload_n 0, 1) := by decide +kernel
theorem dJ6_bitCount_0f7a4_11 : decode cJ6_bitCount_0f7a4 11 = .ok (.ldc_w 266, 3) := by decide +kernel
theorem dJ6_bitCount_0f7a4_14 : decode cJ6_bitCount_0f7a4 14 = .ok (.iand, 1) := by decide +kernel
theorem dJ6_bitCount_0f7a4_15 : decode cJ6_bitCount_0f7a4 15 = .ok (.iload_n 0, 1) := by decide +kernel
theorem dJ6_bitCount_0f7a4_16 : decode cJ6_bitCount_0f7a4 16 = .ok (.iconst 2, 1) := by decide +kernel
theorem dJ6_bitCount_0f7a4_17 : decode cJ6_bitCount_0f7a4 17 = .ok (.iushr, 1) := by decide +kernel
theorem dJ6_bitCount_0f7a4_18 : decode cJ6_bitCount_0f7a4 18 = .ok (.ldc_w 266, 3) := by decide +kernel
theorem dJ6_bitCount_0f7a4_21 : decode cJ6_bitCount_0f7a4 21 = .ok (.iand, 1) := by decide +kernel
theorem dJ6_bitCount_0f7a4_22 : decode cJ6_bitCount_0f7a4 22 = .ok (.iadd, 1) := by decide +kernel
theorem dJ6_bitCount_0f7a4_23 : decode cJ6_bitCount_0f7a4 23 = .ok (.istore_n 0, 1) := by decide +kernel
theorem dJ6_bitCount_0f7a4_24 : decode cJ6_bitCount_0f7a4 24 = .ok (.iload_n 0, 1) := by decide +kernel
theorem dJ6_bitCount_0f7a4_25 : decode cJ6_bitCount_0f7a4 25 = .ok (.iload_n 0, 1) := by decide +kernel
theorem dJ6_bitCount_0f7a4_26 : decode cJ6_bitCount_0f7a4 26 = .ok (.iconst 4, 1) := by decide +kernel
theorem dJ6_bitCount_0f7a4_27 : decode cJ6_bitCount_0f7a4 27 = .ok (.iushr, 1) := by decide +kernel
theorem dJ6_bitCount_0f7a4_28 : decode cJ6_bitCount_0f7a4 28 = .ok (.iadd, 1) := by decide +kernel
theorem dJ6_bitCount_0f7a4_29 : decode cJ6_bitCount_0f7a4 29 = .ok (.ldc_w 267, 3) := by decide +kernel
theorem dJ6_bitCount_0f7a4_32 : decode cJ6_bitCount_0f7a4 32 = .ok (.iand, 1) := by decide +kernel
theorem dJ6_bitCount_0f7a4_33 : decode cJ6_bitCount_0f7a4 33 = .ok (.istore_n 0, 1) := by decide +kernel
theorem dJ6_bitCount_0f7a4_34 : decode cJ6_bitCount_0f7a4 34 = .ok (.iload_n 0, 1) := by decide +kernel
theorem dJ6_bitCount_0f7a4_35 : decode cJ6_bitCount_0f7a4 35 = .ok (.iload_n 0, 1) := by decide +kernel
theorem dJ6_bitCount_0f7a4_36 : decode cJ6_bitCount_0f7a4 36 = .ok (.bipush 8, 2) := by decide +kernel
theorem dJ6_bitCount_0f7a4_38 : decode cJ6_bitCount_0f7a4 38 = .ok (.iushr, 1) := by decide +kernel
theorem dJ6_bitCount_0f7a4_39 : decode cJ6_bitCount_0f7a4 39 = .ok (.iadd, 1) := by decide +kernel
theorem dJ6_bitCount_0f7a4_40 : decode cJ6_bitCount_0f7a4 40 = .ok (.istore_n 0, 1) := by decide +kernel
theorem dJ6_bitCount_0f7a4_41 : decode cJ6_bitCount_0f7a4 41 = .ok (.iload_n 0, 1) := by decide +kernel
theorem dJ6_bitCount_0f7a4_42 : decode cJ6_bitCount_0f7a4 42 = .ok (.iload_n 0, 1) := by decide +kernel
theorem dJ6_bitCount_0f7a4_43 : decode cJ6_bitCount_0f7a4 43 = .ok (.bipush 16, 2) := by decide +kernel
theorem dJ6_bitCount_0f7a4_45 : decode cJ6_bitCount_0f7a4 45 = .ok (.iushr, 1) := by decide +kernel
theorem dJ6_bitCount_0f7a4_46 : decode cJ6_bitCount_0f7a4 46 = .ok (.iadd, 1) := by decide +kernel
theorem dJ6_bitCount_0f7a4_47 : decode cJ6_bitCount_0f7a4 47 = .ok (.istore_n 0, 1) := by decide +kernel
theorem dJ6_bitCount_0f7a4_48 : decode cJ6_bitCount_0f7a4 48 = .ok (.iload_n 0, 1) := by decide +kernel
theorem dJ6_bitCount_0f7a4_49 : decode cJ6_bitCount_0f7a4 49 = .ok (.bipush 63, 2) := by decide +kernel
theorem dJ6_bitCount_0f7a4_51 : decode cJ6_bitCount_0f7a4 51 = .ok (.iand, 1) := by decide +kernel
theorem dJ6_bitCount_0f7a4_52 : decode cJ6_bitCount_0f7a4 52 = .ok (.ireturn, 1) := by decide +kernel
theorem dJ9_max_7cf53_0 : decode cJ9_max_7cf53 0 = .ok (.iload_n 0, 1) := by decide +kernel
theorem dJ9_max_7cf53_1 : decode cJ9_max_7cf53 1 = .ok (.iload_n 1, 1) := by decide +kernel
theorem dJ9_max_7cf53_2 : decode cJ9_max_7cf53 2 = .ok (.if_icmp .lt 7, 3) := by decide +kernel
theorem dJ9_max_7cf53_5 : decode cJ9_max_7cf53 5 = .ok (.iload_n 0, 1) := by decide +kernel
theorem dJ9_max_7cf53_6 : decode cJ9_max_7cf53 6 = .ok (.goto 4, 3) := by decide +kernel
theorem dJ9_max_7cf53_9 : decode cJ9_max_7cf53 9 = .ok (.iload_n 1, 1) := by decide +kernel
theorem dJ9_max_7cf53_10 : decode cJ9_max_7cf53 10 = .ok (.ireturn, 1) := by decide +kernel
theorem dJ9_min_7cf53_0 : decode cJ9_min_7cf53 0 = .ok (.iload_n 0, 1) := by decide +kernel
theorem dJ9_min_7cf53_1 : decode cJ9_min_7cf53 1 = .ok (.iload_n 1, 1) := by decide +kernel
theorem dJ9_min_7cf53_2 : decode cJ9_min_7cf53 2 = .ok (.if_icmp .gt 7, 3) := by decide +kernel
theorem dJ9_min_7cf53_5 : decode cJ9_min_7cf53 5 = .ok (.iload_n 0, 1) := by decide +kernel
theorem dJ9_min_7cf53_6 : decode cJ9_min_7cf53 6 = .ok (.goto 4, 3) := by decide +kernel
theorem dJ9_min_7cf53_9 : decode cJ9_min_7cf53 9 = .ok (.iload_n 1, 1) := by decide +kernel
theorem dJ9_min_7cf53_10 : decode cJ9_min_7cf53 10 = .ok (.ireturn, 1) := by decide +kernel
theorem dL_law_0 : decode cL_law 0 = .ok (.new 7, 3) := by decide +kernel
theorem dL_law_3 : decode cL_law 3 = .ok (.dup, 1) := by decide +kernel
theorem dL_law_4 : decode cL_law 4 = .ok (.invokespecial 9, 3) := by decide +kernel
theorem dL_law_7 : decode cL_law 7 = .ok (.astore_n 1, 1) := by decide +kernel
theorem dL_law_8 : decode cL_law 8 = .ok (.new 10, 3) := by decide +kernel
theorem dL_law_11 : decode cL_law 11 = .ok (.dup, 1) := by decide +kernel
theorem dL_law_12 : decode cL_law 12 = .ok (.invokespecial 12, 3) := by decide +kernel
theorem dL_law_15 : decode cL_law 15 = .ok (.astore_n 2, 1) := by decide +kernel
theorem dL_law_16 : decode cL_law 16 = .ok (.iconst 0, 1) := by decide +kernel
theorem dL_law_17 : decode cL_law 17 = .ok (.istore_n 3, 1) := by decide +kernel
theorem dL_law_18 : decode cL_law 18 = .ok (.iload_n 3, 1) := by decide +kernel
theorem dL_law_19 : decode cL_law 19 = .ok (.aload_n 0, 1) := by decide +kernel
theorem dL_law_20 : decode cL_law 20 = .ok (.arraylength, 1) := by decide +kernel
theorem dL_law_21 : decode cL_law 21 = .ok (.bipush 6, 2) := by decide +kernel
theorem dL_law_23 : decode cL_law 23 = .ok (.isub, 1) := by decide +kernel
theorem dL_law_24 : decode cL_law 24 = .ok (.if_icmp .gt 1495, 3) := by decide +kernel
theorem dL_law_27 : decode cL_law 27 = .ok (.aload_n 0, 1) := by decide +kernel
theorem dL_law_28 : decode cL_law 28 = .ok (.iload_n 3, 1) := by decide +kernel
theorem dL_law_29 : decode cL_law 29 = .ok (.iaload, 1) := by decide +kernel
theorem dL_law_30 : decode cL_law 30 = .ok (.bipush 63, 2) := by decide +kernel
theorem dL_law_32 : decode cL_law 32 = .ok (.iand, 1) := by decide +kernel
theorem dL_law_33 : decode cL_law 33 = .ok (.tableswitch 1480 0 45 #[199, 232, 275, 308, 331, 394, 417, 450, 493, 516, 539, 562, 605, 648, 691, 734, 767, 790, 813, 836, 879, 912, 945, 968, 981, 994, 1007, 1040, 1083, 1096, 1109, 1142, 1155, 1168, 1201, 1234, 1257, 1300, 1333, 1366, 1379, 1393, 1407, 1430, 1443, 1466], 199) := by decide +kernel
theorem dL_law_232 : decode cL_law 232 = .ok (.aload_n 1, 1) := by decide +kernel
theorem dL_law_233 : decode cL_law 233 = .ok (.aload_n 0, 1) := by decide +kernel
theorem dL_law_234 : decode cL_law 234 = .ok (.iload_n 3, 1) := by decide +kernel
theorem dL_law_235 : decode cL_law 235 = .ok (.iconst 1, 1) := by decide +kernel
theorem dL_law_236 : decode cL_law 236 = .ok (.iadd, 1) := by decide +kernel
theorem dL_law_237 : decode cL_law 237 = .ok (.iaload, 1) := by decide +kernel
theorem dL_law_238 : decode cL_law 238 = .ok (.aload_n 0, 1) := by decide +kernel
theorem dL_law_239 : decode cL_law 239 = .ok (.iload_n 3, 1) := by decide +kernel
theorem dL_law_240 : decode cL_law 240 = .ok (.iconst 2, 1) := by decide +kernel
theorem dL_law_241 : decode cL_law 241 = .ok (.iadd, 1) := by decide +kernel
theorem dL_law_242 : decode cL_law 242 = .ok (.iaload, 1) := by decide +kernel
theorem dL_law_243 : decode cL_law 243 = .ok (.invokevirtual 13, 3) := by decide +kernel
theorem dL_law_246 : decode cL_law 246 = .ok (.aload_n 2, 1) := by decide +kernel
theorem dL_law_247 : decode cL_law 247 = .ok (.aload_n 0, 1) := by decide +kernel
theorem dL_law_248 : decode cL_law 248 = .ok (.iload_n 3, 1) := by decide +kernel
theorem dL_law_249 : decode cL_law 249 = .ok (.iconst 1, 1) := by decide +kernel
theorem dL_law_250 : decode cL_law 250 = .ok (.iadd, 1) := by decide +kernel
theorem dL_law_251 : decode cL_law 251 = .ok (.iaload, 1) := by decide +kernel
theorem dL_law_252 : decode cL_law 252 = .ok (.aload_n 0, 1) := by decide +kernel
theorem dL_law_253 : decode cL_law 253 = .ok (.iload_n 3, 1) := by decide +kernel
theorem dL_law_254 : decode cL_law 254 = .ok (.iconst 2, 1) := by decide +kernel
theorem dL_law_255 : decode cL_law 255 = .ok (.iadd, 1) := by decide +kernel
theorem dL_law_256 : decode cL_law 256 = .ok (.iaload, 1) := by decide +kernel
theorem dL_law_257 : decode cL_law 257 = .ok (.invokevirtual 17, 3) := by decide +kernel
theorem dL_law_260 : decode cL_law 260 = .ok (.if_icmp .eq 1253, 3) := by decide +kernel
theorem dL_law_263 : decode cL_law 263 = .ok (.iconst 0, 1) := by decide +kernel
theorem dL_law_264 : decode cL_law 264 = .ok (.ireturn, 1) := by decide +kernel
theorem dL_law_265 : decode cL_law 265 = .ok (.aload_n 1, 1) := by decide +kernel
theorem dL_law_266 : decode cL_law 266 = .ok (.aload_n 0, 1) := by decide +kernel
theorem dL_law_267 : decode cL_law 267 = .ok (.iload_n 3, 1) := by decide +kernel
theorem dL_law_268 : decode cL_law 268 = .ok (.iconst 1, 1) := by decide +kernel
theorem dL_law_269 : decode cL_law 269 = .ok (.iadd, 1) := by decide +kernel
theorem dL_law_270 : decode cL_law 270 = .ok (.iaload, 1) := by decide +kernel
theorem dL_law_271 : decode cL_law 271 = .ok (.aload_n 0, 1) := by decide +kernel
theorem dL_law_272 : decode cL_law 272 = .ok (.iload_n 3, 1) := by decide +kernel
theorem dL_law_273 : decode cL_law 273 = .ok (.iconst 2, 1) := by decide +kernel
theorem dL_law_274 : decode cL_law 274 = .ok (.iadd, 1) := by decide +kernel
theorem dL_law_275 : decode cL_law 275 = .ok (.iaload, 1) := by decide +kernel
theorem dL_law_276 : decode cL_law 276 = .ok (.aload_n 0, 1) := by decide +kernel
theorem dL_law_277 : decode cL_law 277 = .ok (.iload_n 3, 1) := by decide +kernel
theorem dL_law_278 : decode cL_law 278 = .ok (.iconst 3, 1) := by decide +kernel
theorem dL_law_279 : decode cL_law 279 = .ok (.iadd, 1) := by decide +kernel
theorem dL_law_280 : decode cL_law 280 = .ok (.iaload, 1) := by decide +kernel
theorem dL_law_281 : decode cL_law 281 = .ok (.invokevirtual 18, 3) := by decide +kernel
theorem dL_law_284 : decode cL_law 284 = .ok (.aload_n 2, 1) := by decide +kernel
theorem dL_law_285 : decode cL_law 285 = .ok (.aload_n 0, 1) := by decide +kernel
theorem dL_law_286 : decode cL_law 286 = .ok (.iload_n 3, 1) := by decide +kernel
theorem dL_law_287 : decode cL_law 287 = .ok (.iconst 1, 1) := by decide +kernel
theorem dL_law_288 : decode cL_law 288 = .ok (.iadd, 1) := by decide +kernel
theorem dL_law_289 : decode cL_law 289 = .ok (.iaload, 1) := by decide +kernel
theorem dL_law_290 : decode cL_law 290 = .ok (.aload_n 0, 1) := by decide +kernel
theorem dL_law_291 : decode cL_law 291 = .ok (.iload_n 3, 1) := by decide +kernel
theorem dL_law_292 : decode cL_law 292 = .ok (.iconst 2, 1) := by decide +kernel
theorem dL_law_293 : decode cL_law 293 = .ok (.iadd, 1) := by decide +kernel
theorem dL_law_294 : decode cL_law 294 = .ok (.iaload, 1) := by decide +kernel
theorem dL_law_295 : decode cL_law 295 = .ok (.aload_n 0, 1) := by decide +kernel
theorem dL_law_296 : decode cL_law 296 = .ok (.iload_n 3, 1) := by decide +kernel
theorem dL_law_297 : decode cL_law 297 = .ok (.iconst 3, 1) := by decide +kernel
theorem dL_law_298 : decode cL_law 298 = .ok (.iadd, 1) := by decide +kernel
theorem dL_law_299 : decode cL_law 299 = .ok (.iaload, 1) := by decide +kernel
theorem dL_law_300 : decode cL_law 300 = .ok (.invokevirtual 22, 3) := by decide +kernel
theorem dL_law_303 : decode cL_law 303 = .ok (.if_icmp .eq 1210, 3) := by decide +kernel
theorem dL_law_306 : decode cL_law 306 = .ok (.iconst 0, 1) := by decide +kernel
theorem dL_law_307 : decode cL_law 307 = .ok (.ireturn, 1) := by decide +kernel
theorem dL_law_308 : decode cL_law 308 = .ok (.aload_n 1, 1) := by decide +kernel
theorem dL_law_309 : decode cL_law 309 = .ok (.aload_n 0, 1) := by decide +kernel
theorem dL_law_310 : decode cL_law 310 = .ok (.iload_n 3, 1) := by decide +kernel
theorem dL_law_311 : decode cL_law 311 = .ok (.iconst 1, 1) := by decide +kernel
theorem dL_law_312 : decode cL_law 312 = .ok (.iadd, 1) := by decide +kernel
theorem dL_law_313 : decode cL_law 313 = .ok (.iaload, 1) := by decide +kernel
theorem dL_law_314 : decode cL_law 314 = .ok (.aload_n 0, 1) := by decide +kernel
theorem dL_law_315 : decode cL_law 315 = .ok (.iload_n 3, 1) := by decide +kernel
theorem dL_law_316 : decode cL_law 316 = .ok (.iconst 2, 1) := by decide +kernel
theorem dL_law_317 : decode cL_law 317 = .ok (.iadd, 1) := by decide +kernel
theorem dL_law_318 : decode cL_law 318 = .ok (.iaload, 1) := by decide +kernel
theorem dL_law_319 : decode cL_law 319 = .ok (.invokevirtual 23, 3) := by decide +kernel
theorem dL_law_322 : decode cL_law 322 = .ok (.aload_n 2, 1) := by decide +kernel
theorem dL_law_323 : decode cL_law 323 = .ok (.aload_n 0, 1) := by decide +kernel
theorem dL_law_324 : decode cL_law 324 = .ok (.iload_n 3, 1) := by decide +kernel
theorem dL_law_325 : decode cL_law 325 = .ok (.iconst 1, 1) := by decide +kernel
theorem dL_law_326 : decode cL_law 326 = .ok (.iadd, 1) := by decide +kernel
theorem dL_law_327 : decode cL_law 327 = .ok (.iaload, 1) := by decide +kernel
theorem dL_law_328 : decode cL_law 328 = .ok (.aload_n 0, 1) := by decide +kernel
theorem dL_law_329 : decode cL_law 329 = .ok (.iload_n 3, 1) := by decide +kernel
theorem dL_law_330 : decode cL_law 330 = .ok (.iconst 2, 1) := by decide +kernel
theorem dL_law_331 : decode cL_law 331 = .ok (.iadd, 1) := by decide +kernel
theorem dL_law_332 : decode cL_law 332 = .ok (.iaload, 1) := by decide +kernel
theorem dL_law_333 : decode cL_law 333 = .ok (.invokevirtual 26, 3) := by decide +kernel
theorem dL_law_336 : decode cL_law 336 = .ok (.if_icmp .eq 1177, 3) := by decide +kernel
theorem dL_law_339 : decode cL_law 339 = .ok (.iconst 0, 1) := by decide +kernel
theorem dL_law_340 : decode cL_law 340 = .ok (.ireturn, 1) := by decide +kernel
theorem dL_law_341 : decode cL_law 341 = .ok (.aload_n 1, 1) := by decide +kernel
theorem dL_law_342 : decode cL_law 342 = .ok (.aload_n 0, 1) := by decide +kernel
theorem dL_law_343 : decode cL_law 343 = .ok (.iload_n 3, 1) := by decide +kernel
theorem dL_law_344 : decode cL_law 344 = .ok (.iconst 1, 1) := by decide +kernel
theorem dL_law_345 : decode cL_law 345 = .ok (.iadd, 1) := by decide +kernel
theorem dL_law_346 : decode cL_law 346 = .ok (.iaload, 1) := by decide +kernel
theorem dL_law_347 : decode cL_law 347 = .ok (.invokevirtual 27, 3) := by decide +kernel
theorem dL_law_350 : decode cL_law 350 = .ok (.aload_n 2, 1) := by decide +kernel
theorem dL_law_351 : decode cL_law 351 = .ok (.aload_n 0, 1) := by decide +kernel
theorem dL_law_352 : decode cL_law 352 = .ok (.iload_n 3, 1) := by decide +kernel
theorem dL_law_353 : decode cL_law 353 = .ok (.iconst 1, 1) := by decide +kernel
theorem dL_law_354 : decode cL_law 354 = .ok (.iadd, 1) := by decide +kernel
theorem dL_law_355 : decode cL_law 355 = .ok (.iaload, 1) := by decide +kernel
theorem dL_law_356 : decode cL_law 356 = .ok (.invokevirtual 31, 3) := by decide +kernel
theorem dL_law_359 : decode cL_law 359 = .ok (.if_icmp .eq 1154, 3) := by decide +kernel
theorem dL_law_362 : decode cL_law 362 = .ok (.iconst 0, 1) := by decide +kernel
theorem dL_law_363 : decode cL_law 363 = .ok (.ireturn, 1) := by decide +kernel
theorem dL_law_364 : decode cL_law 364 = .ok (.aload_n 1, 1) := by decide +kernel
theorem dL_law_365 : decode cL_law 365 = .ok (.aload_n 0, 1) := by decide +kernel
theorem dL_law_366 : decode cL_law 366 = .ok (.iload_n 3, 1) := by decide +kernel
theorem dL_law_367 : decode cL_law 367 = .ok (.iconst 1, 1) := by decide +kernel
theorem dL_law_368 : decode cL_law 368 = .ok (.iadd, 1) := by decide +kernel
theorem dL_law_369 : decode cL_law 369 = .ok (.iaload, 1) := by decide +kernel
theorem dL_law_370 : decode cL_law 370 = .ok (.aload_n 0, 1) := by decide +kernel
theorem dL_law_371 : decode cL_law 371 = .ok (.iload_n 3, 1) := by decide +kernel
theorem dL_law_372 : decode cL_law 372 = .ok (.iconst 2, 1) := by decide +kernel
theorem dL_law_373 : decode cL_law 373 = .ok (.iadd, 1) := by decide +kernel
theorem dL_law_374 : decode cL_law 374 = .ok (.iaload, 1) := by decide +kernel
theorem dL_law_375 : decode cL_law 375 = .ok (.aload_n 0, 1) := by decide +kernel
theorem dL_law_376 : decode cL_law 376 = .ok (.iload_n 3, 1) := by decide +kernel
theorem dL_law_377 : decode cL_law 377 = .ok (.iconst 3, 1) := by decide +kernel
theorem dL_law_378 : decode cL_law 378 = .ok (.iadd, 1) := by decide +kernel
theorem dL_law_379 : decode cL_law 379 = .ok (.iaload, 1) := by decide +kernel
theorem dL_law_380 : decode cL_law 380 = .ok (.aload_n 0, 1) := by decide +kernel
theorem dL_law_381 : decode cL_law 381 = .ok (.iload_n 3, 1) := by decide +kernel
theorem dL_law_382 : decode cL_law 382 = .ok (.iconst 4, 1) := by decide +kernel
theorem dL_law_383 : decode cL_law 383 = .ok (.iadd, 1) := by decide +kernel
theorem dL_law_384 : decode cL_law 384 = .ok (.iaload, 1) := by decide +kernel
theorem dL_law_385 : decode cL_law 385 = .ok (.aload_n 0, 1) := by decide +kernel
theorem dL_law_386 : decode cL_law 386 = .ok (.iload_n 3, 1) := by decide +kernel
theorem dL_law_387 : decode cL_law 387 = .ok (.iconst 5, 1) := by decide +kernel
theorem dL_law_388 : decode cL_law 388 = .ok (.iadd, 1) := by decide +kernel
theorem dL_law_389 : decode cL_law 389 = .ok (.iaload, 1) := by decide +kernel
theorem dL_law_390 : decode cL_law 390 = .ok (.invokevirtual 32, 3) := by decide +kernel
theorem dL_law_393 : decode cL_law 393 = .ok (.aload_n 2, 1) := by decide +kernel
theorem dL_law_394 : decode cL_law 394 = .ok (.aload_n 0, 1) := by decide +kernel
theorem dL_law_395 : decode cL_law 395 = .ok (.iload_n 3, 1) := by decide +kernel
theorem dL_law_396 : decode cL_law 396 = .ok (.iconst 1, 1) := by decide +kernel
theorem dL_law_397 : decode cL_law 397 = .ok (.iadd, 1) := by decide +kernel
theorem dL_law_398 : decode cL_law 398 = .ok (.iaload, 1) := by decide +kernel
theorem dL_law_399 : decode cL_law 399 = .ok (.aload_n 0, 1) := by decide +kernel
theorem dL_law_400 : decode cL_law 400 = .ok (.iload_n 3, 1) := by decide +kernel
theorem dL_law_401 : decode cL_law 401 = .ok (.iconst 2, 1) := by decide +kernel
theorem dL_law_402 : decode cL_law 402 = .ok (.iadd, 1) := by decide +kernel
theorem dL_law_403 : decode cL_law 403 = .ok (.iaload, 1) := by decide +kernel
theorem dL_law_404 : decode cL_law 404 = .ok (.aload_n 0, 1) := by decide +kernel
theorem dL_law_405 : decode cL_law 405 = .ok (.iload_n 3, 1) := by decide +kernel
theorem dL_law_406 : decode cL_law 406 = .ok (.iconst 3, 1) := by decide +kernel
theorem dL_law_407 : decode cL_law 407 = .ok (.iadd, 1) := by decide +kernel
theorem dL_law_408 : decode cL_law 408 = .ok (.iaload, 1) := by decide +kernel
theorem dL_law_409 : decode cL_law 409 = .ok (.aload_n 0, 1) := by decide +kernel
theorem dL_law_410 : decode cL_law 410 = .ok (.iload_n 3, 1) := by decide +kernel
theorem dL_law_411 : decode cL_law 411 = .ok (.iconst 4, 1) := by decide +kernel
theorem dL_law_412 : decode cL_law 412 = .ok (.iadd, 1) := by decide +kernel
theorem dL_law_413 : decode cL_law 413 = .ok (.iaload, 1) := by decide +kernel
theorem dL_law_414 : decode cL_law 414 = .ok (.aload_n 0, 1) := by decide +kernel
theorem dL_law_415 : decode cL_law 415 = .ok (.iload_n 3, 1) := by decide +kernel
theorem dL_law_416 : decode cL_law 416 = .ok (.iconst 5, 1) := by decide +kernel
theorem dL_law_417 : decode cL_law 417 = .ok (.iadd, 1) := by decide +kernel
theorem dL_law_418 : decode cL_law 418 = .ok (.iaload, 1) := by decide +kernel
theorem dL_law_419 : decode cL_law 419 = .ok (.invokevirtual 36, 3) := by decide +kernel
theorem dL_law_422 : decode cL_law 422 = .ok (.if_icmp .eq 1091, 3) := by decide +kernel
theorem dL_law_425 : decode cL_law 425 = .ok (.iconst 0, 1) := by decide +kernel
theorem dL_law_426 : decode cL_law 426 = .ok (.ireturn, 1) := by decide +kernel
theorem dL_law_427 : decode cL_law 427 = .ok (.aload_n 1, 1) := by decide +kernel
theorem dL_law_428 : decode cL_law 428 = .ok (.aload_n 0, 1) := by decide +kernel
theorem dL_law_429 : decode cL_law 429 = .ok (.iload_n 3, 1) := by decide +kernel
theorem dL_law_430 : decode cL_law 430 = .ok (.iconst 1, 1) := by decide +kernel
theorem dL_law_431 : decode cL_law 431 = .ok (.iadd, 1) := by decide +kernel
theorem dL_law_432 : decode cL_law 432 = .ok (.iaload, 1) := by decide +kernel
theorem dL_law_433 : decode cL_law 433 = .ok (.invokevirtual 37, 3) := by decide +kernel
theorem dL_law_436 : decode cL_law 436 = .ok (.aload_n 2, 1) := by decide +kernel
theorem dL_law_437 : decode cL_law 437 = .ok (.aload_n 0, 1) := by decide +kernel
theorem dL_law_438 : decode cL_law 438 = .ok (.iload_n 3, 1) := by decide +kernel
theorem dL_law_439 : decode cL_law 439 = .ok (.iconst 1, 1) := by decide +kernel
theorem dL_law_440 : decode cL_law 440 = .ok (.iadd, 1) := by decide +kernel
theorem dL_law_441 : decode cL_law 441 = .ok (.iaload, 1) := by decide +kernel
theorem dL_law_442 : decode cL_law 442 = .ok (.invokevirtual 40, 3) := by decide +kernel
theorem dL_law_445 : decode cL_law 445 = .ok (.if_icmp .eq 1068, 3) := by decide +kernel
theorem dL_law_448 : decode cL_law 448 = .ok (.iconst 0, 1) := by decide +kernel
theorem dL_law_449 : decode cL_law 449 = .ok (.ireturn, 1) := by decide +kernel
theorem dL_law_450 : decode cL_law 450 = .ok (.aload_n 1, 1) := by decide +kernel
theorem dL_law_451 : decode cL_law 451 = .ok (.aload_n 0, 1) := by decide +kernel
theorem dL_law_452 : decode cL_law 452 = .ok (.iload_n 3, 1) := by decide +kernel
theorem dL_law_453 : decode cL_law 453 = .ok (.iconst 1, 1) := by decide +kernel
theorem dL_law_454 : decode cL_law 454 = .ok (.iadd, 1) := by decide +kernel
theorem dL_law_455 : decode cL_law 455 = .ok (.iaload, 1) := by decide +kernel
theorem dL_law_456 : decode cL_law 456 = .ok (.aload_n 0, 1) := by decide +kernel
theorem dL_law_457 : decode cL_law 457 = .ok (.iload_n 3, 1) := by decide +kernel
theorem dL_law_458 : decode cL_law 458 = .ok (.iconst 2, 1) := by decide +kernel
theorem dL_law_459 : decode cL_law 459 = .ok (.iadd, 1) := by decide +kernel
theorem dL_law_460 : decode cL_law 460 = .ok (.iaload, 1) := by decide +kernel
theorem dL_law_461 : decode cL_law 461 = .ok (.invokevirtual 41, 3) := by decide +kernel
theorem dL_law_464 : decode cL_law 464 = .ok (.aload_n 2, 1) := by decide +kernel
theorem dL_law_465 : decode cL_law 465 = .ok (.aload_n 0, 1) := by decide +kernel
theorem dL_law_466 : decode cL_law 466 = .ok (.iload_n 3, 1) := by decide +kernel
theorem dL_law_467 : decode cL_law 467 = .ok (.iconst 1, 1) := by decide +kernel
theorem dL_law_468 : decode cL_law 468 = .ok (.iadd, 1) := by decide +kernel
theorem dL_law_469 : decode cL_law 469 = .ok (.iaload, 1) := by decide +kernel
theorem dL_law_470 : decode cL_law 470 = .ok (.aload_n 0, 1) := by decide +kernel
theorem dL_law_471 : decode cL_law 471 = .ok (.iload_n 3, 1) := by decide +kernel
theorem dL_law_472 : decode cL_law 472 = .ok (.iconst 2, 1) := by decide +kernel
theorem dL_law_473 : decode cL_law 473 = .ok (.iadd, 1) := by decide +kernel
theorem dL_law_474 : decode cL_law 474 = .ok (.iaload, 1) := by decide +kernel
theorem dL_law_475 : decode cL_law 475 = .ok (.invokevirtual 44, 3) := by decide +kernel
theorem dL_law_478 : decode cL_law 478 = .ok (.if_icmp .eq 1035, 3) := by decide +kernel
theorem dL_law_481 : decode cL_law 481 = .ok (.iconst 0, 1) := by decide +kernel
theorem dL_law_482 : decode cL_law 482 = .ok (.ireturn, 1) := by decide +kernel
theorem dL_law_483 : decode cL_law 483 = .ok (.aload_n 1, 1) := by decide +kernel
theorem dL_law_484 : decode cL_law 484 = .ok (.aload_n 0, 1) := by decide +kernel
theorem dL_law_485 : decode cL_law 485 = .ok (.iload_n 3, 1) := by decide +kernel
theorem dL_law_486 : decode cL_law 486 = .ok (.iconst 1, 1) := by decide +kernel
theorem dL_law_487 : decode cL_law 487 = .ok (.iadd, 1) := by decide +kernel
theorem dL_law_488 : decode cL_law 488 = .ok (.iaload, 1) := by decide +kernel
theorem dL_law_489 : decode cL_law 489 = .ok (.aload_n 0, 1) := by decide +kernel
theorem dL_law_490 : decode cL_law 490 = .ok (.iload_n 3, 1) := by decide +kernel
theorem dL_law_491 : decode cL_law 491 = .ok (.iconst 2, 1) := by decide +kernel
theorem dL_law_492 : decode cL_law 492 = .ok (.iadd, 1) := by decide +kernel
theorem dL_law_493 : decode cL_law 493 = .ok (.iaload, 1) := by decide +kernel
theorem dL_law_494 : decode cL_law 494 = .ok (.aload_n 0, 1) := by decide +kernel
theorem dL_law_495 : decode cL_law 495 = .ok (.iload_n 3, 1) := by decide +kernel
theorem dL_law_496 : decode cL_law 496 = .ok (.iconst 3, 1) := by decide +kernel
theorem dL_law_497 : decode cL_law 497 = .ok (.iadd, 1) := by decide +kernel
theorem dL_law_498 : decode cL_law 498 = .ok (.iaload, 1) := by decide +kernel
theorem dL_law_499 : decode cL_law 499 = .ok (.invokevirtual 45, 3) := by decide +kernel
theorem dL_law_502 : decode cL_law 502 = .ok (.aload_n 2, 1) := by decide +kernel
theorem dL_law_503 : decode cL_law 503 = .ok (.aload_n 0, 1) := by decide +kernel
theorem dL_law_504 : decode cL_law 504 = .ok (.iload_n 3, 1) := by decide +kernel
theorem dL_law_505 : decode cL_law 505 = .ok (.iconst 1, 1) := by decide +kernel
theorem dL_law_506 : decode cL_law 506 = .ok (.iadd, 1) := by decide +kernel
theorem dL_law_507 : decode cL_law 507 = .ok (.iaload, 1) := by decide +kernel
theorem dL_law_508 : decode cL_law 508 = .ok (.aload_n 0, 1) := by decide +kernel
theorem dL_law_509 : decode cL_law 509 = .ok (.iload_n 3, 1) := by decide +kernel
theorem dL_law_510 : decode cL_law 510 = .ok (.iconst 2, 1) := by decide +kernel
theorem dL_law_511 : decode cL_law 511 = .ok (.iadd, 1) := by decide +kernel
theorem dL_law_512 : decode cL_law 512 = .ok (.iaload, 1) := by decide +kernel
theorem dL_law_513 : decode cL_law 513 = .ok (.aload_n 0, 1) := by decide +kernel
theorem dL_law_514 : decode cL_law 514 = .ok (.iload_n 3, 1) := by decide +kernel
theorem dL_law_515 : decode cL_law 515 = .ok (.iconst 3, 1) := by decide +kernel
theorem dL_law_516 : decode cL_law 516 = .ok (.iadd, 1) := by decide +kernel
theorem dL_law_517 : decode cL_law 517 = .ok (.iaload, 1) := by decide +kernel
theorem dL_law_518 : decode cL_law 518 = .ok (.invokevirtual 48, 3) := by decide +kernel
theorem dL_law_521 : decode cL_law 521 = .ok (.if_icmp .eq 992, 3) := by decide +kernel
theorem dL_law_524 : decode cL_law 524 = .ok (.iconst 0, 1) := by decide +kernel
theorem dL_law_525 : decode cL_law 525 = .ok (.ireturn, 1) := by decide +kernel
theorem dL_law_526 : decode cL_law 526 = .ok (.aload_n 1, 1) := by decide +kernel
theorem dL_law_527 : decode cL_law 527 = .ok (.aload_n 0, 1) := by decide +kernel
theorem dL_law_528 : decode cL_law 528 = .ok (.iload_n 3, 1) := by decide +kernel
theorem dL_law_529 : decode cL_law 529 = .ok (.iconst 1, 1) := by decide +kernel
theorem dL_law_530 : decode cL_law 530 = .ok (.iadd, 1) := by decide +kernel
theorem dL_law_531 : decode cL_law 531 = .ok (.iaload, 1) := by decide +kernel
theorem dL_law_532 : decode cL_law 532 = .ok (.invokevirtual 49, 3) := by decide +kernel
theorem dL_law_535 : decode cL_law 535 = .ok (.aload_n 2, 1) := by decide +kernel
theorem dL_law_536 : decode cL_law 536 = .ok (.aload_n 0, 1) := by decide +kernel
theorem dL_law_537 : decode cL_law 537 = .ok (.iload_n 3, 1) := by decide +kernel
theorem dL_law_538 : decode cL_law 538 = .ok (.iconst 1, 1) := by decide +kernel
theorem dL_law_539 : decode cL_law 539 = .ok (.iadd, 1) := by decide +kernel
theorem dL_law_540 : decode cL_law 540 = .ok (.iaload, 1) := by decide +kernel
theorem dL_law_541 : decode cL_law 541 = .ok (.invokevirtual 52, 3) := by decide +kernel
theorem dL_law_544 : decode cL_law 544 = .ok (.if_icmp .eq 969, 3) := by decide +kernel
theorem dL_law_547 : decode cL_law 547 = .ok (.iconst 0, 1) := by decide +kernel
theorem dL_law_548 : decode cL_law 548 = .ok (.ireturn, 1) := by decide +kernel
theorem dL_law_549 : decode cL_law 549 = .ok (.aload_n 1, 1) := by decide +kernel
theorem dL_law_550 : decode cL_law 550 = .ok (.aload_n 0, 1) := by decide +kernel
theorem dL_law_551 : decode cL_law 551 = .ok (.iload_n 3, 1) := by decide +kernel
theorem dL_law_552 : decode cL_law 552 = .ok (.iconst 1, 1) := by decide +kernel
theorem dL_law_553 : decode cL_law 553 = .ok (.iadd, 1) := by decide +kernel
theorem dL_law_554 : decode cL_law 554 = .ok (.iaload, 1) := by decide +kernel
theorem dL_law_555 : decode cL_law 555 = .ok (.invokevirtual 53, 3) := by decide +kernel
theorem dL_law_558 : decode cL_law 558 = .ok (.aload_n 2, 1) := by decide +kernel
theorem dL_law_559 : decode cL_law 559 = .ok (.aload_n 0, 1) := by decide +kernel
theorem dL_law_560 : decode cL_law 560 = .ok (.iload_n 3, 1) := by decide +kernel
theorem dL_law_561 : decode cL_law 561 = .ok (.iconst 1, 1) := by decide +kernel
theorem dL_law_562 : decode cL_law 562 = .ok (.iadd, 1) := by decide +kernel
theorem dL_law_563 : decode cL_law 563 = .ok (.iaload, 1) := by decide +kernel
theorem dL_law_564 : decode cL_law 564 = .ok (.invokevirtual 56, 3) := by decide +kernel
theorem dL_law_567 : decode cL_law 567 = .ok (.if_icmp .eq 946, 3) := by decide +kernel
theorem dL_law_570 : decode cL_law 570 = .ok (.iconst 0, 1) := by decide +kernel
theorem dL_law_571 : decode cL_law 571 = .ok (.ireturn, 1) := by decide +kernel
theorem dL_law_572 : decode cL_law 572 = .ok (.aload_n 1, 1) := by decide +kernel
theorem dL_law_573 : decode cL_law 573 = .ok (.aload_n 0, 1) := by decide +kernel
theorem dL_law_574 : decode cL_law 574 = .ok (.iload_n 3, 1) := by decide +kernel
theorem dL_law_575 : decode cL_law 575 = .ok (.iconst 1, 1) := by decide +kernel
theorem dL_law_576 : decode cL_law 576 = .ok (.iadd, 1) := by decide +kernel
theorem dL_law_577 : decode cL_law 577 = .ok (.iaload, 1) := by decide +kernel
theorem dL_law_578 : decode cL_law 578 = .ok (.invokevirtual 57, 3) := by decide +kernel
theorem dL_law_581 : decode cL_law 581 = .ok (.aload_n 2, 1) := by decide +kernel
theorem dL_law_582 : decode cL_law 582 = .ok (.aload_n 0, 1) := by decide +kernel
theorem dL_law_583 : decode cL_law 583 = .ok (.iload_n 3, 1) := by decide +kernel
theorem dL_law_584 : decode cL_law 584 = .ok (.iconst 1, 1) := by decide +kernel
theorem dL_law_585 : decode cL_law 585 = .ok (.iadd, 1) := by decide +kernel
theorem dL_law_586 : decode cL_law 586 = .ok (.iaload, 1) := by decide +kernel
theorem dL_law_587 : decode cL_law 587 = .ok (.invokevirtual 60, 3) := by decide +kernel
theorem dL_law_590 : decode cL_law 590 = .ok (.if_icmp .eq 923, 3) := by decide +kernel
theorem dL_law_593 : decode cL_law 593 = .ok (.iconst 0, 1) := by decide +kernel
theorem dL_law_594 : decode cL_law 594 = .ok (.ireturn, 1) := by decide +kernel
theorem dL_law_595 : decode cL_law 595 = .ok (.aload_n 1, 1) := by decide +kernel
theorem dL_law_596 : decode cL_law 596 = .ok (.aload_n 0, 1) := by decide +kernel
theorem dL_law_597 : decode cL_law 597 = .ok (.iload_n 3, 1) := by decide +kernel
theorem dL_law_598 : decode cL_law 598 = .ok (.iconst 1, 1) := by decide +kernel
theorem dL_law_599 : decode cL_law 599 = .ok (.iadd, 1) := by decide +kernel
theorem dL_law_600 : decode cL_law 600 = .ok (.iaload, 1) := by decide +kernel
theorem dL_law_601 : decode cL_law 601 = .ok (.aload_n 0, 1) := by decide +kernel
theorem dL_law_602 : decode cL_law 602 = .ok (.iload_n 3, 1) := by decide +kernel
theorem dL_law_603 : decode cL_law 603 = .ok (.iconst 2, 1) := by decide +kernel
theorem dL_law_604 : decode cL_law 604 = .ok (.iadd, 1) := by decide +kernel
theorem dL_law_605 : decode cL_law 605 = .ok (.iaload, 1) := by decide +kernel
theorem dL_law_606 : decode cL_law 606 = .ok (.aload_n 0, 1) := by decide +kernel
theorem dL_law_607 : decode cL_law 607 = .ok (.iload_n 3, 1) := by decide +kernel
theorem dL_law_608 : decode cL_law 608 = .ok (.iconst 3, 1) := by decide +kernel
theorem dL_law_609 : decode cL_law 609 = .ok (.iadd, 1) := by decide +kernel
theorem dL_law_610 : decode cL_law 610 = .ok (.iaload, 1) := by decide +kernel
theorem dL_law_611 : decode cL_law 611 = .ok (.invokevirtual 61, 3) := by decide +kernel
theorem dL_law_614 : decode cL_law 614 = .ok (.aload_n 2, 1) := by decide +kernel
theorem dL_law_615 : decode cL_law 615 = .ok (.aload_n 0, 1) := by decide +kernel
theorem dL_law_616 : decode cL_law 616 = .ok (.iload_n 3, 1) := by decide +kernel
theorem dL_law_617 : decode cL_law 617 = .ok (.iconst 1, 1) := by decide +kernel
theorem dL_law_618 : decode cL_law 618 = .ok (.iadd, 1) := by decide +kernel
theorem dL_law_619 : decode cL_law 619 = .ok (.iaload, 1) := by decide +kernel
theorem dL_law_620 : decode cL_law 620 = .ok (.aload_n 0, 1) := by decide +kernel
theorem dL_law_621 : decode cL_law 621 = .ok (.iload_n 3, 1) := by decide +kernel
theorem dL_law_622 : decode cL_law 622 = .ok (.iconst 2, 1) := by decide +kernel
theorem dL_law_623 : decode cL_law 623 = .ok (.iadd, 1) := by decide +kernel
theorem dL_law_624 : decode cL_law 624 = .ok (.iaload, 1) := by decide +kernel
theorem dL_law_625 : decode cL_law 625 = .ok (.aload_n 0, 1) := by decide +kernel
theorem dL_law_626 : decode cL_law 626 = .ok (.iload_n 3, 1) := by decide +kernel
theorem dL_law_627 : decode cL_law 627 = .ok (.iconst 3, 1) := by decide +kernel
theorem dL_law_628 : decode cL_law 628 = .ok (.iadd, 1) := by decide +kernel
theorem dL_law_629 : decode cL_law 629 = .ok (.iaload, 1) := by decide +kernel
theorem dL_law_630 : decode cL_law 630 = .ok (.invokevirtual 64, 3) := by decide +kernel
theorem dL_law_633 : decode cL_law 633 = .ok (.if_icmp .eq 880, 3) := by decide +kernel
theorem dL_law_636 : decode cL_law 636 = .ok (.iconst 0, 1) := by decide +kernel
theorem dL_law_637 : decode cL_law 637 = .ok (.ireturn, 1) := by decide +kernel
theorem dL_law_638 : decode cL_law 638 = .ok (.aload_n 1, 1) := by decide +kernel
theorem dL_law_639 : decode cL_law 639 = .ok (.aload_n 0, 1) := by decide +kernel
theorem dL_law_640 : decode cL_law 640 = .ok (.iload_n 3, 1) := by decide +kernel
theorem dL_law_641 : decode cL_law 641 = .ok (.iconst 1, 1) := by decide +kernel
theorem dL_law_642 : decode cL_law 642 = .ok (.iadd, 1) := by decide +kernel
theorem dL_law_643 : decode cL_law 643 = .ok (.iaload, 1) := by decide +kernel
theorem dL_law_644 : decode cL_law 644 = .ok (.aload_n 0, 1) := by decide +kernel
theorem dL_law_645 : decode cL_law 645 = .ok (.iload_n 3, 1) := by decide +kernel
theorem dL_law_646 : decode cL_law 646 = .ok (.iconst 2, 1) := by decide +kernel
theorem dL_law_647 : decode cL_law 647 = .ok (.iadd, 1) := by decide +kernel
theorem dL_law_648 : decode cL_law 648 = .ok (.iaload, 1) := by decide +kernel
theorem dL_law_649 : decode cL_law 649 = .ok (.aload_n 0, 1) := by decide +kernel
theorem dL_law_650 : decode cL_law 650 = .ok (.iload_n 3, 1) := by decide +kernel
theorem dL_law_651 : decode cL_law 651 = .ok (.iconst 3, 1) := by decide +kernel
theorem dL_law_652 : decode cL_law 652 = .ok (.iadd, 1) := by decide +kernel
theorem dL_law_653 : decode cL_law 653 = .ok (.iaload, 1) := by decide +kernel
theorem dL_law_654 : decode cL_law 654 = .ok (.invokevirtual 65, 3) := by decide +kernel
theorem dL_law_657 : decode cL_law 657 = .ok (.aload_n 2, 1) := by decide +kernel
theorem dL_law_658 : decode cL_law 658 = .ok (.aload_n 0, 1) := by decide +kernel
theorem dL_law_659 : decode cL_law 659 = .ok (.iload_n 3, 1) := by decide +kernel
theorem dL_law_660 : decode cL_law 660 = .ok (.iconst 1, 1) := by decide +kernel
theorem dL_law_661 : decode cL_law 661 = .ok (.iadd, 1) := by decide +kernel
theorem dL_law_662 : decode cL_law 662 = .ok (.iaload, 1) := by decide +kernel
theorem dL_law_663 : decode cL_law 663 = .ok (.aload_n 0, 1) := by decide +kernel
theorem dL_law_664 : decode cL_law 664 = .ok (.iload_n 3, 1) := by decide +kernel
theorem dL_law_665 : decode cL_law 665 = .ok (.iconst 2, 1) := by decide +kernel
theorem dL_law_666 : decode cL_law 666 = .ok (.iadd, 1) := by decide +kernel
theorem dL_law_667 : decode cL_law 667 = .ok (.iaload, 1) := by decide +kernel
theorem dL_law_668 : decode cL_law 668 = .ok (.aload_n 0, 1) := by decide +kernel
theorem dL_law_669 : decode cL_law 669 = .ok (.iload_n 3, 1) := by decide +kernel
theorem dL_law_670 : decode cL_law 670 = .ok (.iconst 3, 1) := by decide +kernel
theorem dL_law_671 : decode cL_law 671 = .ok (.iadd, 1) := by decide +kernel
theorem dL_law_672 : decode cL_law 672 = .ok (.iaload, 1) := by decide +kernel
theorem dL_law_673 : decode cL_law 673 = .ok (.invokevirtual 68, 3) := by decide +kernel
theorem dL_law_676 : decode cL_law 676 = .ok (.if_icmp .eq 837, 3) := by decide +kernel
theorem dL_law_679 : decode cL_law 679 = .ok (.iconst 0, 1) := by decide +kernel
theorem dL_law_680 : decode cL_law 680 = .ok (.ireturn, 1) := by decide +kernel
theorem dL_law_681 : decode cL_law 681 = .ok (.aload_n 1, 1) := by decide +kernel
theorem dL_law_682 : decode cL_law 682 = .ok (.aload_n 0, 1) := by decide +kernel
theorem dL_law_683 : decode cL_law 683 = .ok (.iload_n 3, 1) := by decide +kernel
theorem dL_law_684 : decode cL_law 684 = .ok (.iconst 1, 1) := by decide +kernel
theorem dL_law_685 : decode cL_law 685 = .ok (.iadd, 1) := by decide +kernel
theorem dL_law_686 : decode cL_law 686 = .ok (.iaload, 1) := by decide +kernel
theorem dL_law_687 : decode cL_law 687 = .ok (.aload_n 0, 1) := by decide +kernel
theorem dL_law_688 : decode cL_law 688 = .ok (.iload_n 3, 1) := by decide +kernel
theorem dL_law_689 : decode cL_law 689 = .ok (.iconst 2, 1) := by decide +kernel
theorem dL_law_690 : decode cL_law 690 = .ok (.iadd, 1) := by decide +kernel
theorem dL_law_691 : decode cL_law 691 = .ok (.iaload, 1) := by decide +kernel
theorem dL_law_692 : decode cL_law 692 = .ok (.aload_n 0, 1) := by decide +kernel
theorem dL_law_693 : decode cL_law 693 = .ok (.iload_n 3, 1) := by decide +kernel
theorem dL_law_694 : decode cL_law 694 = .ok (.iconst 3, 1) := by decide +kernel
theorem dL_law_695 : decode cL_law 695 = .ok (.iadd, 1) := by decide +kernel
theorem dL_law_696 : decode cL_law 696 = .ok (.iaload, 1) := by decide +kernel
theorem dL_law_697 : decode cL_law 697 = .ok (.invokevirtual 69, 3) := by decide +kernel
theorem dL_law_700 : decode cL_law 700 = .ok (.aload_n 2, 1) := by decide +kernel
theorem dL_law_701 : decode cL_law 701 = .ok (.aload_n 0, 1) := by decide +kernel
theorem dL_law_702 : decode cL_law 702 = .ok (.iload_n 3, 1) := by decide +kernel
theorem dL_law_703 : decode cL_law 703 = .ok (.iconst 1, 1) := by decide +kernel
theorem dL_law_704 : decode cL_law 704 = .ok (.iadd, 1) := by decide +kernel
theorem dL_law_705 : decode cL_law 705 = .ok (.iaload, 1) := by decide +kernel
theorem dL_law_706 : decode cL_law 706 = .ok (.aload_n 0, 1) := by decide +kernel
theorem dL_law_707 : decode cL_law 707 = .ok (.iload_n 3, 1) := by decide +kernel
theorem dL_law_708 : decode cL_law 708 = .ok (.iconst 2, 1) := by decide +kernel
theorem dL_law_709 : decode cL_law 709 = .ok (.iadd, 1) := by decide +kernel
theorem dL_law_710 : decode cL_law 710 = .ok (.iaload, 1) := by decide +kernel
theorem dL_law_711 : decode cL_law 711 = .ok (.aload_n 0, 1) := by decide +kernel
theorem dL_law_712 : decode cL_law 712 = .ok (.iload_n 3, 1) := by decide +kernel
theorem dL_law_713 : decode cL_law 713 = .ok (.iconst 3, 1) := by decide +kernel
theorem dL_law_714 : decode cL_law 714 = .ok (.iadd, 1) := by decide +kernel
theorem dL_law_715 : decode cL_law 715 = .ok (.iaload, 1) := by decide +kernel
theorem dL_law_716 : decode cL_law 716 = .ok (.invokevirtual 72, 3) := by decide +kernel
theorem dL_law_719 : decode cL_law 719 = .ok (.if_icmp .eq 794, 3) := by decide +kernel
theorem dL_law_722 : decode cL_law 722 = .ok (.iconst 0, 1) := by decide +kernel
theorem dL_law_723 : decode cL_law 723 = .ok (.ireturn, 1) := by decide +kernel
theorem dL_law_724 : decode cL_law 724 = .ok (.aload_n 1, 1) := by decide +kernel
theorem dL_law_725 : decode cL_law 725 = .ok (.aload_n 0, 1) := by decide +kernel
theorem dL_law_726 : decode cL_law 726 = .ok (.iload_n 3, 1) := by decide +kernel
theorem dL_law_727 : decode cL_law 727 = .ok (.iconst 1, 1) := by decide +kernel
theorem dL_law_728 : decode cL_law 728 = .ok (.iadd, 1) := by decide +kernel
theorem dL_law_729 : decode cL_law 729 = .ok (.iaload, 1) := by decide +kernel
theorem dL_law_730 : decode cL_law 730 = .ok (.aload_n 0, 1) := by decide +kernel
theorem dL_law_731 : decode cL_law 731 = .ok (.iload_n 3, 1) := by decide +kernel
theorem dL_law_732 : decode cL_law 732 = .ok (.iconst 2, 1) := by decide +kernel
theorem dL_law_733 : decode cL_law 733 = .ok (.iadd, 1) := by decide +kernel
theorem dL_law_734 : decode cL_law 734 = .ok (.iaload, 1) := by decide +kernel
theorem dL_law_735 : decode cL_law 735 = .ok (.aload_n 0, 1) := by decide +kernel
theorem dL_law_736 : decode cL_law 736 = .ok (.iload_n 3, 1) := by decide +kernel
theorem dL_law_737 : decode cL_law 737 = .ok (.iconst 3, 1) := by decide +kernel
theorem dL_law_738 : decode cL_law 738 = .ok (.iadd, 1) := by decide +kernel
theorem dL_law_739 : decode cL_law 739 = .ok (.iaload, 1) := by decide +kernel
theorem dL_law_740 : decode cL_law 740 = .ok (.invokevirtual 73, 3) := by decide +kernel
theorem dL_law_743 : decode cL_law 743 = .ok (.aload_n 2, 1) := by decide +kernel
theorem dL_law_744 : decode cL_law 744 = .ok (.aload_n 0, 1) := by decide +kernel
theorem dL_law_745 : decode cL_law 745 = .ok (.iload_n 3, 1) := by decide +kernel
theorem dL_law_746 : decode cL_law 746 = .ok (.iconst 1, 1) := by decide +kernel
theorem dL_law_747 : decode cL_law 747 = .ok (.iadd, 1) := by decide +kernel
theorem dL_law_748 : decode cL_law 748 = .ok (.iaload, 1) := by decide +kernel
theorem dL_law_749 : decode cL_law 749 = .ok (.aload_n 0, 1) := by decide +kernel
theorem dL_law_750 : decode cL_law 750 = .ok (.iload_n 3, 1) := by decide +kernel
theorem dL_law_751 : decode cL_law 751 = .ok (.iconst 2, 1) := by decide +kernel
theorem dL_law_752 : decode cL_law 752 = .ok (.iadd, 1) := by decide +kernel
theorem dL_law_753 : decode cL_law 753 = .ok (.iaload, 1) := by decide +kernel
theorem dL_law_754 : decode cL_law 754 = .ok (.aload_n 0, 1) := by decide +kernel
theorem dL_law_755 : decode cL_law 755 = .ok (.iload_n 3, 1) := by decide +kernel
theorem dL_law_756 : decode cL_law 756 = .ok (.iconst 3, 1) := by decide +kernel
theorem dL_law_757 : decode cL_law 757 = .ok (.iadd, 1) := by decide +kernel
theorem dL_law_758 : decode cL_law 758 = .ok (.iaload, 1) := by decide +kernel
theorem dL_law_759 : decode cL_law 759 = .ok (.invokevirtual 76, 3) := by decide +kernel
theorem dL_law_762 : decode cL_law 762 = .ok (.if_icmp .eq 751, 3) := by decide +kernel
theorem dL_law_765 : decode cL_law 765 = .ok (.iconst 0, 1) := by decide +kernel
theorem dL_law_766 : decode cL_law 766 = .ok (.ireturn, 1) := by decide +kernel
theorem dL_law_767 : decode cL_law 767 = .ok (.aload_n 1, 1) := by decide +kernel
theorem dL_law_768 : decode cL_law 768 = .ok (.aload_n 0, 1) := by decide +kernel
theorem dL_law_769 : decode cL_law 769 = .ok (.iload_n 3, 1) := by decide +kernel
theorem dL_law_770 : decode cL_law 770 = .ok (.iconst 1, 1) := by decide +kernel
theorem dL_law_771 : decode cL_law 771 = .ok (.iadd, 1) := by decide +kernel
theorem dL_law_772 : decode cL_law 772 = .ok (.iaload, 1) := by decide +kernel
theorem dL_law_773 : decode cL_law 773 = .ok (.aload_n 0, 1) := by decide +kernel
theorem dL_law_774 : decode cL_law 774 = .ok (.iload_n 3, 1) := by decide +kernel
theorem dL_law_775 : decode cL_law 775 = .ok (.iconst 2, 1) := by decide +kernel
theorem dL_law_776 : decode cL_law 776 = .ok (.iadd, 1) := by decide +kernel
theorem dL_law_777 : decode cL_law 777 = .ok (.iaload, 1) := by decide +kernel
theorem dL_law_778 : decode cL_law 778 = .ok (.invokevirtual 77, 3) := by decide +kernel
theorem dL_law_781 : decode cL_law 781 = .ok (.aload_n 2, 1) := by decide +kernel
theorem dL_law_782 : decode cL_law 782 = .ok (.aload_n 0, 1) := by decide +kernel
theorem dL_law_783 : decode cL_law 783 = .ok (.iload_n 3, 1) := by decide +kernel
theorem dL_law_784 : decode cL_law 784 = .ok (.iconst 1, 1) := by decide +kernel
theorem dL_law_785 : decode cL_law 785 = .ok (.iadd, 1) := by decide +kernel
theorem dL_law_786 : decode cL_law 786 = .ok (.iaload, 1) := by decide +kernel
theorem dL_law_787 : decode cL_law 787 = .ok (.aload_n 0, 1) := by decide +kernel
theorem dL_law_788 : decode cL_law 788 = .ok (.iload_n 3, 1) := by decide +kernel
theorem dL_law_789 : decode cL_law 789 = .ok (.iconst 2, 1) := by decide +kernel
theorem dL_law_790 : decode cL_law 790 = .ok (.iadd, 1) := by decide +kernel
theorem dL_law_791 : decode cL_law 791 = .ok (.iaload, 1) := by decide +kernel
theorem dL_law_792 : decode cL_law 792 = .ok (.invokevirtual 80, 3) := by decide +kernel
theorem dL_law_795 : decode cL_law 795 = .ok (.if_icmp .eq 718, 3) := by decide +kernel
theorem dL_law_798 : decode cL_law 798 = .ok (.iconst 0, 1) := by decide +kernel
theorem dL_law_799 : decode cL_law 799 = .ok (.ireturn, 1) := by decide +kernel
theorem dL_law_800 : decode cL_law 800 = .ok (.aload_n 1, 1) := by decide +kernel
theorem dL_law_801 : decode cL_law 801 = .ok (.aload_n 0, 1) := by decide +kernel
theorem dL_law_802 : decode cL_law 802 = .ok (.iload_n 3, 1) := by decide +kernel
theorem dL_law_803 : decode cL_law 803 = .ok (.iconst 1, 1) := by decide +kernel
theorem dL_law_804 : decode cL_law 804 = .ok (.iadd, 1) := by decide +kernel
theorem dL_law_805 : decode cL_law 805 = .ok (.iaload, 1) := by decide +kernel
theorem dL_law_806 : decode cL_law 806 = .ok (.invokevirtual 81, 3) := by decide +kernel
theorem dL_law_809 : decode cL_law 809 = .ok (.aload_n 2, 1) := by decide +kernel
theorem dL_law_810 : decode cL_law 810 = .ok (.aload_n 0, 1) := by decide +kernel
theorem dL_law_811 : decode cL_law 811 = .ok (.iload_n 3, 1) := by decide +kernel
theorem dL_law_812 : decode cL_law 812 = .ok (.iconst 1, 1) := by decide +kernel
theorem dL_law_813 : decode cL_law 813 = .ok (.iadd, 1) := by decide +kernel
theorem dL_law_814 : decode cL_law 814 = .ok (.iaload, 1) := by decide +kernel
theorem dL_law_815 : decode cL_law 815 = .ok (.invokevirtual 84, 3) := by decide +kernel
theorem dL_law_818 : decode cL_law 818 = .ok (.if_icmp .eq 695, 3) := by decide +kernel
theorem dL_law_821 : decode cL_law 821 = .ok (.iconst 0, 1) := by decide +kernel
theorem dL_law_822 : decode cL_law 822 = .ok (.ireturn, 1) := by decide +kernel
theorem dL_law_823 : decode cL_law 823 = .ok (.aload_n 1, 1) := by decide +kernel
theorem dL_law_824 : decode cL_law 824 = .ok (.aload_n 0, 1) := by decide +kernel
theorem dL_law_825 : decode cL_law 825 = .ok (.iload_n 3, 1) := by decide +kernel
theorem dL_law_826 : decode cL_law 826 = .ok (.iconst 1, 1) := by decide +kernel
theorem dL_law_827 : decode cL_law 827 = .ok (.iadd, 1) := by decide +kernel
theorem dL_law_828 : decode cL_law 828 = .ok (.iaload, 1) := by decide +kernel
theorem dL_law_829 : decode cL_law 829 = .ok (.invokevirtual 85, 3) := by decide +kernel
theorem dL_law_832 : decode cL_law 832 = .ok (.aload_n 2, 1) := by decide +kernel
theorem dL_law_833 : decode cL_law 833 = .ok (.aload_n 0, 1) := by decide +kernel
theorem dL_law_834 : decode cL_law 834 = .ok (.iload_n 3, 1) := by decide +kernel
theorem dL_law_835 : decode cL_law 835 = .ok (.iconst 1, 1) := by decide +kernel
theorem dL_law_836 : decode cL_law 836 = .ok (.iadd, 1) := by decide +kernel
theorem dL_law_837 : decode cL_law 837 = .ok (.iaload, 1) := by decide +kernel
theorem dL_law_838 : decode cL_law 838 = .ok (.invokevirtual 88, 3) := by decide +kernel
theorem dL_law_841 : decode cL_law 841 = .ok (.if_icmp .eq 672, 3) := by decide +kernel
theorem dL_law_844 : decode cL_law 844 = .ok (.iconst 0, 1) := by decide +kernel
theorem dL_law_845 : decode cL_law 845 = .ok (.ireturn, 1) := by decide +kernel
theorem dL_law_846 : decode cL_law 846 = .ok (.aload_n 1, 1) := by decide +kernel
theorem dL_law_847 : decode cL_law 847 = .ok (.aload_n 0, 1) := by decide +kernel
theorem dL_law_848 : decode cL_law 848 = .ok (.iload_n 3, 1) := by decide +kernel
theorem dL_law_849 : decode cL_law 849 = .ok (.iconst 1, 1) := by decide +kernel
theorem dL_law_850 : decode cL_law 850 = .ok (.iadd, 1) := by decide +kernel
theorem dL_law_851 : decode cL_law 851 = .ok (.iaload, 1) := by decide +kernel
theorem dL_law_852 : decode cL_law 852 = .ok (.invokevirtual 89, 3) := by decide +kernel
theorem dL_law_855 : decode cL_law 855 = .ok (.aload_n 2, 1) := by decide +kernel
theorem dL_law_856 : decode cL_law 856 = .ok (.aload_n 0, 1) := by decide +kernel
theorem dL_law_857 : decode cL_law 857 = .ok (.iload_n 3, 1) := by decide +kernel
theorem dL_law_858 : decode cL_law 858 = .ok (.iconst 1, 1) := by decide +kernel
theorem dL_law_859 : decode cL_law 859 = .ok (.iadd, 1) := by decide +kernel
theorem dL_law_860 : decode cL_law 860 = .ok (.iaload, 1) := by decide +kernel
theorem dL_law_861 : decode cL_law 861 = .ok (.invokevirtual 92, 3) := by decide +kernel
theorem dL_law_864 : decode cL_law 864 = .ok (.if_icmp .eq 649, 3) := by decide +kernel
theorem dL_law_867 : decode cL_law 867 = .ok (.iconst 0, 1) := by decide +kernel
theorem dL_law_868 : decode cL_law 868 = .ok (.ireturn, 1) := by decide +kernel
theorem dL_law_869 : decode cL_law 869 = .ok (.aload_n 1, 1) := by decide +kernel
theorem dL_law_870 : decode cL_law 870 = .ok (.aload_n 0, 1) := by decide +kernel
theorem dL_law_871 : decode cL_law 871 = .ok (.iload_n 3, 1) := by decide +kernel
theorem dL_law_872 : decode cL_law 872 = .ok (.iconst 1, 1) := by decide +kernel
theorem dL_law_873 : decode cL_law 873 = .ok (.iadd, 1) := by decide +kernel
theorem dL_law_874 : decode cL_law 874 = .ok (.iaload, 1) := by decide +kernel
theorem dL_law_875 : decode cL_law 875 = .ok (.aload_n 0, 1) := by decide +kernel
theorem dL_law_876 : decode cL_law 876 = .ok (.iload_n 3, 1) := by decide +kernel
theorem dL_law_877 : decode cL_law 877 = .ok (.iconst 2, 1) := by decide +kernel
theorem dL_law_878 : decode cL_law 878 = .ok (.iadd, 1) := by decide +kernel
theorem dL_law_879 : decode cL_law 879 = .ok (.iaload, 1) := by decide +kernel
theorem dL_law_880 : decode cL_law 880 = .ok (.aload_n 0, 1) := by decide +kernel
theorem dL_law_881 : decode cL_law 881 = .ok (.iload_n 3, 1) := by decide +kernel
theorem dL_law_882 : decode cL_law 882 = .ok (.iconst 3, 1) := by decide +kernel
theorem dL_law_883 : decode cL_law 883 = .ok (.iadd, 1) := by decide +kernel
theorem dL_law_884 : decode cL_law 884 = .ok (.iaload, 1) := by decide +kernel
theorem dL_law_885 : decode cL_law 885 = .ok (.invokevirtual 93, 3) := by decide +kernel
theorem dL_law_888 : decode cL_law 888 = .ok (.aload_n 2, 1) := by decide +kernel
theorem dL_law_889 : decode cL_law 889 = .ok (.aload_n 0, 1) := by decide +kernel
theorem dL_law_890 : decode cL_law 890 = .ok (.iload_n 3, 1) := by decide +kernel
theorem dL_law_891 : decode cL_law 891 = .ok (.iconst 1, 1) := by decide +kernel
theorem dL_law_892 : decode cL_law 892 = .ok (.iadd, 1) := by decide +kernel
theorem dL_law_893 : decode cL_law 893 = .ok (.iaload, 1) := by decide +kernel
theorem dL_law_894 : decode cL_law 894 = .ok (.aload_n 0, 1) := by decide +kernel
theorem dL_law_895 : decode cL_law 895 = .ok (.iload_n 3, 1) := by decide +kernel
theorem dL_law_896 : decode cL_law 896 = .ok (.iconst 2, 1) := by decide +kernel
theorem dL_law_897 : decode cL_law 897 = .ok (.iadd, 1) := by decide +kernel
theorem dL_law_898 : decode cL_law 898 = .ok (.iaload, 1) := by decide +kernel
theorem dL_law_899 : decode cL_law 899 = .ok (.aload_n 0, 1) := by decide +kernel
theorem dL_law_900 : decode cL_law 900 = .ok (.iload_n 3, 1) := by decide +kernel
theorem dL_law_901 : decode cL_law 901 = .ok (.iconst 3, 1) := by decide +kernel
theorem dL_law_902 : decode cL_law 902 = .ok (.iadd, 1) := by decide +kernel
theorem dL_law_903 : decode cL_law 903 = .ok (.iaload, 1) := by decide +kernel
theorem dL_law_904 : decode cL_law 904 = .ok (.invokevirtual 96, 3) := by decide +kernel
theorem dL_law_907 : decode cL_law 907 = .ok (.if_icmp .eq 606, 3) := by decide +kernel
theorem dL_law_910 : decode cL_law 910 = .ok (.iconst 0, 1) := by decide +kernel
theorem dL_law_911 : decode cL_law 911 = .ok (.ireturn, 1) := by decide +kernel
theorem dL_law_912 : decode cL_law 912 = .ok (.aload_n 1, 1) := by decide +kernel
theorem dL_law_913 : decode cL_law 913 = .ok (.aload_n 0, 1) := by decide +kernel
theorem dL_law_914 : decode cL_law 914 = .ok (.iload_n 3, 1) := by decide +kernel
theorem dL_law_915 : decode cL_law 915 = .ok (.iconst 1, 1) := by decide +kernel
theorem dL_law_916 : decode cL_law 916 = .ok (.iadd, 1) := by decide +kernel
theorem dL_law_917 : decode cL_law 917 = .ok (.iaload, 1) := by decide +kernel
theorem dL_law_918 : decode cL_law 918 = .ok (.aload_n 0, 1) := by decide +kernel
theorem dL_law_919 : decode cL_law 919 = .ok (.iload_n 3, 1) := by decide +kernel
theorem dL_law_920 : decode cL_law 920 = .ok (.iconst 2, 1) := by decide +kernel
theorem dL_law_921 : decode cL_law 921 = .ok (.iadd, 1) := by decide +kernel
theorem dL_law_922 : decode cL_law 922 = .ok (.iaload, 1) := by decide +kernel
theorem dL_law_923 : decode cL_law 923 = .ok (.invokevirtual 97, 3) := by decide +kernel
theorem dL_law_926 : decode cL_law 926 = .ok (.aload_n 2, 1) := by decide +kernel
theorem dL_law_927 : decode cL_law 927 = .ok (.aload_n 0, 1) := by decide +kernel
theorem dL_law_928 : decode cL_law 928 = .ok (.iload_n 3, 1) := by decide +kernel
theorem dL_law_929 : decode cL_law 929 = .ok (.iconst 1, 1) := by decide +kernel
theorem dL_law_930 : decode cL_law 930 = .ok (.iadd, 1) := by decide +kernel
theorem dL_law_931 : decode cL_law 931 = .ok (.iaload, 1) := by decide +kernel
theorem dL_law_932 : decode cL_law 932 = .ok (.aload_n 0, 1) := by decide +kernel
theorem dL_law_933 : decode cL_law 933 = .ok (.iload_n 3, 1) := by decide +kernel
theorem dL_law_934 : decode cL_law 934 = .ok (.iconst 2, 1) := by decide +kernel
theorem dL_law_935 : decode cL_law 935 = .ok (.iadd, 1) := by decide +kernel
theorem dL_law_936 : decode cL_law 936 = .ok (.iaload, 1) := by decide +kernel
theorem dL_law_937 : decode cL_law 937 = .ok (.invokevirtual 100, 3) := by decide +kernel
theorem dL_law_940 : decode cL_law 940 = .ok (.if_icmp .eq 573, 3) := by decide +kernel
theorem dL_law_943 : decode cL_law 943 = .ok (.iconst 0, 1) := by decide +kernel
theorem dL_law_944 : decode cL_law 944 = .ok (.ireturn, 1) := by decide +kernel
theorem dL_law_945 : decode cL_law 945 = .ok (.aload_n 1, 1) := by decide +kernel
theorem dL_law_946 : decode cL_law 946 = .ok (.aload_n 0, 1) := by decide +kernel
theorem dL_law_947 : decode cL_law 947 = .ok (.iload_n 3, 1) := by decide +kernel
theorem dL_law_948 : decode cL_law 948 = .ok (.iconst 1, 1) := by decide +kernel
theorem dL_law_949 : decode cL_law 949 = .ok (.iadd, 1) := by decide +kernel
theorem dL_law_950 : decode cL_law 950 = .ok (.iaload, 1) := by decide +kernel
theorem dL_law_951 : decode cL_law 951 = .ok (.aload_n 0, 1) := by decide +kernel
theorem dL_law_952 : decode cL_law 952 = .ok (.iload_n 3, 1) := by decide +kernel
theorem dL_law_953 : decode cL_law 953 = .ok (.iconst 2, 1) := by decide +kernel
theorem dL_law_954 : decode cL_law 954 = .ok (.iadd, 1) := by decide +kernel
theorem dL_law_955 : decode cL_law 955 = .ok (.iaload, 1) := by decide +kernel
theorem dL_law_956 : decode cL_law 956 = .ok (.invokevirtual 101, 3) := by decide +kernel
theorem dL_law_959 : decode cL_law 959 = .ok (.aload_n 2, 1) := by decide +kernel
theorem dL_law_960 : decode cL_law 960 = .ok (.aload_n 0, 1) := by decide +kernel
theorem dL_law_961 : decode cL_law 961 = .ok (.iload_n 3, 1) := by decide +kernel
theorem dL_law_962 : decode cL_law 962 = .ok (.iconst 1, 1) := by decide +kernel
theorem dL_law_963 : decode cL_law 963 = .ok (.iadd, 1) := by decide +kernel
theorem dL_law_964 : decode cL_law 964 = .ok (.iaload, 1) := by decide +kernel
theorem dL_law_965 : decode cL_law 965 = .ok (.aload_n 0, 1) := by decide +kernel
theorem dL_law_966 : decode cL_law 966 = .ok (.iload_n 3, 1) := by decide +kernel
theorem dL_law_967 : decode cL_law 967 = .ok (.iconst 2, 1) := by decide +kernel
theorem dL_law_968 : decode cL_law 968 = .ok (.iadd, 1) := by decide +kernel
theorem dL_law_969 : decode cL_law 969 = .ok (.iaload, 1) := by decide +kernel
theorem dL_law_970 : decode cL_law 970 = .ok (.invokevirtual 104, 3) := by decide +kernel
theorem dL_law_973 : decode cL_law 973 = .ok (.if_icmp .eq 540, 3) := by decide +kernel
theorem dL_law_976 : decode cL_law 976 = .ok (.iconst 0, 1) := by decide +kernel
theorem dL_law_977 : decode cL_law 977 = .ok (.ireturn, 1) := by decide +kernel
theorem dL_law_978 : decode cL_law 978 = .ok (.aload_n 1, 1) := by decide +kernel
theorem dL_law_979 : decode cL_law 979 = .ok (.aload_n 0, 1) := by decide +kernel
theorem dL_law_980 : decode cL_law 980 = .ok (.iload_n 3, 1) := by decide +kernel
theorem dL_law_981 : decode cL_law 981 = .ok (.iconst 1, 1) := by decide +kernel
theorem dL_law_982 : decode cL_law 982 = .ok (.iadd, 1) := by decide +kernel
theorem dL_law_983 : decode cL_law 983 = .ok (.iaload, 1) := by decide +kernel
theorem dL_law_984 : decode cL_law 984 = .ok (.invokevirtual 105, 3) := by decide +kernel
theorem dL_law_987 : decode cL_law 987 = .ok (.aload_n 2, 1) := by decide +kernel
theorem dL_law_988 : decode cL_law 988 = .ok (.aload_n 0, 1) := by decide +kernel
theorem dL_law_989 : decode cL_law 989 = .ok (.iload_n 3, 1) := by decide +kernel
theorem dL_law_990 : decode cL_law 990 = .ok (.iconst 1, 1) := by decide +kernel
theorem dL_law_991 : decode cL_law 991 = .ok (.iadd, 1) := by decide +kernel
theorem dL_law_992 : decode cL_law 992 = .ok (.iaload, 1) := by decide +kernel
theorem dL_law_993 : decode cL_law 993 = .ok (.invokevirtual 108, 3) := by decide +kernel
theorem dL_law_996 : decode cL_law 996 = .ok (.if_icmp .eq 517, 3) := by decide +kernel
theorem dL_law_999 : decode cL_law 999 = .ok (.iconst 0, 1) := by decide +kernel
theorem dL_law_1000 : decode cL_law 1000 = .ok (.ireturn, 1) := by decide +kernel
theorem dL_law_1001 : decode cL_law 1001 = .ok (.aload_n 1, 1) := by decide +kernel
theorem dL_law_1002 : decode cL_law 1002 = .ok (.invokevirtual 109, 3) := by decide +kernel
theorem dL_law_1005 : decode cL_law 1005 = .ok (.aload_n 2, 1) := by decide +kernel
theorem dL_law_1006 : decode cL_law 1006 = .ok (.invokevirtual 113, 3) := by decide +kernel
theorem dL_law_1009 : decode cL_law 1009 = .ok (.if_icmp .eq 504, 3) := by decide +kernel
theorem dL_law_1012 : decode cL_law 1012 = .ok (.iconst 0, 1) := by decide +kernel
theorem dL_law_1013 : decode cL_law 1013 = .ok (.ireturn, 1) := by decide +kernel
theorem dL_law_1014 : decode cL_law 1014 = .ok (.aload_n 1, 1) := by decide +kernel
theorem dL_law_1015 : decode cL_law 1015 = .ok (.invokevirtual 114, 3) := by decide +kernel
theorem dL_law_1018 : decode cL_law 1018 = .ok (.aload_n 2, 1) := by decide +kernel
theorem dL_law_1019 : decode cL_law 1019 = .ok (.invokevirtual 117, 3) := by decide +kernel
theorem dL_law_1022 : decode cL_law 1022 = .ok (.if_icmp .eq 491, 3) := by decide +kernel
theorem dL_law_1025 : decode cL_law 1025 = .ok (.iconst 0, 1) := by decide +kernel
theorem dL_law_1026 : decode cL_law 1026 = .ok (.ireturn, 1) := by decide +kernel
theorem dL_law_1027 : decode cL_law 1027 = .ok (.aload_n 1, 1) := by decide +kernel
theorem dL_law_1028 : decode cL_law 1028 = .ok (.invokevirtual 118, 3) := by decide +kernel
theorem dL_law_1031 : decode cL_law 1031 = .ok (.aload_n 2, 1) := by decide +kernel
theorem dL_law_1032 : decode cL_law 1032 = .ok (.invokevirtual 121, 3) := by decide +kernel
theorem dL_law_1035 : decode cL_law 1035 = .ok (.if_icmp .eq 478, 3) := by decide +kernel
theorem dL_law_1038 : decode cL_law 1038 = .ok (.iconst 0, 1) := by decide +kernel
theorem dL_law_1039 : decode cL_law 1039 = .ok (.ireturn, 1) := by decide +kernel
theorem dL_law_1040 : decode cL_law 1040 = .ok (.aload_n 1, 1) := by decide +kernel
theorem dL_law_1041 : decode cL_law 1041 = .ok (.aload_n 0, 1) := by decide +kernel
theorem dL_law_1042 : decode cL_law 1042 = .ok (.iload_n 3, 1) := by decide +kernel
theorem dL_law_1043 : decode cL_law 1043 = .ok (.iconst 1, 1) := by decide +kernel
theorem dL_law_1044 : decode cL_law 1044 = .ok (.iadd, 1) := by decide +kernel
theorem dL_law_1045 : decode cL_law 1045 = .ok (.iaload, 1) := by decide +kernel
theorem dL_law_1046 : decode cL_law 1046 = .ok (.aload_n 0, 1) := by decide +kernel
theorem dL_law_1047 : decode cL_law 1047 = .ok (.iload_n 3, 1) := by decide +kernel
theorem dL_law_1048 : decode cL_law 1048 = .ok (.iconst 2, 1) := by decide +kernel
theorem dL_law_1049 : decode cL_law 1049 = .ok (.iadd, 1) := by decide +kernel
theorem dL_law_1050 : decode cL_law 1050 = .ok (.iaload, 1) := by decide +kernel
theorem dL_law_1051 : decode cL_law 1051 = .ok (.invokevirtual 122, 3) := by decide +kernel
theorem dL_law_1054 : decode cL_law 1054 = .ok (.aload_n 2, 1) := by decide +kernel
theorem dL_law_1055 : decode cL_law 1055 = .ok (.aload_n 0, 1) := by decide +kernel
theorem dL_law_1056 : decode cL_law 1056 = .ok (.iload_n 3, 1) := by decide +kernel
theorem dL_law_1057 : decode cL_law 1057 = .ok (.iconst 1, 1) := by decide +kernel
theorem dL_law_1058 : decode cL_law 1058 = .ok (.iadd, 1) := by decide +kernel
theorem dL_law_1059 : decode cL_law 1059 = .ok (.iaload, 1) := by decide +kernel
theorem dL_law_1060 : decode cL_law 1060 = .ok (.aload_n 0, 1) := by decide +kernel
theorem dL_law_1061 : decode cL_law 1061 = .ok (.iload_n 3, 1) := by decide +kernel
theorem dL_law_1062 : decode cL_law 1062 = .ok (.iconst 2, 1) := by decide +kernel
theorem dL_law_1063 : decode cL_law 1063 = .ok (.iadd, 1) := by decide +kernel
theorem dL_law_1064 : decode cL_law 1064 = .ok (.iaload, 1) := by decide +kernel
theorem dL_law_1065 : decode cL_law 1065 = .ok (.invokevirtual 125, 3) := by decide +kernel
theorem dL_law_1068 : decode cL_law 1068 = .ok (.if_icmp .eq 445, 3) := by decide +kernel
theorem dL_law_1071 : decode cL_law 1071 = .ok (.iconst 0, 1) := by decide +kernel
theorem dL_law_1072 : decode cL_law 1072 = .ok (.ireturn, 1) := by decide +kernel
theorem dL_law_1073 : decode cL_law 1073 = .ok (.aload_n 1, 1) := by decide +kernel
theorem dL_law_1074 : decode cL_law 1074 = .ok (.aload_n 0, 1) := by decide +kernel
theorem dL_law_1075 : decode cL_law 1075 = .ok (.iload_n 3, 1) := by decide +kernel
theorem dL_law_1076 : decode cL_law 1076 = .ok (.iconst 1, 1) := by decide +kernel
theorem dL_law_1077 : decode cL_law 1077 = .ok (.iadd, 1) := by decide +kernel
theorem dL_law_1078 : decode cL_law 1078 = .ok (.iaload, 1) := by decide +kernel
theorem dL_law_1079 : decode cL_law 1079 = .ok (.aload_n 0, 1) := by decide +kernel
theorem dL_law_1080 : decode cL_law 1080 = .ok (.iload_n 3, 1) := by decide +kernel
theorem dL_law_1081 : decode cL_law 1081 = .ok (.iconst 2, 1) := by decide +kernel
theorem dL_law_1082 : decode cL_law 1082 = .ok (.iadd, 1) := by decide +kernel
theorem dL_law_1083 : decode cL_law 1083 = .ok (.iaload, 1) := by decide +kernel
theorem dL_law_1084 : decode cL_law 1084 = .ok (.aload_n 0, 1) := by decide +kernel
theorem dL_law_1085 : decode cL_law 1085 = .ok (.iload_n 3, 1) := by decide +kernel
theorem dL_law_1086 : decode cL_law 1086 = .ok (.iconst 3, 1) := by decide +kernel
theorem dL_law_1087 : decode cL_law 1087 = .ok (.iadd, 1) := by decide +kernel
theorem dL_law_1088 : decode cL_law 1088 = .ok (.iaload, 1) := by decide +kernel
theorem dL_law_1089 : decode cL_law 1089 = .ok (.invokevirtual 126, 3) := by decide +kernel
theorem dL_law_1092 : decode cL_law 1092 = .ok (.aload_n 2, 1) := by decide +kernel
theorem dL_law_1093 : decode cL_law 1093 = .ok (.aload_n 0, 1) := by decide +kernel
theorem dL_law_1094 : decode cL_law 1094 = .ok (.iload_n 3, 1) := by decide +kernel
theorem dL_law_1095 : decode cL_law 1095 = .ok (.iconst 1, 1) := by decide +kernel
theorem dL_law_1096 : decode cL_law 1096 = .ok (.iadd, 1) := by decide +kernel
theorem dL_law_1097 : decode cL_law 1097 = .ok (.iaload, 1) := by decide +kernel
theorem dL_law_1098 : decode cL_law 1098 = .ok (.aload_n 0, 1) := by decide +kernel
theorem dL_law_1099 : decode cL_law 1099 = .ok (.iload_n 3, 1) := by decide +kernel
theorem dL_law_1100 : decode cL_law 1100 = .ok (.iconst 2, 1) := by decide +kernel
theorem dL_law_1101 : decode cL_law 1101 = .ok (.iadd, 1) := by decide +kernel
theorem dL_law_1102 : decode cL_law 1102 = .ok (.iaload, 1) := by decide +kernel
theorem dL_law_1103 : decode cL_law 1103 = .ok (.aload_n 0, 1) := by decide +kernel
theorem dL_law_1104 : decode cL_law 1104 = .ok (.iload_n 3, 1) := by decide +kernel
theorem dL_law_1105 : decode cL_law 1105 = .ok (.iconst 3, 1) := by decide +kernel
theorem dL_law_1106 : decode cL_law 1106 = .ok (.iadd, 1) := by decide +kernel
theorem dL_law_1107 : decode cL_law 1107 = .ok (.iaload, 1) := by decide +kernel
theorem dL_law_1108 : decode cL_law 1108 = .ok (.invokevirtual 129, 3) := by decide +kernel
theorem dL_law_1111 : decode cL_law 1111 = .ok (.if_icmp .eq 402, 3) := by decide +kernel
theorem dL_law_1114 : decode cL_law 1114 = .ok (.iconst 0, 1) := by decide +kernel
theorem dL_law_1115 : decode cL_law 1115 = .ok (.ireturn, 1) := by decide +kernel
theorem dL_law_1116 : decode cL_law 1116 = .ok (.aload_n 1, 1) := by decide +kernel
theorem dL_law_1117 : decode cL_law 1117 = .ok (.invokevirtual 130, 3) := by decide +kernel
theorem dL_law_1120 : decode cL_law 1120 = .ok (.aload_n 2, 1) := by decide +kernel
theorem dL_law_1121 : decode cL_law 1121 = .ok (.invokevirtual 133, 3) := by decide +kernel
theorem dL_law_1124 : decode cL_law 1124 = .ok (.if_icmp .eq 389, 3) := by decide +kernel
theorem dL_law_1127 : decode cL_law 1127 = .ok (.iconst 0, 1) := by decide +kernel
theorem dL_law_1128 : decode cL_law 1128 = .ok (.ireturn, 1) := by decide +kernel
theorem dL_law_1129 : decode cL_law 1129 = .ok (.aload_n 1, 1) := by decide +kernel
theorem dL_law_1130 : decode cL_law 1130 = .ok (.invokevirtual 134, 3) := by decide +kernel
theorem dL_law_1133 : decode cL_law 1133 = .ok (.aload_n 2, 1) := by decide +kernel
theorem dL_law_1134 : decode cL_law 1134 = .ok (.invokevirtual 137, 3) := by decide +kernel
theorem dL_law_1137 : decode cL_law 1137 = .ok (.if_icmp .eq 376, 3) := by decide +kernel
theorem dL_law_1140 : decode cL_law 1140 = .ok (.iconst 0, 1) := by decide +kernel
theorem dL_law_1141 : decode cL_law 1141 = .ok (.ireturn, 1) := by decide +kernel
theorem dL_law_1142 : decode cL_law 1142 = .ok (.aload_n 1, 1) := by decide +kernel
theorem dL_law_1143 : decode cL_law 1143 = .ok (.aload_n 0, 1) := by decide +kernel
theorem dL_law_1144 : decode cL_law 1144 = .ok (.iload_n 3, 1) := by decide +kernel
theorem dL_law_1145 : decode cL_law 1145 = .ok (.iconst 1, 1) := by decide +kernel
theorem dL_law_1146 : decode cL_law 1146 = .ok (.iadd, 1) := by decide +kernel
theorem dL_law_1147 : decode cL_law 1147 = .ok (.iaload, 1) := by decide +kernel
theorem dL_law_1148 : decode cL_law 1148 = .ok (.aload_n 0, 1) := by decide +kernel
theorem dL_law_1149 : decode cL_law 1149 = .ok (.iload_n 3, 1) := by decide +kernel
theorem dL_law_1150 : decode cL_law 1150 = .ok (.iconst 2, 1) := by decide +kernel
theorem dL_law_1151 : decode cL_law 1151 = .ok (.iadd, 1) := by decide +kernel
theorem dL_law_1152 : decode cL_law 1152 = .ok (.iaload, 1) := by decide +kernel
theorem dL_law_1153 : decode cL_law 1153 = .ok (.invokevirtual 138, 3) := by decide +kernel
theorem dL_law_1156 : decode cL_law 1156 = .ok (.aload_n 2, 1) := by decide +kernel
theorem dL_law_1157 : decode cL_law 1157 = .ok (.aload_n 0, 1) := by decide +kernel
theorem dL_law_1158 : decode cL_law 1158 = .ok (.iload_n 3, 1) := by decide +kernel
theorem dL_law_1159 : decode cL_law 1159 = .ok (.iconst 1, 1) := by decide +kernel
theorem dL_law_1160 : decode cL_law 1160 = .ok (.iadd, 1) := by decide +kernel
theorem dL_law_1161 : decode cL_law 1161 = .ok (.iaload, 1) := by decide +kernel
theorem dL_law_1162 : decode cL_law 1162 = .ok (.aload_n 0, 1) := by decide +kernel
theorem dL_law_1163 : decode cL_law 1163 = .ok (.iload_n 3, 1) := by decide +kernel
theorem dL_law_1164 : decode cL_law 1164 = .ok (.iconst 2, 1) := by decide +kernel
theorem dL_law_1165 : decode cL_law 1165 = .ok (.iadd, 1) := by decide +kernel
theorem dL_law_1166 : decode cL_law 1166 = .ok (.iaload, 1) := by decide +kernel
theorem dL_law_1167 : decode cL_law 1167 = .ok (.invokevirtual 141, 3) := by decide +kernel
theorem dL_law_1170 : decode cL_law 1170 = .ok (.if_icmp .eq 343, 3) := by decide +kernel
theorem dL_law_1173 : decode cL_law 1173 = .ok (.iconst 0, 1) := by decide +kernel
theorem dL_law_1174 : decode cL_law 1174 = .ok (.ireturn, 1) := by decide +kernel
theorem dL_law_1175 : decode cL_law 1175 = .ok (.aload_n 1, 1) := by decide +kernel
theorem dL_law_1176 : decode cL_law 1176 = .ok (.invokevirtual 142, 3) := by decide +kernel
theorem dL_law_1179 : decode cL_law 1179 = .ok (.aload_n 2, 1) := by decide +kernel
theorem dL_law_1180 : decode cL_law 1180 = .ok (.invokevirtual 145, 3) := by decide +kernel
theorem dL_law_1183 : decode cL_law 1183 = .ok (.if_icmp .eq 330, 3) := by decide +kernel
theorem dL_law_1186 : decode cL_law 1186 = .ok (.iconst 0, 1) := by decide +kernel
theorem dL_law_1187 : decode cL_law 1187 = .ok (.ireturn, 1) := by decide +kernel
theorem dL_law_1188 : decode cL_law 1188 = .ok (.aload_n 1, 1) := by decide +kernel
theorem dL_law_1189 : decode cL_law 1189 = .ok (.invokevirtual 146, 3) := by decide +kernel
theorem dL_law_1192 : decode cL_law 1192 = .ok (.aload_n 2, 1) := by decide +kernel
theorem dL_law_1193 : decode cL_law 1193 = .ok (.invokevirtual 149, 3) := by decide +kernel
theorem dL_law_1196 : decode cL_law 1196 = .ok (.if_icmp .eq 317, 3) := by decide +kernel
theorem dL_law_1199 : decode cL_law 1199 = .ok (.iconst 0, 1) := by decide +kernel
theorem dL_law_1200 : decode cL_law 1200 = .ok (.ireturn, 1) := by decide +kernel
theorem dL_law_1201 : decode cL_law 1201 = .ok (.aload_n 1, 1) := by decide +kernel
theorem dL_law_1202 : decode cL_law 1202 = .ok (.aload_n 0, 1) := by decide +kernel
theorem dL_law_1203 : decode cL_law 1203 = .ok (.iload_n 3, 1) := by decide +kernel
theorem dL_law_1204 : decode cL_law 1204 = .ok (.iconst 1, 1) := by decide +kernel
theorem dL_law_1205 : decode cL_law 1205 = .ok (.iadd, 1) := by decide +kernel
theorem dL_law_1206 : decode cL_law 1206 = .ok (.iaload, 1) := by decide +kernel
theorem dL_law_1207 : decode cL_law 1207 = .ok (.aload_n 0, 1) := by decide +kernel
theorem dL_law_1208 : decode cL_law 1208 = .ok (.iload_n 3, 1) := by decide +kernel
theorem dL_law_1209 : decode cL_law 1209 = .ok (.iconst 2, 1) := by decide +kernel
theorem dL_law_1210 : decode cL_law 1210 = .ok (.iadd, 1) := by decide +kernel
theorem dL_law_1211 : decode cL_law 1211 = .ok (.iaload, 1) := by decide +kernel
theorem dL_law_1212 : decode cL_law 1212 = .ok (.invokevirtual 150, 3) := by decide +kernel
theorem dL_law_1215 : decode cL_law 1215 = .ok (.aload_n 2, 1) := by decide +kernel
theorem dL_law_1216 : decode cL_law 1216 = .ok (.aload_n 0, 1) := by decide +kernel
theorem dL_law_1217 : decode cL_law 1217 = .ok (.iload_n 3, 1) := by decide +kernel
theorem dL_law_1218 : decode cL_law 1218 = .ok (.iconst 1, 1) := by decide +kernel
theorem dL_law_1219 : decode cL_law 1219 = .ok (.iadd, 1) := by decide +kernel
theorem dL_law_1220 : decode cL_law 1220 = .ok (.iaload, 1) := by decide +kernel
theorem dL_law_1221 : decode cL_law 1221 = .ok (.aload_n 0, 1) := by decide +kernel
theorem dL_law_1222 : decode cL_law 1222 = .ok (.iload_n 3, 1) := by decide +kernel
theorem dL_law_1223 : decode cL_law 1223 = .ok (.iconst 2, 1) := by decide +kernel
theorem dL_law_1224 : decode cL_law 1224 = .ok (.iadd, 1) := by decide +kernel
theorem dL_law_1225 : decode cL_law 1225 = .ok (.iaload, 1) := by decide +kernel
theorem dL_law_1226 : decode cL_law 1226 = .ok (.invokevirtual 153, 3) := by decide +kernel
theorem dL_law_1229 : decode cL_law 1229 = .ok (.if_icmp .eq 284, 3) := by decide +kernel
theorem dL_law_1232 : decode cL_law 1232 = .ok (.iconst 0, 1) := by decide +kernel
theorem dL_law_1233 : decode cL_law 1233 = .ok (.ireturn, 1) := by decide +kernel
theorem dL_law_1234 : decode cL_law 1234 = .ok (.aload_n 1, 1) := by decide +kernel
theorem dL_law_1235 : decode cL_law 1235 = .ok (.aload_n 0, 1) := by decide +kernel
theorem dL_law_1236 : decode cL_law 1236 = .ok (.iload_n 3, 1) := by decide +kernel
theorem dL_law_1237 : decode cL_law 1237 = .ok (.iconst 1, 1) := by decide +kernel
theorem dL_law_1238 : decode cL_law 1238 = .ok (.iadd, 1) := by decide +kernel
theorem dL_law_1239 : decode cL_law 1239 = .ok (.iaload, 1) := by decide +kernel
theorem dL_law_1240 : decode cL_law 1240 = .ok (.aload_n 0, 1) := by decide +kernel
theorem dL_law_1241 : decode cL_law 1241 = .ok (.iload_n 3, 1) := by decide +kernel
theorem dL_law_1242 : decode cL_law 1242 = .ok (.iconst 2, 1) := by decide +kernel
theorem dL_law_1243 : decode cL_law 1243 = .ok (.iadd, 1) := by decide +kernel
theorem dL_law_1244 : decode cL_law 1244 = .ok (.iaload, 1) := by decide +kernel
theorem dL_law_1245 : decode cL_law 1245 = .ok (.invokevirtual 154, 3) := by decide +kernel
theorem dL_law_1248 : decode cL_law 1248 = .ok (.aload_n 2, 1) := by decide +kernel
theorem dL_law_1249 : decode cL_law 1249 = .ok (.aload_n 0, 1) := by decide +kernel
theorem dL_law_1250 : decode cL_law 1250 = .ok (.iload_n 3, 1) := by decide +kernel
theorem dL_law_1251 : decode cL_law 1251 = .ok (.iconst 1, 1) := by decide +kernel
theorem dL_law_1252 : decode cL_law 1252 = .ok (.iadd, 1) := by decide +kernel
theorem dL_law_1253 : decode cL_law 1253 = .ok (.iaload, 1) := by decide +kernel
theorem dL_law_1254 : decode cL_law 1254 = .ok (.aload_n 0, 1) := by decide +kernel
theorem dL_law_1255 : decode cL_law 1255 = .ok (.iload_n 3, 1) := by decide +kernel
theorem dL_law_1256 : decode cL_law 1256 = .ok (.iconst 2, 1) := by decide +kernel
theorem dL_law_1257 : decode cL_law 1257 = .ok (.iadd, 1) := by decide +kernel
theorem dL_law_1258 : decode cL_law 1258 = .ok (.iaload, 1) := by decide +kernel
theorem dL_law_1259 : decode cL_law 1259 = .ok (.invokevirtual 157, 3) := by decide +kernel
theorem dL_law_1262 : decode cL_law 1262 = .ok (.if_icmp .eq 251, 3) := by decide +kernel
theorem dL_law_1265 : decode cL_law 1265 = .ok (.iconst 0, 1) := by decide +kernel
theorem dL_law_1266 : decode cL_law 1266 = .ok (.ireturn, 1) := by decide +kernel
theorem dL_law_1267 : decode cL_law 1267 = .ok (.aload_n 1, 1) := by decide +kernel
theorem dL_law_1268 : decode cL_law 1268 = .ok (.aload_n 0, 1) := by decide +kernel
theorem dL_law_1269 : decode cL_law 1269 = .ok (.iload_n 3, 1) := by decide +kernel
theorem dL_law_1270 : decode cL_law 1270 = .ok (.iconst 1, 1) := by decide +kernel
theorem dL_law_1271 : decode cL_law 1271 = .ok (.iadd, 1) := by decide +kernel
theorem dL_law_1272 : decode cL_law 1272 = .ok (.iaload, 1) := by decide +kernel
theorem dL_law_1273 : decode cL_law 1273 = .ok (.invokevirtual 158, 3) := by decide +kernel
theorem dL_law_1276 : decode cL_law 1276 = .ok (.aload_n 2, 1) := by decide +kernel
theorem dL_law_1277 : decode cL_law 1277 = .ok (.aload_n 0, 1) := by decide +kernel
theorem dL_law_1278 : decode cL_law 1278 = .ok (.iload_n 3, 1) := by decide +kernel
theorem dL_law_1279 : decode cL_law 1279 = .ok (.iconst 1, 1) := by decide +kernel
theorem dL_law_1280 : decode cL_law 1280 = .ok (.iadd, 1) := by decide +kernel
theorem dL_law_1281 : decode cL_law 1281 = .ok (.iaload, 1) := by decide +kernel
theorem dL_law_1282 : decode cL_law 1282 = .ok (.invokevirtual 161, 3) := by decide +kernel
theorem dL_law_1285 : decode cL_law 1285 = .ok (.if_icmp .eq 228, 3) := by decide +kernel
theorem dL_law_1288 : decode cL_law 1288 = .ok (.iconst 0, 1) := by decide +kernel
theorem dL_law_1289 : decode cL_law 1289 = .ok (.ireturn, 1) := by decide +kernel
theorem dL_law_1290 : decode cL_law 1290 = .ok (.aload_n 1, 1) := by decide +kernel
theorem dL_law_1291 : decode cL_law 1291 = .ok (.aload_n 0, 1) := by decide +kernel
theorem dL_law_1292 : decode cL_law 1292 = .ok (.iload_n 3, 1) := by decide +kernel
theorem dL_law_1293 : decode cL_law 1293 = .ok (.iconst 1, 1) := by decide +kernel
theorem dL_law_1294 : decode cL_law 1294 = .ok (.iadd, 1) := by decide +kernel
theorem dL_law_1295 : decode cL_law 1295 = .ok (.iaload, 1) := by decide +kernel
theorem dL_law_1296 : decode cL_law 1296 = .ok (.aload_n 0, 1) := by decide +kernel
theorem dL_law_1297 : decode cL_law 1297 = .ok (.iload_n 3, 1) := by decide +kernel
theorem dL_law_1298 : decode cL_law 1298 = .ok (.iconst 2, 1) := by decide +kernel
theorem dL_law_1299 : decode cL_law 1299 = .ok (.iadd, 1) := by decide +kernel
theorem dL_law_1300 : decode cL_law 1300 = .ok (.iaload, 1) := by decide +kernel
theorem dL_law_1301 : decode cL_law 1301 = .ok (.aload_n 0, 1) := by decide +kernel
theorem dL_law_1302 : decode cL_law 1302 = .ok (.iload_n 3, 1) := by decide +kernel
theorem dL_law_1303 : decode cL_law 1303 = .ok (.iconst 3, 1) := by decide +kernel
theorem dL_law_1304 : decode cL_law 1304 = .ok (.iadd, 1) := by decide +kernel
theorem dL_law_1305 : decode cL_law 1305 = .ok (.iaload, 1) := by decide +kernel
theorem dL_law_1306 : decode cL_law 1306 = .ok (.invokevirtual 162, 3) := by decide +kernel
theorem dL_law_1309 : decode cL_law 1309 = .ok (.aload_n 2, 1) := by decide +kernel
theorem dL_law_1310 : decode cL_law 1310 = .ok (.aload_n 0, 1) := by decide +kernel
theorem dL_law_1311 : decode cL_law 1311 = .ok (.iload_n 3, 1) := by decide +kernel
theorem dL_law_1312 : decode cL_law 1312 = .ok (.iconst 1, 1) := by decide +kernel
theorem dL_law_1313 : decode cL_law 1313 = .ok (.iadd, 1) := by decide +kernel
theorem dL_law_1314 : decode cL_law 1314 = .ok (.iaload, 1) := by decide +kernel
theorem dL_law_1315 : decode cL_law 1315 = .ok (.aload_n 0, 1) := by decide +kernel
theorem dL_law_1316 : decode cL_law 1316 = .ok (.iload_n 3, 1) := by decide +kernel
theorem dL_law_1317 : decode cL_law 1317 = .ok (.iconst 2, 1) := by decide +kernel
theorem dL_law_1318 : decode cL_law 1318 = .ok (.iadd, 1) := by decide +kernel
theorem dL_law_1319 : decode cL_law 1319 = .ok (.iaload, 1) := by decide +kernel
theorem dL_law_1320 : decode cL_law 1320 = .ok (.aload_n 0, 1) := by decide +kernel
theorem dL_law_1321 : decode cL_law 1321 = .ok (.iload_n 3, 1) := by decide +kernel
theorem dL_law_1322 : decode cL_law 1322 = .ok (.iconst 3, 1) := by decide +kernel
theorem dL_law_1323 : decode cL_law 1323 = .ok (.iadd, 1) := by decide +kernel
theorem dL_law_1324 : decode cL_law 1324 = .ok (.iaload, 1) := by decide +kernel
theorem dL_law_1325 : decode cL_law 1325 = .ok (.invokevirtual 165, 3) := by decide +kernel
theorem dL_law_1328 : decode cL_law 1328 = .ok (.if_icmp .eq 185, 3) := by decide +kernel
theorem dL_law_1331 : decode cL_law 1331 = .ok (.iconst 0, 1) := by decide +kernel
theorem dL_law_1332 : decode cL_law 1332 = .ok (.ireturn, 1) := by decide +kernel
theorem dL_law_1333 : decode cL_law 1333 = .ok (.aload_n 1, 1) := by decide +kernel
theorem dL_law_1334 : decode cL_law 1334 = .ok (.aload_n 0, 1) := by decide +kernel
theorem dL_law_1335 : decode cL_law 1335 = .ok (.iload_n 3, 1) := by decide +kernel
theorem dL_law_1336 : decode cL_law 1336 = .ok (.iconst 1, 1) := by decide +kernel
theorem dL_law_1337 : decode cL_law 1337 = .ok (.iadd, 1) := by decide +kernel
theorem dL_law_1338 : decode cL_law 1338 = .ok (.iaload, 1) := by decide +kernel
theorem dL_law_1339 : decode cL_law 1339 = .ok (.aload_n 0, 1) := by decide +kernel
theorem dL_law_1340 : decode cL_law 1340 = .ok (.iload_n 3, 1) := by decide +kernel
theorem dL_law_1341 : decode cL_law 1341 = .ok (.iconst 2, 1) := by decide +kernel
theorem dL_law_1342 : decode cL_law 1342 = .ok (.iadd, 1) := by decide +kernel
theorem dL_law_1343 : decode cL_law 1343 = .ok (.iaload, 1) := by decide +kernel
theorem dL_law_1344 : decode cL_law 1344 = .ok (.invokevirtual 166, 3) := by decide +kernel
theorem dL_law_1347 : decode cL_law 1347 = .ok (.aload_n 2, 1) := by decide +kernel
theorem dL_law_1348 : decode cL_law 1348 = .ok (.aload_n 0, 1) := by decide +kernel
theorem dL_law_1349 : decode cL_law 1349 = .ok (.iload_n 3, 1) := by decide +kernel
theorem dL_law_1350 : decode cL_law 1350 = .ok (.iconst 1, 1) := by decide +kernel
theorem dL_law_1351 : decode cL_law 1351 = .ok (.iadd, 1) := by decide +kernel
theorem dL_law_1352 : decode cL_law 1352 = .ok (.iaload, 1) := by decide +kernel
theorem dL_law_1353 : decode cL_law 1353 = .ok (.aload_n 0, 1) := by decide +kernel
theorem dL_law_1354 : decode cL_law 1354 = .ok (.iload_n 3, 1) := by decide +kernel
theorem dL_law_1355 : decode cL_law 1355 = .ok (.iconst 2, 1) := by decide +kernel
theorem dL_law_1356 : decode cL_law 1356 = .ok (.iadd, 1) := by decide +kernel
theorem dL_law_1357 : decode cL_law 1357 = .ok (.iaload, 1) := by decide +kernel
theorem dL_law_1358 : decode cL_law 1358 = .ok (.invokevirtual 169, 3) := by decide +kernel
theorem dL_law_1361 : decode cL_law 1361 = .ok (.if_icmp .eq 152, 3) := by decide +kernel
theorem dL_law_1364 : decode cL_law 1364 = .ok (.iconst 0, 1) := by decide +kernel
theorem dL_law_1365 : decode cL_law 1365 = .ok (.ireturn, 1) := by decide +kernel
theorem dL_law_1366 : decode cL_law 1366 = .ok (.aload_n 1, 1) := by decide +kernel
theorem dL_law_1367 : decode cL_law 1367 = .ok (.aload_n 0, 1) := by decide +kernel
theorem dL_law_1368 : decode cL_law 1368 = .ok (.iload_n 3, 1) := by decide +kernel
theorem dL_law_1369 : decode cL_law 1369 = .ok (.iconst 1, 1) := by decide +kernel
theorem dL_law_1370 : decode cL_law 1370 = .ok (.iadd, 1) := by decide +kernel
theorem dL_law_1371 : decode cL_law 1371 = .ok (.iaload, 1) := by decide +kernel
theorem dL_law_1372 : decode cL_law 1372 = .ok (.aload_n 0, 1) := by decide +kernel
theorem dL_law_1373 : decode cL_law 1373 = .ok (.iload_n 3, 1) := by decide +kernel
theorem dL_law_1374 : decode cL_law 1374 = .ok (.iconst 2, 1) := by decide +kernel
theorem dL_law_1375 : decode cL_law 1375 = .ok (.iadd, 1) := by decide +kernel
theorem dL_law_1376 : decode cL_law 1376 = .ok (.iaload, 1) := by decide +kernel
theorem dL_law_1377 : decode cL_law 1377 = .ok (.invokevirtual 170, 3) := by decide +kernel
theorem dL_law_1380 : decode cL_law 1380 = .ok (.aload_n 2, 1) := by decide +kernel
theorem dL_law_1381 : decode cL_law 1381 = .ok (.aload_n 0, 1) := by decide +kernel
theorem dL_law_1382 : decode cL_law 1382 = .ok (.iload_n 3, 1) := by decide +kernel
theorem dL_law_1383 : decode cL_law 1383 = .ok (.iconst 1, 1) := by decide +kernel
theorem dL_law_1384 : decode cL_law 1384 = .ok (.iadd, 1) := by decide +kernel
theorem dL_law_1385 : decode cL_law 1385 = .ok (.iaload, 1) := by decide +kernel
theorem dL_law_1386 : decode cL_law 1386 = .ok (.aload_n 0, 1) := by decide +kernel
theorem dL_law_1387 : decode cL_law 1387 = .ok (.iload_n 3, 1) := by decide +kernel
theorem dL_law_1388 : decode cL_law 1388 = .ok (.iconst 2, 1) := by decide +kernel
theorem dL_law_1389 : decode cL_law 1389 = .ok (.iadd, 1) := by decide +kernel
theorem dL_law_1390 : decode cL_law 1390 = .ok (.iaload, 1) := by decide +kernel
theorem dL_law_1391 : decode cL_law 1391 = .ok (.invokevirtual 173, 3) := by decide +kernel
theorem dL_law_1394 : decode cL_law 1394 = .ok (.if_icmp .eq 119, 3) := by decide +kernel
theorem dL_law_1397 : decode cL_law 1397 = .ok (.iconst 0, 1) := by decide +kernel
theorem dL_law_1398 : decode cL_law 1398 = .ok (.ireturn, 1) := by decide +kernel
theorem dL_law_1399 : decode cL_law 1399 = .ok (.aload_n 1, 1) := by decide +kernel
theorem dL_law_1400 : decode cL_law 1400 = .ok (.invokevirtual 174, 3) := by decide +kernel
theorem dL_law_1403 : decode cL_law 1403 = .ok (.aload_n 2, 1) := by decide +kernel
theorem dL_law_1404 : decode cL_law 1404 = .ok (.invokevirtual 177, 3) := by decide +kernel
theorem dL_law_1407 : decode cL_law 1407 = .ok (.if_icmp .eq 106, 3) := by decide +kernel
theorem dL_law_1410 : decode cL_law 1410 = .ok (.iconst 0, 1) := by decide +kernel
theorem dL_law_1411 : decode cL_law 1411 = .ok (.ireturn, 1) := by decide +kernel
theorem dL_law_1412 : decode cL_law 1412 = .ok (.aload_n 1, 1) := by decide +kernel
theorem dL_law_1413 : decode cL_law 1413 = .ok (.invokevirtual 178, 3) := by decide +kernel
theorem dL_law_1416 : decode cL_law 1416 = .ok (.aload_n 2, 1) := by decide +kernel
theorem dL_law_1417 : decode cL_law 1417 = .ok (.invokevirtual 182, 3) := by decide +kernel
theorem dL_law_1420 : decode cL_law 1420 = .ok (.lcmp, 1) := by decide +kernel
theorem dL_law_1421 : decode cL_law 1421 = .ok (.ifCond .eq 92, 3) := by decide +kernel
theorem dL_law_1424 : decode cL_law 1424 = .ok (.iconst 0, 1) := by decide +kernel
theorem dL_law_1425 : decode cL_law 1425 = .ok (.ireturn, 1) := by decide +kernel
theorem dL_law_1426 : decode cL_law 1426 = .ok (.aload_n 1, 1) := by decide +kernel
theorem dL_law_1427 : decode cL_law 1427 = .ok (.invokevirtual 183, 3) := by decide +kernel
theorem dL_law_1430 : decode cL_law 1430 = .ok (.aload_n 2, 1) := by decide +kernel
theorem dL_law_1431 : decode cL_law 1431 = .ok (.invokevirtual 186, 3) := by decide +kernel
theorem dL_law_1434 : decode cL_law 1434 = .ok (.lcmp, 1) := by decide +kernel
theorem dL_law_1435 : decode cL_law 1435 = .ok (.ifCond .eq 78, 3) := by decide +kernel
theorem dL_law_1438 : decode cL_law 1438 = .ok (.iconst 0, 1) := by decide +kernel
theorem dL_law_1439 : decode cL_law 1439 = .ok (.ireturn, 1) := by decide +kernel
theorem dL_law_1440 : decode cL_law 1440 = .ok (.aload_n 1, 1) := by decide +kernel
theorem dL_law_1441 : decode cL_law 1441 = .ok (.aload_n 0, 1) := by decide +kernel
theorem dL_law_1442 : decode cL_law 1442 = .ok (.iload_n 3, 1) := by decide +kernel
theorem dL_law_1443 : decode cL_law 1443 = .ok (.iconst 1, 1) := by decide +kernel
theorem dL_law_1444 : decode cL_law 1444 = .ok (.iadd, 1) := by decide +kernel
theorem dL_law_1445 : decode cL_law 1445 = .ok (.iaload, 1) := by decide +kernel
theorem dL_law_1446 : decode cL_law 1446 = .ok (.invokevirtual 187, 3) := by decide +kernel
theorem dL_law_1449 : decode cL_law 1449 = .ok (.aload_n 2, 1) := by decide +kernel
theorem dL_law_1450 : decode cL_law 1450 = .ok (.aload_n 0, 1) := by decide +kernel
theorem dL_law_1451 : decode cL_law 1451 = .ok (.iload_n 3, 1) := by decide +kernel
theorem dL_law_1452 : decode cL_law 1452 = .ok (.iconst 1, 1) := by decide +kernel
theorem dL_law_1453 : decode cL_law 1453 = .ok (.iadd, 1) := by decide +kernel
theorem dL_law_1454 : decode cL_law 1454 = .ok (.iaload, 1) := by decide +kernel
theorem dL_law_1455 : decode cL_law 1455 = .ok (.invokevirtual 190, 3) := by decide +kernel
theorem dL_law_1458 : decode cL_law 1458 = .ok (.if_icmp .eq 55, 3) := by decide +kernel
theorem dL_law_1461 : decode cL_law 1461 = .ok (.iconst 0, 1) := by decide +kernel
theorem dL_law_1462 : decode cL_law 1462 = .ok (.ireturn, 1) := by decide +kernel
theorem dL_law_1463 : decode cL_law 1463 = .ok (.aload_n 1, 1) := by decide +kernel
theorem dL_law_1464 : decode cL_law 1464 = .ok (.invokevirtual 191, 3) := by decide +kernel
theorem dL_law_1467 : decode cL_law 1467 = .ok (.aload_n 2, 1) := by decide +kernel
theorem dL_law_1468 : decode cL_law 1468 = .ok (.invokevirtual 194, 3) := by decide +kernel
theorem dL_law_1471 : decode cL_law 1471 = .ok (.if_icmp .eq 42, 3) := by decide +kernel
theorem dL_law_1474 : decode cL_law 1474 = .ok (.iconst 0, 1) := by decide +kernel
theorem dL_law_1475 : decode cL_law 1475 = .ok (.ireturn, 1) := by decide +kernel
theorem dL_law_1476 : decode cL_law 1476 = .ok (.aload_n 1, 1) := by decide +kernel
theorem dL_law_1477 : decode cL_law 1477 = .ok (.aload_n 0, 1) := by decide +kernel
theorem dL_law_1478 : decode cL_law 1478 = .ok (.iload_n 3, 1) := by decide +kernel
theorem dL_law_1479 : decode cL_law 1479 = .ok (.iconst 1, 1) := by decide +kernel
theorem dL_law_1480 : decode cL_law 1480 = .ok (.iadd, 1) := by decide +kernel
theorem dL_law_1481 : decode cL_law 1481 = .ok (.iaload, 1) := by decide +kernel
theorem dL_law_1482 : decode cL_law 1482 = .ok (.invokevirtual 195, 3) := by decide +kernel
theorem dL_law_1485 : decode cL_law 1485 = .ok (.aload_n 2, 1) := by decide +kernel
theorem dL_law_1486 : decode cL_law 1486 = .ok (.aload_n 0, 1) := by decide +kernel
theorem dL_law_1487 : decode cL_law 1487 = .ok (.iload_n 3, 1) := by decide +kernel
theorem dL_law_1488 : decode cL_law 1488 = .ok (.iconst 1, 1) := by decide +kernel
theorem dL_law_1489 : decode cL_law 1489 = .ok (.iadd, 1) := by decide +kernel
theorem dL_law_1490 : decode cL_law 1490 = .ok (.iaload, 1) := by decide +kernel
theorem dL_law_1491 : decode cL_law 1491 = .ok (.invokevirtual 198, 3) := by decide +kernel
theorem dL_law_1494 : decode cL_law 1494 = .ok (.if_icmp .eq 19, 3) := by decide +kernel
theorem dL_law_1497 : decode cL_law 1497 = .ok (.iconst 0, 1) := by decide +kernel
theorem dL_law_1498 : decode cL_law 1498 = .ok (.ireturn, 1) := by decide +kernel
theorem dL_law_1499 : decode cL_law 1499 = .ok (.aload_n 1, 1) := by decide +kernel
theorem dL_law_1500 : decode cL_law 1500 = .ok (.invokevirtual 199, 3) := by decide +kernel
theorem dL_law_1503 : decode cL_law 1503 = .ok (.aload_n 2, 1) := by decide +kernel
theorem dL_law_1504 : decode cL_law 1504 = .ok (.invokevirtual 202, 3) := by decide +kernel
theorem dL_law_1507 : decode cL_law 1507 = .ok (.lcmp, 1) := by decide +kernel
theorem dL_law_1508 : decode cL_law 1508 = .ok (.ifCond .eq 5, 3) := by decide +kernel
theorem dL_law_1511 : decode cL_law 1511 = .ok (.iconst 0, 1) := by decide +kernel
theorem dL_law_1512 : decode cL_law 1512 = .ok (.ireturn, 1) := by decide +kernel
theorem dL_law_1513 : decode cL_law 1513 = .ok (.iinc 3 6, 3) := by decide +kernel
theorem dL_law_1516 : decode cL_law 1516 = .ok (.goto (-1498), 3) := by decide +kernel
theorem dL_law_1519 : decode cL_law 1519 = .ok (.iconst 1, 1) := by decide +kernel
theorem dL_law_1520 : decode cL_law 1520 = .ok (.ireturn, 1) := by decide +kernel
end
section
/-! NUMBERS: Java's ints and longs as whole numbers; what a run answers -/
def z32 (z : Int) : Int := (z + 2147483648) % 4294967296 - 2147483648
def z64 (z : Int) : Int := (z + 9223372036854775808) % 18446744073709551616 - 9223372036854775808
def zrI (z : Int) : Prop := -2147483648 ≤ z ∧ z < 2147483648
def zrJ (z : Int) : Prop := -9223372036854775808 ≤ z ∧ z < 9223372036854775808
theorem z32_r (z : Int) : zrI (z32 z) := by unfold zrI z32; omega
theorem z64_r (z : Int) : zrJ (z64 z) := by unfold zrJ z64; omega
theorem z32_id {z : Int} (h1 : -2147483648 ≤ z) (h2 : z < 2147483648) : z32 z = z := by unfold z32; omega
theorem z64_id {z : Int} (h1 : -9223372036854775808 ≤ z) (h2 : z < 9223372036854775808) : z64 z = z := by unfold z64; omega
theorem zrI_J {z : Int} (h : zrI z) : zrJ z := by unfold zrI at h; unfold zrJ; omega
theorem z32_bmod (z : Int) : z32 z = z.bmod 4294967296 := by
  show (z + 2147483648) % 4294967296 - 2147483648 = if z % 4294967296 < (4294967296 + 1) / 2 then z % 4294967296 else z % 4294967296 - 4294967296
  split <;> omega
theorem z64_bmod (z : Int) : z64 z = z.bmod 18446744073709551616 := by
  show (z + 9223372036854775808) % 18446744073709551616 - 9223372036854775808 = if z % 18446744073709551616 < (18446744073709551616 + 1) / 2 then z % 18446744073709551616 else z % 18446744073709551616 - 18446744073709551616
  split <;> omega
theorem z32_eq (z : Int) : z32 z = (Int32.ofInt z).toInt := by rw [Int32.toInt_ofInt, z32_bmod]
theorem z64_eq (z : Int) : z64 z = (Int64.ofInt z).toInt := by rw [Int64.toInt_ofInt, z64_bmod]
theorem z32_of (z : Int) : Int32.ofInt (z32 z) = Int32.ofInt z := by rw [z32_eq, Int32.ofInt_toInt]
theorem z64_of (z : Int) : Int64.ofInt (z64 z) = Int64.ofInt z := by rw [z64_eq, Int64.ofInt_toInt]
theorem zrI_to {z : Int} (h : zrI z) : (Int32.ofInt z).toInt = z := by rw [← z32_eq]; exact z32_id h.1 h.2
theorem zrJ_to {z : Int} (h : zrJ z) : (Int64.ofInt z).toInt = z := by rw [← z64_eq]; exact z64_id h.1 h.2
theorem zr_toInt (x : Int32) : zrI x.toInt := by
  have h := z32_r x.toInt
  rw [z32_eq, Int32.ofInt_toInt] at h
  exact h
theorem zr_toLong (x : Int64) : zrJ x.toInt := by
  have h := z64_r x.toInt
  rw [z64_eq, Int64.ofInt_toInt] at h
  exact h
theorem z_lt {a b : Int} (ha : zrI a) (hb : zrI b) : Int32.ofInt a < Int32.ofInt b ↔ a < b := by rw [Int32.lt_iff_toInt_lt, zrI_to ha, zrI_to hb]
theorem z_le {a b : Int} (ha : zrI a) (hb : zrI b) : Int32.ofInt a ≤ Int32.ofInt b ↔ a ≤ b := by rw [Int32.le_iff_toInt_le, zrI_to ha, zrI_to hb]
theorem z_inj {a b : Int} (ha : zrI a) (hb : zrI b) : Int32.ofInt a = Int32.ofInt b ↔ a = b := ⟨fun h => by rw [← zrI_to ha, ← zrI_to hb, h], fun h => by rw [h]⟩
theorem zl_lt {a b : Int} (ha : zrJ a) (hb : zrJ b) : Int64.ofInt a < Int64.ofInt b ↔ a < b := by rw [Int64.lt_iff_toInt_lt, zrJ_to ha, zrJ_to hb]
theorem zl_inj {a b : Int} (ha : zrJ a) (hb : zrJ b) : Int64.ofInt a = Int64.ofInt b ↔ a = b := ⟨fun h => by rw [← zrJ_to ha, ← zrJ_to hb, h], fun h => by rw [h]⟩
theorem z_nat {a : Int} (ha : zrI a) : (Int32.ofInt a).toNatClampNeg = a.toNat := by
  show (Int32.ofInt a).toInt.toNat = _
  rw [zrI_to ha]
theorem z_ofNat (n : Nat) : Int32.ofNat n = Int32.ofInt n := by
  first | rfl | simp [Int32.ofInt_eq_ofNat] | exact (Int32.ofInt_natCast n).symm
/-- the binary things, by the machine's own -/
def zand (a b : Int) : Int := (Int32.ofInt a &&& Int32.ofInt b).toInt
def zor (a b : Int) : Int := (Int32.ofInt a ||| Int32.ofInt b).toInt
def zxor (a b : Int) : Int := (Int32.ofInt a ^^^ Int32.ofInt b).toInt
def zshl (a b : Int) : Int := (Int32.ofInt a <<< (Int32.ofInt b &&& 31)).toInt
def zshr (a b : Int) : Int := (Int32.ofInt a >>> (Int32.ofInt b &&& 31)).toInt
def zdiv (a b : Int) : Int := (Int32.ofInt a / Int32.ofInt b).toInt
def zrem (a b : Int) : Int := (Int32.ofInt a - Int32.ofInt a / Int32.ofInt b * Int32.ofInt b).toInt
def zldiv (a b : Int) : Int := (Int64.ofInt a / Int64.ofInt b).toInt
def zlrem (a b : Int) : Int := (Int64.ofInt a - Int64.ofInt a / Int64.ofInt b * Int64.ofInt b).toInt
def zlcmp (a b : Int) : Int := if b < a then 1 else if a = b then 0 else -1
def zi2b (a : Int) : Int := (Int32.ofInt a).toInt8.toInt32.toInt
theorem zlcmp_c {a b : Int} (ha : zrJ a) (hb : zrJ b) : Int32.ofInt (zlcmp a b) = lg_cmp (Int64.ofInt a) (Int64.ofInt b) := by
  unfold zlcmp lg_cmp
  by_cases h1 : b < a
  · rw [if_pos h1, if_pos (show Int64.ofInt a > Int64.ofInt b from (zl_lt hb ha).mpr h1)]; rfl
  · rw [if_neg h1, if_neg (show ¬ Int64.ofInt a > Int64.ofInt b from fun h => h1 ((zl_lt hb ha).mp h))]
    by_cases h2 : a = b
    · rw [if_pos h2, if_pos ((zl_inj ha hb).mpr h2)]; rfl
    · rw [if_neg h2, if_neg (fun h => h2 ((zl_inj ha hb).mp h))]; rfl
theorem zlcmp_r (a b : Int) : zrI (zlcmp a b) := by
  unfold zlcmp zrI
  split
  · omega
  · split <;> omega
theorem zlcmp_le (a b : Int) : (0 < zlcmp a b) ↔ b < a := by
  unfold zlcmp
  by_cases h1 : b < a
  · simp [h1]
  · by_cases h2 : a = b <;> simp [h1, h2]
theorem zlcmp_lt (a b : Int) : (zlcmp a b < 0) ↔ a < b := by
  unfold zlcmp
  by_cases h1 : b < a
  · rw [if_pos h1]; omega
  · rw [if_neg h1]
    by_cases h2 : a = b
    · rw [if_pos h2]; omega
    · rw [if_neg h2]; omega
theorem zlcmp_eq (a b : Int) : (zlcmp a b = 0) ↔ a = b := by
  unfold zlcmp
  by_cases h1 : b < a
  · rw [if_pos h1]; omega
  · rw [if_neg h1]
    by_cases h2 : a = b
    · rw [if_pos h2]; omega
    · rw [if_neg h2]; omega
/-! RUNS: a step goes on (inl) or answers (inr) -/
section ZRUN
variable {σ ρ : Type}
def zrun (step : σ → Option (σ ⊕ ρ)) : Nat → σ → Option ρ
  | 0, _ => none
  | n + 1, s => match step s with
    | none => none
    | some (.inl t) => zrun step n t
    | some (.inr r) => some r
theorem zrun_succ (step : σ → Option (σ ⊕ ρ)) (n : Nat) (s : σ) : zrun step (n + 1) s = match step s with
    | none => none
    | some (.inl t) => zrun step n t
    | some (.inr r) => some r := rfl
theorem zrun_det {step : σ → Option (σ ⊕ ρ)} : ∀ {n k : Nat} {s : σ} {r q : ρ}, zrun step n s = some r → zrun step k s = some q → r = q := by
  intro n
  induction n with
  | zero => intro k s r q h; cases h
  | succ n ih =>
    intro k s r q h1 h2
    cases k with
    | zero => cases h2
    | succ k =>
      rw [zrun_succ] at h1 h2
      cases hs : step s with
      | none => rw [hs] at h1; cases h1
      | some x =>
        rw [hs] at h1 h2
        cases x with
        | inl t => exact ih h1 h2
        | inr z => exact Option.some.inj (h1.symm.trans h2)
noncomputable def zlim (g : Nat → Option ρ) : Option ρ := @dite (Option ρ) (∃ r, ∃ n, g n = some r) (Classical.propDecidable _) (fun h => some h.choose) (fun _ => none)
noncomputable def zgo (step : σ → Option (σ ⊕ ρ)) (x : Option (σ ⊕ ρ)) : Option ρ := match x with
  | none => none
  | some (.inl s) => zlim fun n => zrun step n s
  | some (.inr r) => some r
/-- from x the run comes to its answer r -/
def zE (step : σ → Option (σ ⊕ ρ)) (x : Option (σ ⊕ ρ)) (r : ρ) : Prop := match x with
  | none => False
  | some (.inl s) => ∃ n, zrun step n s = some r
  | some (.inr q) => q = r
theorem zlim_some {g : Nat → Option ρ} {r : ρ} (h : zlim g = some r) : ∃ n, g n = some r := by
  unfold zlim at h
  split at h
  · rename_i hx
    obtain ⟨n, hn⟩ := hx.choose_spec
    exact ⟨n, by rw [hn, Option.some.inj h]⟩
  · cases h
theorem zlim_of {step : σ → Option (σ ⊕ ρ)} {s : σ} {n : Nat} {r : ρ} (h : zrun step n s = some r) : zlim (fun n => zrun step n s) = some r := by
  unfold zlim
  have hx : ∃ r, ∃ n, zrun step n s = some r := ⟨r, n, h⟩
  rw [dif_pos hx]
  obtain ⟨k, hk⟩ := hx.choose_spec
  rw [zrun_det hk h]
theorem zE_go {step : σ → Option (σ ⊕ ρ)} {x : Option (σ ⊕ ρ)} {r : ρ} (h : zE step x r) : zgo step x = some r := by
  cases x with
  | none => exact h.elim
  | some y => cases y with
    | inl s => obtain ⟨n, hn⟩ := h; exact zlim_of hn
    | inr q => exact congrArg some h
theorem zgo_E {step : σ → Option (σ ⊕ ρ)} {x : Option (σ ⊕ ρ)} {r : ρ} (h : zgo step x = some r) : zE step x r := by
  cases x with
  | none => cases h
  | some y => cases y with
    | inl s => exact zlim_some h
    | inr q => exact Option.some.inj h
theorem zE_ret {step : σ → Option (σ ⊕ ρ)} {r : ρ} : zE step (some (.inr r)) r := rfl
theorem zE_step {step : σ → Option (σ ⊕ ρ)} {s : σ} {r : ρ} (h : zE step (step s) r) : zE step (some (.inl s)) r := by
  cases hs : step s with
  | none => rw [hs] at h; exact h.elim
  | some y =>
    rw [hs] at h
    cases y with
    | inl t => obtain ⟨n, hn⟩ := h; exact ⟨n + 1, by rw [zrun_succ, hs]; exact hn⟩
    | inr q => exact ⟨1, by rw [zrun_succ, hs]; exact congrArg some h⟩
theorem zE_next {step : σ → Option (σ ⊕ ρ)} {s t : σ} {r : ρ} (hs : step s = some (.inl t)) (h : zE step (some (.inl t)) r) : zE step (some (.inl s)) r := zE_step (by rw [hs]; exact h)
/-- a loop that counts up: f k is the state ahead of the k-th time -/
theorem zE_up {step : σ → Option (σ ⊕ ρ)} {r : ρ} (f : Nat → σ) (n : Nat) (hs : ∀ k, k < n → step (f k) = some (.inl (f (k + 1)))) (h : zE step (step (f n)) r) : zE step (some (.inl (f 0))) r := by
  have key : ∀ d k, k + d = n → zE step (some (.inl (f k))) r := by
    intro d
    induction d with
    | zero => intro k hk; have : k = n := by omega
              subst this; exact zE_step h
    | succ d ih => intro k hk; exact zE_next (hs k (by omega)) (ih (k + 1) (by omega))
  exact key n 0 (by omega)
/-- a loop that counts up, by what holds -/
theorem zE_inv {step : σ → Option (σ ⊕ ρ)} {r : ρ} (I : Nat → σ → Prop) (n : Nat) {s0 : σ} (h0 : I 0 s0) (hs : ∀ k s, k < n → I k s → ∃ t, step s = some (.inl t) ∧ I (k + 1) t) (h : ∀ s, I n s → zE step (step s) r) : zE step (some (.inl s0)) r := by
  have key : ∀ d k s, k + d = n → I k s → zE step (some (.inl s)) r := by
    intro d
    induction d with
    | zero => intro k s hk hi; have : k = n := by omega
              subst this; exact zE_step (h s hi)
    | succ d ih => intro k s hk hi; obtain ⟨t, ht, hi2⟩ := hs k s (by omega) hi; exact zE_next ht (ih (k + 1) t (by omega) hi2)
  exact key n 0 s0 (by omega) h0
/-- what holds of the outcome that is there -/
def zP {τ : Type} (F : τ → Prop) : Option τ → Prop
  | none => False
  | some v => F v
theorem zP_bind {τ α : Type} {F : τ → Prop} {x : Option α} {f : α → Option τ} {P : Prop} (h : zP F (x.bind f)) (k : ∀ v, x = some v → zP F (f v) → P) : P := by
  cases x with
  | none => exact h.elim
  | some v => exact k v rfl h
theorem zP_if {τ : Type} {F : τ → Prop} {c : Prop} [Decidable c] {x : Option τ} {P : Prop} (h : zP F (if c then x else none)) (k : c → zP F x → P) : P := by
  by_cases hc : c
  · rw [if_pos hc] at h; exact k hc h
  · rw [if_neg hc] at h; exact h.elim
theorem zP_of {τ : Type} {F : τ → Prop} {x : Option τ} {v : τ} (h : x = some v) (hv : F v) : zP F x := by rw [h]; exact hv
/-- from the steps' own walks to the whole run's -/
theorem zrun_K {step : σ → Option (σ ⊕ ρ)} {K : σ → Prop} {F : ρ → Prop} (hstep : ∀ s, zP (Sum.elim K F) (step s) → K s) {r : ρ} (hF : F r) : ∀ (n : Nat) (s : σ), zrun step n s = some r → K s := by
  intro n
  induction n with
  | zero => intro s h; cases h
  | succ n ih =>
    intro s h
    rw [zrun_succ] at h
    refine hstep s ?_
    cases hs : step s with
    | none => rw [hs] at h; cases h
    | some y =>
      rw [hs] at h
      cases y with
      | inl t => exact ih t h
      | inr q => rw [Option.some.inj h]; exact hF
theorem zgo_K {step : σ → Option (σ ⊕ ρ)} {K : σ → Prop} {F : ρ → Prop} (hstep : ∀ s, zP (Sum.elim K F) (step s) → K s) {x : Option (σ ⊕ ρ)} {r : ρ} (hF : F r) (h : zgo step x = some r) : zP (Sum.elim K F) x := by
  cases x with
  | none => cases h
  | some y => cases y with
    | inl s => obtain ⟨n, hn⟩ := zlim_some h; exact zrun_K hstep hF n s hn
    | inr q => rw [show q = r from Option.some.inj h]; exact hF
end ZRUN
end
section
/-! THE WORLD: objects by number (in the order in which they are made), what they hold, by two numbers -/
abbrev zM : Type := Nat → Nat → Int
abbrev zV : Type := Int ⊕ Int ⊕ Nat ⊕ Option Nat
abbrev zI (z : Int) : zV := .inl z
abbrev zJ (z : Int) : zV := .inr (.inl z)
abbrev zR (o : Nat) : zV := .inr (.inr (.inl o))
abbrev zN (q : Option Nat) : zV := .inr (.inr (.inr q))
/-- one place changed -/
def zst (μ : zM) (o k : Nat) (v : Int) : zM := fun p q => if p = o ∧ q = k then v else μ p q
/-- System.arraycopy: n places of a from i on come to b from j on -/
def zcp (μ : zM) (a i b j n : Nat) : zM := fun p q => if p = b ∧ j ≤ q ∧ q < j + n then μ a (i + (q - j)) else μ p q
def zrV : zV → Prop
  | .inl z => zrI z
  | .inr (.inl z) => zrJ z
  | _ => True
/-- kinds: 0 an object of a class, 1 ints, 2 booleans, 3 the row of kept stories -/
def zSH : List (Nat × Nat) := [(0, 5), (0, 3), (1, 6), (1, 240), (0, 3), (1, 4), (1, 240), (0, 4), (0, 1), (1, 5), (1, 30), (1, 1200), (3, 3), (0, 1), (1, 5), (1, 30), (0, 0), (1, 12), (1, 12), (1, 12), (1, 12), (1, 144), (1, 12), (0, 2), (1, 12), (1, 4096), (1, 6), (0, 4), (0, 1), (1, 5), (1, 30), (1, 1200), (0, 4), (0, 1), (1, 5), (1, 30), (1, 1200), (0, 4), (0, 1), (1, 5), (1, 30), (1, 1200), (0, 6), (1, 10956), (1, 3), (1, 240), (1, 6), (1, 240), (1, 4), (1, 40), (1, 6), (1, 144), (1, 4096), (1, 4096), (1, 5), (2, 5)]
def zsh (o : Nat) : Nat × Nat := zSH.getD o (9, 0)
def zFK : Nat → List (Nat × Nat)
  | 0 => [(0, 0), (0, 0), (2, 1), (2, 2), (2, 3), (2, 4), (2, 5), (2, 6)]
  | 1 => [(0, 0), (0, 0), (2, 1), (2, 2)]
  | 2 => [(0, 0), (2, 1), (2, 2)]
  | 3 => [(0, 0), (0, 0), (2, 1), (2, 2)]
  | 4 => [(2, 1), (2, 4), (0, 0)]
  | 5 => [(2, 1), (2, 4), (2, 7), (2, 12), (2, 13), (2, 16), (2, 23), (2, 26), (0, 0), (0, 0), (1, 0), (1, 0)]
  | 6 => [(2, 1), (0, 0), (2, 2), (2, 3), (2, 4), (2, 5), (2, 6), (2, 7), (0, 0), (2, 8), (0, 0), (1, 0), (1, 0), (2, 9), (2, 10), (2, 11), (2, 12), (2, 13), (1, 0)]
  | _ => []
/-- the places that hold longs -/
def zlg (o k : Nat) : Bool := (o == 0 && (k == 10 || k == 11)) || (o == 42 && (k == 11 || k == 12 || k == 18))
def zrM (μ : zM) : Prop := ∀ o k : Nat, zrJ (μ o k) ∧ (zlg o k = false → zrI (μ o k))
theorem zrM_i {μ : zM} (h : zrM μ) {o k : Nat} (hl : zlg o k = false) : zrI (μ o k) := (h o k).2 hl
theorem zrM_st {μ : zM} (h : zrM μ) {o k : Nat} {v : Int} (hv : zrJ v) (hl : zlg o k = false → zrI v) : zrM (zst μ o k v) := by
  intro p q
  unfold zst
  by_cases hc : p = o ∧ q = k
  · rw [if_pos hc, hc.1, hc.2]; exact ⟨hv, hl⟩
  · rw [if_neg hc]; exact h p q
theorem zrM_cp {μ : zM} (h : zrM μ) {a i b j n : Nat} (ha : ∀ k, zlg a k = false) : zrM (zcp μ a i b j n) := by
  intro p q
  unfold zcp
  by_cases hc : p = b ∧ j ≤ q ∧ q < j + n
  · rw [if_pos hc]; exact ⟨(h _ _).1, fun _ => (h _ _).2 (ha _)⟩
  · rw [if_neg hc]; exact h p q
theorem zsh_lt {o a b : Nat} (h : zsh o = (a, b)) (ha : a < 9) : o < 56 := by
  rcases Nat.lt_or_ge o 56 with q | q
  · exact q
  · exfalso
    unfold zsh at h
    rw [List.getD_eq_getElem?_getD, List.getElem?_eq_none (show zSH.length ≤ o from q)] at h
    have := congrArg Prod.fst h
    simp at this
    omega
def zlgok (o : Nat) : Bool := match zsh o with
  | (0, c) => (zFK c).zipIdx.all (fun t => (t.1.1 == 1) == zlg o t.2)
  | _ => (List.range 20).all (fun k => zlg o k == false)
theorem zlg_all : ∀ o < 56, zlgok o = true := by decide +kernel
theorem zlg_of {o ci k t f : Nat} (h : zsh o = (0, ci)) (hk : (zFK ci)[k]? = some (t, f)) : zlg o k = (t == 1) := by
  have h1 := zlg_all o (zsh_lt h (by omega))
  unfold zlgok at h1
  rw [h] at h1
  have h2 := List.all_eq_true.mp h1 ((t, f), k) (List.mem_of_getElem? (i := k) (by simp [hk]))
  simp at h2
  exact h2.symm
theorem zlg_arr {o a n : Nat} (h : zsh o = (a, n)) (ha : a ≠ 0) (k : Nat) : zlg o k = false := by
  cases hz : zlg o k with
  | false => rfl
  | true =>
    exfalso
    unfold zlg at hz
    have ho : o = 0 ∨ o = 42 := by simp at hz; omega
    rcases ho with rfl | rfl
    · exact ha (congrArg Prod.fst h).symm
    · exact ha (congrArg Prod.fst h).symm
/-! what stands for what -/
abbrev zG : Type := va_G × (Nat → Nat) × ClassId × ClassId × ClassId × (Nat → Prop)
abbrev zgD (G : zG) : va_G := G.1
abbrev zgR (G : zG) : Nat → Nat := G.2.1
abbrev zgI (G : zG) : ClassId := G.2.2.1
abbrev zgZ (G : zG) : ClassId := G.2.2.2.1
abbrev zgS (G : zG) : ClassId := G.2.2.2.2.1
abbrev zgA (G : zG) : Nat → Prop := G.2.2.2.2.2
def zcv (G : zG) : zV → Value
  | .inl z => .int (Int32.ofInt z)
  | .inr (.inl z) => .long (Int64.ofInt z)
  | .inr (.inr (.inl o)) => .ref (zgR G o)
  | .inr (.inr (.inr none)) => .null
  | .inr (.inr (.inr (some o))) => .ref (zgR G o)
def zfv (G : zG) (μ : zM) (o k : Nat) : Nat × Nat → Value
  | (0, _) => .int (Int32.ofInt (μ o k))
  | (1, _) => .long (Int64.ofInt (μ o k))
  | (_, f) => .ref (zgR G (o + f))
def zce (G : zG) (μ : zM) (o : Nat) : va_E := match zsh o with
  | (0, ci) => .inr (ci, (zFK ci).mapIdx (fun k t => zfv G μ o k t))
  | (1, n) => .inl (zgI G, n, .inl fun k => Int32.ofInt (μ o k))
  | (2, n) => .inl (zgZ G, n, .inl fun k => Int32.ofInt (μ o k))
  | (_, n) => .inl (zgS G, n, .inr (.inr (.inr (.inr fun k => some (zgR G (27 + 5 * k))))))
def zws (G : zG) (μ : zM) : va_W := (List.range 56).map fun o => (zgR G o, zce G μ o)
def zcl : List vw_C := [(RX0, TX0, 8), (RX1, TX1, 4), (RX2, TX2, 3), (RX3, TX3, 4), (RX4, TX4, 3), (RX5, TX5, 12), (RX6, TX6, 19)]
def zty (G : zG) : List (ClassId × FieldType) := [(zgI G, .int), (zgZ G, .boolean), (zgS G, .object "RoofLent$Story")]
/-- the four rows of constants: objects 60 to 63 -/
def zSN : Nat → String
  | 0 => "LETTERS"
  | 1 => "WEIGHTS"
  | 2 => "EASTWARD"
  | _ => "UPWARD"
def zSV : Nat → List Int
  | 0 => [104, 103, 108, 97, 101, 109]
  | 1 => [2, 1, 1, 4, 1, 1]
  | 2 => [-1, -1, 0, 1, 1]
  | _ => [0, 1, 1, 1, 0]
/-- links between nest mates -/
def zNF : List (String × Nat × String × String × String × String) := [(RX5, 125, "RoofLent$Story", "rock", "LRoofLent$Rock;", "RoofLent"), (RX5, 182, "RoofLent$Story", "deeds", "I", "RoofLent"), (RX5, 217, "RoofLent$Ledger", "allLamps", "I", "RoofLent"), (RX1, 102, "RoofLent", "UPWARD", "[I", "RoofLent"), (RX1, 90, "RoofLent", "WEIGHTS", "[I", "RoofLent"), (RX1, 99, "RoofLent", "EASTWARD", "[I", "RoofLent")]
def zNM : List (String × Nat × MethodName × String) := [(RX5, 36, yX1_init, "RoofLent"), (RX5, 43, yX0_init, "RoofLent"), (RX5, 50, yX2_init, "RoofLent"), (RX1, 84, yX5_isOf, "RoofLent"), (RX4, 11, yX1_init, "RoofLent")]
def zNw (U : State) : Prop := (∀ q ∈ zNF, va_Nw (.fieldLinkNest q.1 q.2.1 q.2.2.1 q.2.2.2.1 q.2.2.2.2.1 q.2.2.2.2.2) U) ∧ ∀ q ∈ zNM, va_Nw (.methodLinkNest q.1 q.2.1 q.2.2.1 q.2.2.2) U
theorem zNw_warm {s U : State} (hW : s.WarmedH U.vm) (h : zNw s) : zNw U := ⟨fun q hq => va_Nw.warmF hW (h.1 q hq), fun q hq => va_Nw.warmM hW (h.2 q hq)⟩
theorem zNw_same {s U : State} (e : s.vm = U.vm) (h : zNw s) : zNw U := ⟨fun q hq => va_Nw.same rfl e (h.1 q hq), fun q hq => va_Nw.same rfl e (h.2 q hq)⟩
def zSt (G : zG) (U : State) (H : Heap) : Prop := (∀ i, i < 4 → va_Z "RoofLent" (zSN i) "[I" (.ref (zgR G (60 + i))) (zgA G) U H ∧ va_T .int (zgR G (60 + i)) (zSV i).length (fun k => .int (Int32.ofInt ((zSV i).getD k 0))) (zgA G) U H) ∧ zNw U
def zRW (G : zG) (μ : zM) (U : State) : Prop := va_P (zgD G) zcl (zws G μ) U.heap ∧ va_K (zgD G) zcl (zty G) U ∧ zSt G U U.heap ∧ va_D (zgA G) (zws G μ)
theorem zws_get (G : zG) (μ : zM) {o : Nat} (h : o < 56) : (zws G μ)[o]? = some (zgR G o, zce G μ o) := by
  unfold zws
  rw [List.getElem?_map, List.getElem?_range h]
  rfl
theorem zce_congr {G : zG} {μ ν : zM} {o : Nat} (h : ν o = μ o) : zce G ν o = zce G μ o := by
  unfold zce
  split
  · congr 2
    apply List.ext_getElem?
    intro i
    simp only [List.getElem?_mapIdx]
    cases (zFK _)[i]? with
    | none => rfl
    | some t =>
      simp only [Option.map_some]
      unfold zfv
      split <;> first | rfl | rw [h]
  · rw [h]
  · rw [h]
  · rfl
theorem zws_set {G : zG} {μ ν : zM} {o : Nat} {e : va_E} (ho : o < 56) (he : zce G ν o = e) (hne : ∀ q, q ≠ o → ν q = μ q) : (zws G μ).set o (zgR G o, e) = zws G ν := by
  apply List.ext_getElem?
  intro i
  rcases Nat.lt_or_ge i 56 with hi | hi
  · rw [zws_get G ν hi]
    by_cases h : i = o
    · subst h
      rw [List.getElem?_set_self (by unfold zws; simpa using hi), he]
    · rw [List.getElem?_set_ne (fun q => h q.symm), zws_get G μ hi, zce_congr (hne i h)]
  · rw [List.getElem?_eq_none (by unfold zws; simpa using hi), List.getElem?_eq_none (by unfold zws; simpa using hi)]
theorem zce_int {G : zG} {μ : zM} {o n : Nat} (h : zsh o = (1, n)) : zce G μ o = .inl (zgI G, n, .inl fun k => Int32.ofInt (μ o k)) := by unfold zce; rw [h]; rfl
theorem zce_bool {G : zG} {μ : zM} {o n : Nat} (h : zsh o = (2, n)) : zce G μ o = .inl (zgZ G, n, .inl fun k => Int32.ofInt (μ o k)) := by unfold zce; rw [h]; rfl
theorem zce_ref {G : zG} {μ : zM} {o n : Nat} (h : zsh o = (3, n)) : zce G μ o = .inl (zgS G, n, .inr (.inr (.inr (.inr fun k => some (zgR G (27 + 5 * k)))))) := by unfold zce; rw [h]; rfl
theorem zce_obj {G : zG} {μ : zM} {o ci : Nat} (h : zsh o = (0, ci)) : zce G μ o = .inr (ci, (zFK ci).mapIdx (fun k t => zfv G μ o k t)) := by unfold zce; rw [h]; rfl
theorem zfs_get {G : zG} {μ : zM} {o ci k : Nat} {t : Nat × Nat} (hk : (zFK ci)[k]? = some t) : ((zFK ci).mapIdx (fun k t => zfv G μ o k t))[k]? = some (zfv G μ o k t) := by simp [hk]
/-- a field is written: the world is that of the new places -/
theorem zfs_set {G : zG} {μ : zM} {o ci k : Nat} {t : Nat × Nat} {v : Int} {w : Value} (hk : (zFK ci)[k]? = some t) (hw : zfv G (zst μ o k v) o k t = w) : (zFK ci).mapIdx (fun j t => zfv G (zst μ o k v) o j t) = ((zFK ci).mapIdx (fun k t => zfv G μ o k t)).set k w := by
  apply List.ext_getElem?
  intro i
  have hlen : k < (zFK ci).length := (List.getElem?_eq_some_iff.mp hk).1
  by_cases h : i = k
  · subst h
    rw [zfs_get hk, List.getElem?_set_self (by simpa using hlen), hw]
  · rw [List.getElem?_set_ne (fun q => h q.symm)]
    simp only [List.getElem?_mapIdx]
    cases (zFK ci)[i]? with
    | none => rfl
    | some t2 =>
      have e : zst μ o k v o i = μ o i := by unfold zst; rw [if_neg (fun q => h q.2)]
      simp only [Option.map_some]
      unfold zfv
      split <;> first | rfl | rw [e]
theorem zst_ne {μ : zM} {o k : Nat} {v : Int} : ∀ q, q ≠ o → zst μ o k v q = μ q := by
  intro q hq
  funext j
  unfold zst
  rw [if_neg (fun h => hq h.1)]
theorem zce_st {G : zG} {μ : zM} {o n k : Nat} {v : Int} (h : zsh o = (1, n)) : zce G (zst μ o k v) o = .inl (zgI G, n, .inl (upd (fun k => Int32.ofInt (μ o k)) k (Int32.ofInt v))) := by
  rw [zce_int h]
  congr 4
  funext j
  unfold zst upd
  by_cases hj : j = k
  · rw [if_pos ⟨rfl, hj⟩, if_pos hj]
  · rw [if_neg (fun q => hj q.2), if_neg hj]
theorem zce_stb {G : zG} {μ : zM} {o n k : Nat} {v : Int} (h : zsh o = (2, n)) : zce G (zst μ o k v) o = .inl (zgZ G, n, .inl (upd (fun k => Int32.ofInt (μ o k)) k (Int32.ofInt v))) := by
  rw [zce_bool h]
  congr 4
  funext j
  unfold zst upd
  by_cases hj : j = k
  · rw [if_pos ⟨rfl, hj⟩, if_pos hj]
  · rw [if_neg (fun q => hj q.2), if_neg hj]
/-! the words -/
def zBIG : List Cond := lw_tbl.filter goodWord
theorem zbig {w : Cond} (i : Nat) (h : lw_tbl[i]? = some w) (hg : goodWord w = true) : w ∈ zBIG := List.mem_filter.mpr ⟨List.mem_of_getElem? h, hg⟩
theorem zbig_in {w : Cond} (h : w ∈ zBIG) : w ∈ lw_tbl := (List.mem_filter.mp h).1
theorem zbig_g {w : Cond} (h : w ∈ zBIG) : w ∈ zBIG ∧ ((w.onTables && w.keeps) = true ∨ ∃ ty, w = .arrayClass ty) := ⟨h, good_of_word (List.mem_filter.mp h).2⟩
theorem zbig_sub {l : List Cond} (h : (l.all fun w => decide (w ∈ lw_tbl) && goodWord w) = true) : ∀ w ∈ l, w ∈ zBIG := fun w hw => by
  have h1 := List.all_eq_true.mp h w hw
  simp only [Bool.and_eq_true, decide_eq_true_eq] at h1
  exact List.mem_filter.mpr h1
theorem zin0 : ∀ w ∈ wsX00, w ∈ zBIG := zbig_sub (by decide +kernel)
theorem zin1 : ∀ w ∈ wsX10, w ∈ zBIG := zbig_sub (by decide +kernel)
theorem zin2 : ∀ w ∈ wsX20, w ∈ zBIG := zbig_sub (by decide +kernel)
theorem zin3 : ∀ w ∈ wsX30, w ∈ zBIG := zbig_sub (by decide +kernel)
theorem zin4 : ∀ w ∈ wsX40, w ∈ zBIG := zbig_sub (by decide +kernel)
theorem zin5 : ∀ w ∈ wsX50, w ∈ zBIG := zbig_sub (by decide +kernel)
theorem zin6 : ∀ w ∈ wsX60, w ∈ zBIG := zbig_sub (by decide +kernel)
end
section
/-! WHERE A WALK STANDS -/
abbrev zX : Type := Program × Launch × Env × Room × State × MethodId × Array Value × List Frame × Method × Code × (State → Prop) × Nat × Nat
abbrev zXp (X : zX) := X.1
abbrev zXl (X : zX) := X.2.1
abbrev zXe (X : zX) := X.2.2.1
abbrev zXR (X : zX) := X.2.2.2.1
abbrev zXs (X : zX) := X.2.2.2.2.1
abbrev zXm (X : zX) := X.2.2.2.2.2.1
abbrev zXa (X : zX) := X.2.2.2.2.2.2.1
abbrev zXb (X : zX) := X.2.2.2.2.2.2.2.1
abbrev zXM (X : zX) := X.2.2.2.2.2.2.2.2.1
abbrev zXc (X : zX) := X.2.2.2.2.2.2.2.2.2.1
abbrev zXQ (X : zX) := X.2.2.2.2.2.2.2.2.2.2.1
abbrev zXn (X : zX) := X.2.2.2.2.2.2.2.2.2.2.2.1
abbrev zXk (X : zX) := X.2.2.2.2.2.2.2.2.2.2.2.2
/-- the walk's own facts: the machine, the code, the words, what the statics hold, the room (d calls deep) -/
def zOk (X : zX) (G : zG) (cc : ByteArray) (own : String) (nL : Nat) (ret : Option FieldType) (d : Nat) : Prop :=
  (zXp X).tables.exec = Jvm.exec ∧ (zXc X).code = cc ∧ (zXc X).maxLocals = nL ∧ (zXs X).vm.findClass own = some (zXm X).cls ∧ (∀ w ∈ zBIG, w.before (zXa X) (zXs X) = true) ∧
  (zXM X).sig.returnType = ret ∧ (zXM X).locks = false ∧ va_K (zgD G) zcl (zty G) (zXs X) ∧ zSt G (zXs X) (zXs X).heap ∧ (d ≤ (zXR X).frames ∧ 64 * d ≤ (zXR X).locals) ∧ zXn X ≤ (zXR X).cells ∧ zXk X ≤ (zXR X).slots
/-- locals by their places -/
def ztl (G : zG) : Nat → List (Option zV) → List (Nat × Value)
  | _, [] => []
  | i, none :: t => ztl G (i + 1) t
  | i, some v :: t => (i, zcv G v) :: ztl G (i + 1) t
theorem ztl_in {G : zG} : ∀ {lv : List (Option zV)} {i j : Nat} {v : zV}, lv[j]? = some (some v) → (i + j, zcv G v) ∈ ztl G i lv
  | [], i, j, v, h => by simp at h
  | none :: t, i, 0, v, h => by simp at h
  | some u :: t, i, 0, v, h => by
    have : u = v := by simpa using h
    subst this
    exact List.mem_cons_self
  | none :: t, i, j + 1, v, h => by
    have := ztl_in (G := G) (lv := t) (i := i + 1) (j := j) (v := v) (by simpa using h)
    rw [show i + (j + 1) = i + 1 + j by omega]
    exact this
  | some u :: t, i, j + 1, v, h => by
    have := ztl_in (G := G) (lv := t) (i := i + 1) (j := j) (v := v) (by simpa using h)
    rw [show i + (j + 1) = i + 1 + j by omega]
    exact List.mem_cons_of_mem _ this
theorem ztl_out {G : zG} : ∀ {lv : List (Option zV)} {i : Nat} {q : Nat × Value}, q ∈ ztl G i lv → ∃ j v, lv[j]? = some (some v) ∧ q = (i + j, zcv G v)
  | [], i, q, h => by cases h
  | none :: t, i, q, h => by
    obtain ⟨j, v, h1, h2⟩ := ztl_out (lv := t) (i := i + 1) h
    exact ⟨j + 1, v, by simpa using h1, by rw [h2, show i + (j + 1) = i + 1 + j by omega]⟩
  | some u :: t, i, q, h => by
    rcases List.mem_cons.mp h with rfl | h
    · exact ⟨0, u, rfl, rfl⟩
    · obtain ⟨j, v, h1, h2⟩ := ztl_out (lv := t) (i := i + 1) h
      exact ⟨j + 1, v, by simpa using h1, by rw [h2, show i + (j + 1) = i + 1 + j by omega]⟩
def zwide : Option zV → Bool
  | some (.inr (.inl _)) => true
  | _ => false
/-- a local is written: a long takes two places; a long whose second place is written is gone -/
def zset : List (Option zV) → Nat → zV → List (Option zV)
  | [], _, _ => []
  | _ :: t, 0, v => some v :: (if zwide (some v) then (match t with | [] => [] | _ :: t2 => none :: t2) else t)
  | x :: t, i + 1, v => (if i == 0 && zwide x then none else x) :: zset t i v
theorem zset_get : ∀ {lv : List (Option zV)} {i j : Nat} {v u : zV}, (zset lv i v)[j]? = some (some u) → (j = i ∧ u = v) ∨ (lv[j]? = some (some u) ∧ j ≠ i ∧ ¬ (j + 1 = i ∧ zwide (some u) = true) ∧ ¬ (zwide (some v) = true ∧ j = i + 1))
  | [], i, j, v, u, h => by simp [zset] at h
  | x :: t, 0, 0, v, u, h => by
    left
    simp [zset] at h
    exact ⟨rfl, h.symm⟩
  | x :: t, 0, j + 1, v, u, h => by
    right
    cases hw : zwide (some v) with
    | false =>
      simp [zset, hw] at h
      exact ⟨by simpa using h, by omega, by omega, by simp⟩
    | true =>
      cases t with
      | nil => simp [zset, hw] at h
      | cons y t2 =>
        cases j with
        | zero => simp [zset, hw] at h
        | succ j =>
          simp [zset, hw] at h
          exact ⟨by simpa using h, by omega, by omega, by omega⟩
  | x :: t, i + 1, 0, v, u, h => by
    right
    by_cases hc : (i == 0 && zwide x) = true
    · simp [zset, hc] at h
    · have hx : x = some u := by
        have : (zset (x :: t) (i + 1) v)[0]? = some (if (i == 0 && zwide x) = true then none else x) := by simp [zset]
        rw [this, if_neg hc] at h
        exact Option.some.inj h
      subst hx
      refine ⟨by simp, by omega, fun q => ?_, by omega⟩
      simp at hc
      have h1 := hc (by omega)
      rw [q.2] at h1
      cases h1
  | x :: t, i + 1, j + 1, v, u, h => by
    have h1 : (zset t i v)[j]? = some (some u) := by
      have : (zset (x :: t) (i + 1) v)[j + 1]? = (zset t i v)[j]? := by simp [zset]
      rw [this] at h
      exact h
    rcases zset_get h1 with ⟨a, b⟩ | ⟨a, b, c, d⟩
    · left; exact ⟨by omega, b⟩
    · right; exact ⟨by simpa using a, by omega, fun q => c ⟨by omega, q.2⟩, fun q => d ⟨q.1, by omega⟩⟩
theorem zcat (G : zG) : ∀ v : zV, (zcv G v).category = if zwide (some v) then 2 else 1
  | .inl _ => rfl
  | .inr (.inl _) => rfl
  | .inr (.inr (.inl _)) => rfl
  | .inr (.inr (.inr none)) => rfl
  | .inr (.inr (.inr (some _))) => rfl
theorem zl_mono {ls : Array Slot} {nL : Nat} {l l' : List (Nat × Value)} (h : lv_has ls nL l) (hs : ∀ q ∈ l', q ∈ l) : lv_has ls nL l' := ⟨h.1, h.2.1, fun q hq => h.2.2 q (hs q hq)⟩
theorem zl_set1 {G : zG} {ls : Array Slot} {nL i : Nat} {lv : List (Option zV)} {v : zV} (hv : zwide (some v) = false) (h : lv_has ls nL ((i, zcv G v) :: (ztl G 0 lv).filter (fun q => !(q.1 == i) && !(q.1 + 1 == i && q.2.category == 2)))) : lv_has ls nL (ztl G 0 (zset lv i v)) := by
  refine zl_mono h (fun q hq => ?_)
  obtain ⟨j, u, h1, rfl⟩ := ztl_out hq
  rcases zset_get h1 with ⟨rfl, rfl⟩ | ⟨a, b, c, -⟩
  · rw [Nat.zero_add]; exact List.mem_cons_self
  · refine List.mem_cons_of_mem _ (List.mem_filter.mpr ⟨ztl_in a, ?_⟩)
    rw [zcat]
    cases hu : zwide (some u) with
    | false => simp; omega
    | true =>
      have c2 : ¬ j + 1 = i := fun q => c ⟨q, hu⟩
      simp; omega
theorem zl_set2 {G : zG} {ls : Array Slot} {nL i : Nat} {lv : List (Option zV)} {v : zV} (hv : zwide (some v) = true) (h : lv_has ls nL ((i, zcv G v) :: (ztl G 0 lv).filter (fun q => !(q.1 == i) && (!(q.1 == i + 1) && !(q.1 + 1 == i && q.2.category == 2))))) : lv_has ls nL (ztl G 0 (zset lv i v)) := by
  refine zl_mono h (fun q hq => ?_)
  obtain ⟨j, u, h1, rfl⟩ := ztl_out hq
  rcases zset_get h1 with ⟨rfl, rfl⟩ | ⟨a, b, c, d⟩
  · rw [Nat.zero_add]; exact List.mem_cons_self
  · refine List.mem_cons_of_mem _ (List.mem_filter.mpr ⟨ztl_in a, ?_⟩)
    rw [zcat]
    have d2 : ¬ j = i + 1 := fun q => d ⟨hv, q⟩
    cases hu : zwide (some u) with
    | false => simp; omega
    | true =>
      have c2 : ¬ j + 1 = i := fun q => c ⟨q, hu⟩
      simp; omega
def zrL (lv : List (Option zV)) : Prop := ∀ (j : Nat) (v : zV), lv[j]? = some (some v) → zrV v
def zrS (st : List zV) : Prop := ∀ v ∈ st, zrV v
theorem zrL_set {lv : List (Option zV)} {i : Nat} {v : zV} (h : zrL lv) (hv : zrV v) : zrL (zset lv i v) := fun j u hu => by
  rcases zset_get hu with ⟨-, rfl⟩ | ⟨a, -⟩
  · exact hv
  · exact h j u a
theorem zrS_cons {v : zV} {st : List zV} (hv : zrV v) (h : zrS st) : zrS (v :: st) := fun u hu => by
  rcases List.mem_cons.mp hu with rfl | hu
  · exact hv
  · exact h u hu
theorem zrS_hd {v : zV} {st : List zV} (h : zrS (v :: st)) : zrV v := h v List.mem_cons_self
theorem zrS_tl {v : zV} {st : List zV} (h : zrS (v :: st)) : zrS st := fun u hu => h u (List.mem_cons_of_mem _ hu)
/-- fewer locals are told -/
def zle : List (Option zV) → List (Option zV) → Prop
  | [], _ => True
  | none :: a, _ :: b => zle a b
  | some x :: a, y :: b => y = some x ∧ zle a b
  | none :: a, [] => zle a []
  | some _ :: _, [] => False
theorem zle_get : ∀ {a b : List (Option zV)} {j : Nat} {v : zV}, zle a b → a[j]? = some (some v) → b[j]? = some (some v)
  | [], b, j, v, h, hj => by simp at hj
  | none :: a, [], 0, v, h, hj => by simp at hj
  | none :: a, [], j + 1, v, h, hj => by
    have := zle_get (a := a) (b := []) (j := j) (v := v) h (by simpa using hj)
    simp at this
  | none :: a, y :: b, 0, v, h, hj => by simp at hj
  | none :: a, y :: b, j + 1, v, h, hj => by
    have := zle_get (a := a) (b := b) (j := j) (v := v) h (by simpa using hj)
    simpa using this
  | some x :: a, [], j, v, h, hj => h.elim
  | some x :: a, y :: b, 0, v, h, hj => by
    obtain ⟨rfl, -⟩ := h
    simpa using hj
  | some x :: a, y :: b, j + 1, v, h, hj => by
    have := zle_get (a := a) (b := b) (j := j) (v := v) h.2 (by simpa using hj)
    simpa using this
/-- the walk, from pc with locals lv, stack st and world μ, comes to its end -/
def zW (X : zX) (G : zG) (nL pc : Nat) (lv : List (Option zV)) (st : List zV) (μ : zM) : Prop :=
  ∀ (H : Heap) (locs : List Loc) (ls : Array Slot), zrM μ → zrS st → zrL lv → lv_has ls nL (ztl G 0 lv) → va_P (zgD G) zcl (zws G μ) H → va_D (zgA G) (zws G μ) → va_S (zgA G) (zXs X).heap H locs →
    W (zXp X) (zXl X) (zXe X) (zXR X) (zXs X) (zXm X) (zXa X) (zXb X) (zXM X) (zXc X) H locs (zXn X) (zXk X) (zXQ X) (F0 (zXm X) pc ls (st.map (zcv G)))
theorem zW_le {X : zX} {G : zG} {nL pc : Nat} {lv lw : List (Option zV)} {st : List zV} {μ : zM} (h : zle lv lw) (k : zW X G nL pc lv st μ) : zW X G nL pc lw st μ := fun H locs ls hM hst hlv hl hP hD hS =>
  k H locs ls hM hst (fun j v hv => hlv j v (zle_get h hv)) (zl_mono hl (fun q hq => by
    obtain ⟨j, v, h1, rfl⟩ := ztl_out hq
    exact ztl_in (zle_get h h1))) hP hD hS
section ZR
variable {X : zX} {G : zG} {cc : ByteArray} {own : String} {nL d pc : Nat} {ret : Option FieldType} {lv : List (Option zV)} {st : List zV} {μ : zM}
/-! constants -/
theorem zrl {n : Int} (h : (decide (-2147483648 ≤ n) && decide (n < 2147483648)) = true) : zrI n := by
  simp only [Bool.and_eq_true, decide_eq_true_eq] at h
  exact h
theorem zrlJ {n : Int} (h : (decide (-9223372036854775808 ≤ n) && decide (n < 9223372036854775808)) = true) : zrJ n := by
  simp only [Bool.and_eq_true, decide_eq_true_eq] at h
  exact h
theorem z_b8 {n : Int} (h : (decide (-128 ≤ n) && decide (n ≤ 127)) = true) : (Int8.ofInt n).toInt32 = Int32.ofInt n ∧ zrI n := by
  simp only [Bool.and_eq_true, decide_eq_true_eq] at h
  exact ⟨Int8.toInt32_ofInt h.1 h.2, by unfold zrI; omega⟩
theorem z_b16 {n : Int} (h : (decide (-32768 ≤ n) && decide (n ≤ 32767)) = true) : (Int16.ofInt n).toInt32 = Int32.ofInt n ∧ zrI n := by
  simp only [Bool.and_eq_true, decide_eq_true_eq] at h
  exact ⟨Int16.toInt32_ofInt h.1 h.2, by unfold zrI; omega⟩
theorem zr_iconst (hX : zOk X G cc own nL ret d) {n : Int} (hd : decode cc pc = .ok (.iconst n, 1)) (hr : zrI n) (k : zW X G nL (pc + 1) lv (zI n :: st) μ) : zW X G nL pc lv st μ := fun H locs ls hM hst hlv hl hP hD hS =>
  lv_iconst hX.1 hX.2.1 hd rfl (k H locs ls hM (zrS_cons hr hst) hlv hl hP hD hS)
theorem zr_bipush (hX : zOk X G cc own nL ret d) {n : Int} (hd : decode cc pc = .ok (.bipush n, 2)) (hb : (decide (-128 ≤ n) && decide (n ≤ 127)) = true) (k : zW X G nL (pc + 2) lv (zI n :: st) μ) : zW X G nL pc lv st μ := fun H locs ls hM hst hlv hl hP hD hS =>
  lv_bipush hX.1 hX.2.1 hd (z_b8 hb).1 (k H locs ls hM (zrS_cons (z_b8 hb).2 hst) hlv hl hP hD hS)
theorem zr_sipush (hX : zOk X G cc own nL ret d) {n : Int} (hd : decode cc pc = .ok (.sipush n, 3)) (hb : (decide (-32768 ≤ n) && decide (n ≤ 32767)) = true) (k : zW X G nL (pc + 3) lv (zI n :: st) μ) : zW X G nL pc lv st μ := fun H locs ls hM hst hlv hl hP hD hS =>
  lv_sipush hX.1 hX.2.1 hd (z_b16 hb).1 (k H locs ls hM (zrS_cons (z_b16 hb).2 hst) hlv hl hP hD hS)
theorem zr_lconst (hX : zOk X G cc own nL ret d) {q : Fin 2} {n : Int} (hd : decode cc pc = .ok (.lconst q, 1)) (hv : Int64.ofNat (q : Nat) = Int64.ofInt n) (hr : zrJ n) (k : zW X G nL (pc + 1) lv (zJ n :: st) μ) : zW X G nL pc lv st μ := fun H locs ls hM hst hlv hl hP hD hS =>
  lv_lconst hX.1 hX.2.1 hd hv (k H locs ls hM (zrS_cons hr hst) hlv hl hP hD hS)
theorem zr_ldc (hX : zOk X G cc own nL ret d) {i : Nat} {n : Int} {v : Int32} (hd : decode cc pc = .ok (.ldc i, 2)) (hw : Cond.constant own i v ∈ zBIG) (hv : Int32.ofInt n = v) (hr : zrI n) (k : zW X G nL (pc + 2) lv (zI n :: st) μ) : zW X G nL pc lv st μ := fun H locs ls hM hst hlv hl hP hD hS => by
  refine lv_ldc hX.1 hX.2.1 hX.2.2.2.1 (hX.2.2.2.2.1 _ hw) hd ?_
  subst hv
  exact k H locs ls hM (zrS_cons hr hst) hlv hl hP hD hS
theorem zr_ldcw (hX : zOk X G cc own nL ret d) {i : Nat} {n : Int} {v : Int32} (hd : decode cc pc = .ok (.ldc_w i, 3)) (hw : Cond.constant own i v ∈ zBIG) (hv : Int32.ofInt n = v) (hr : zrI n) (k : zW X G nL (pc + 3) lv (zI n :: st) μ) : zW X G nL pc lv st μ := fun H locs ls hM hst hlv hl hP hD hS => by
  refine lv_ldcw hX.1 hX.2.1 hX.2.2.2.1 (hX.2.2.2.2.1 _ hw) hd ?_
  subst hv
  exact k H locs ls hM (zrS_cons hr hst) hlv hl hP hD hS
theorem zr_ldc2 (hX : zOk X G cc own nL ret d) {i : Nat} {n : Int} {v : Int64} (hd : decode cc pc = .ok (.ldc2_w i, 3)) (hw : Cond.constantLong own i v ∈ zBIG) (hv : Int64.ofInt n = v) (hr : zrJ n) (k : zW X G nL (pc + 3) lv (zJ n :: st) μ) : zW X G nL pc lv st μ := fun H locs ls hM hst hlv hl hP hD hS => by
  refine lv_ldc2 hX.1 hX.2.1 hX.2.2.2.1 (hX.2.2.2.2.1 _ hw) hd ?_
  subst hv
  exact k H locs ls hM (zrS_cons hr hst) hlv hl hP hD hS
/-! locals -/
theorem zl_at {ls : Array Slot} {i : Nat} {v : zV} (hl : lv_has ls nL (ztl G 0 lv)) (h : lv[i]? = some (some v)) : ls[i]? = some (.val (zcv G v)) := by
  have := hl.2.2 _ (ztl_in (i := 0) h)
  simpa using this
theorem zr_iload_n (hX : zOk X G cc own nL ret d) {q : Fin 4} {i : Nat} {z : Int} (hd : decode cc pc = .ok (.iload_n q, 1)) (hi : (q : Nat) = i) (h : lv[i]? = some (some (zI z))) (k : zW X G nL (pc + 1) lv (zI z :: st) μ) : zW X G nL pc lv st μ := fun H locs ls hM hst hlv hl hP hD hS =>
  lv_iload_n hX.1 hX.2.1 hd hi (zl_at hl h) (k H locs ls hM (zrS_cons (hlv _ _ h) hst) hlv hl hP hD hS)
theorem zr_iload (hX : zOk X G cc own nL ret d) {i : Nat} {z : Int} (hd : decode cc pc = .ok (.iload i, 2)) (h : lv[i]? = some (some (zI z))) (k : zW X G nL (pc + 2) lv (zI z :: st) μ) : zW X G nL pc lv st μ := fun H locs ls hM hst hlv hl hP hD hS =>
  lv_iload hX.1 hX.2.1 hd (zl_at hl h) (k H locs ls hM (zrS_cons (hlv _ _ h) hst) hlv hl hP hD hS)
theorem zr_lload_n (hX : zOk X G cc own nL ret d) {q : Fin 4} {i : Nat} {z : Int} (hd : decode cc pc = .ok (.lload_n q, 1)) (hi : (q : Nat) = i) (h : lv[i]? = some (some (zJ z))) (k : zW X G nL (pc + 1) lv (zJ z :: st) μ) : zW X G nL pc lv st μ := fun H locs ls hM hst hlv hl hP hD hS =>
  lv_lload_n hX.1 hX.2.1 hd hi (zl_at hl h) (k H locs ls hM (zrS_cons (hlv _ _ h) hst) hlv hl hP hD hS)
theorem zr_lload (hX : zOk X G cc own nL ret d) {i : Nat} {z : Int} (hd : decode cc pc = .ok (.lload i, 2)) (h : lv[i]? = some (some (zJ z))) (k : zW X G nL (pc + 2) lv (zJ z :: st) μ) : zW X G nL pc lv st μ := fun H locs ls hM hst hlv hl hP hD hS =>
  lv_lload hX.1 hX.2.1 hd (zl_at hl h) (k H locs ls hM (zrS_cons (hlv _ _ h) hst) hlv hl hP hD hS)
theorem zr_aload_n (hX : zOk X G cc own nL ret d) {q : Fin 4} {i : Nat} {o : Nat} (hd : decode cc pc = .ok (.aload_n q, 1)) (hi : (q : Nat) = i) (h : lv[i]? = some (some (zR o))) (k : zW X G nL (pc + 1) lv (zR o :: st) μ) : zW X G nL pc lv st μ := fun H locs ls hM hst hlv hl hP hD hS =>
  lv_aload_n hX.1 hX.2.1 hd hi (zl_at hl h) (k H locs ls hM (zrS_cons (hlv _ _ h) hst) hlv hl hP hD hS)
theorem zr_aload (hX : zOk X G cc own nL ret d) {i : Nat} {o : Nat} (hd : decode cc pc = .ok (.aload i, 2)) (h : lv[i]? = some (some (zR o))) (k : zW X G nL (pc + 2) lv (zR o :: st) μ) : zW X G nL pc lv st μ := fun H locs ls hM hst hlv hl hP hD hS =>
  lv_aload hX.1 hX.2.1 hd (zl_at hl h) (k H locs ls hM (zrS_cons (hlv _ _ h) hst) hlv hl hP hD hS)
theorem zr_aload_nN (hX : zOk X G cc own nL ret d) {q : Fin 4} {i : Nat} {o : Option Nat} (hd : decode cc pc = .ok (.aload_n q, 1)) (hi : (q : Nat) = i) (h : lv[i]? = some (some (zN o))) (k : zW X G nL (pc + 1) lv (zN o :: st) μ) : zW X G nL pc lv st μ := fun H locs ls hM hst hlv hl hP hD hS => by
  cases o with
  | none => exact lv_aload_nN hX.1 hX.2.1 hd hi (zl_at hl h) (k H locs ls hM (zrS_cons (hlv _ _ h) hst) hlv hl hP hD hS)
  | some o => exact lv_aload_n hX.1 hX.2.1 hd hi (zl_at hl h) (k H locs ls hM (zrS_cons (hlv _ _ h) hst) hlv hl hP hD hS)
theorem zr_istore_n (hX : zOk X G cc own nL ret d) {q : Fin 4} {i : Nat} {z : Int} (hd : decode cc pc = .ok (.istore_n q, 1)) (hi : (q : Nat) = i) (hn : i < nL) (k : zW X G nL (pc + 1) (zset lv i (zI z)) st μ) : zW X G nL pc lv (zI z :: st) μ := fun H locs ls hM hst hlv hl hP hD hS =>
  lv_istore_n hX.1 hX.2.1 hd hi hl hn rfl (fun ls' h' => k H locs ls' hM (zrS_tl hst) (zrL_set hlv (zrS_hd hst)) (zl_set1 rfl h') hP hD hS)
theorem zr_istore (hX : zOk X G cc own nL ret d) {i : Nat} {z : Int} (hd : decode cc pc = .ok (.istore i, 2)) (hn : i < nL) (k : zW X G nL (pc + 2) (zset lv i (zI z)) st μ) : zW X G nL pc lv (zI z :: st) μ := fun H locs ls hM hst hlv hl hP hD hS =>
  lv_istore hX.1 hX.2.1 hd hl hn rfl (fun ls' h' => k H locs ls' hM (zrS_tl hst) (zrL_set hlv (zrS_hd hst)) (zl_set1 rfl h') hP hD hS)
theorem zr_lstore_n (hX : zOk X G cc own nL ret d) {q : Fin 4} {i : Nat} {z : Int} (hd : decode cc pc = .ok (.lstore_n q, 1)) (hi : (q : Nat) = i) (hn : i + 1 < nL) (k : zW X G nL (pc + 1) (zset lv i (zJ z)) st μ) : zW X G nL pc lv (zJ z :: st) μ := fun H locs ls hM hst hlv hl hP hD hS =>
  lv_lstore_n hX.1 hX.2.1 hd hi hl hn rfl (fun ls' h' => k H locs ls' hM (zrS_tl hst) (zrL_set hlv (zrS_hd hst)) (zl_set2 rfl h') hP hD hS)
theorem zr_lstore (hX : zOk X G cc own nL ret d) {i : Nat} {z : Int} (hd : decode cc pc = .ok (.lstore i, 2)) (hn : i + 1 < nL) (k : zW X G nL (pc + 2) (zset lv i (zJ z)) st μ) : zW X G nL pc lv (zJ z :: st) μ := fun H locs ls hM hst hlv hl hP hD hS =>
  lv_lstore hX.1 hX.2.1 hd hl hn rfl (fun ls' h' => k H locs ls' hM (zrS_tl hst) (zrL_set hlv (zrS_hd hst)) (zl_set2 rfl h') hP hD hS)
theorem zr_astore_n (hX : zOk X G cc own nL ret d) {q : Fin 4} {i : Nat} {o : Nat} (hd : decode cc pc = .ok (.astore_n q, 1)) (hi : (q : Nat) = i) (hn : i < nL) (k : zW X G nL (pc + 1) (zset lv i (zR o)) st μ) : zW X G nL pc lv (zR o :: st) μ := fun H locs ls hM hst hlv hl hP hD hS =>
  lv_astore_n hX.1 hX.2.1 hd hi hl hn rfl (fun ls' h' => k H locs ls' hM (zrS_tl hst) (zrL_set hlv (zrS_hd hst)) (zl_set1 rfl h') hP hD hS)
theorem zr_astore (hX : zOk X G cc own nL ret d) {i : Nat} {o : Nat} (hd : decode cc pc = .ok (.astore i, 2)) (hn : i < nL) (k : zW X G nL (pc + 2) (zset lv i (zR o)) st μ) : zW X G nL pc lv (zR o :: st) μ := fun H locs ls hM hst hlv hl hP hD hS =>
  lv_astore hX.1 hX.2.1 hd hl hn rfl (fun ls' h' => k H locs ls' hM (zrS_tl hst) (zrL_set hlv (zrS_hd hst)) (zl_set1 rfl h') hP hD hS)
theorem zr_astore_nN (hX : zOk X G cc own nL ret d) {q : Fin 4} {i : Nat} {o : Option Nat} (hd : decode cc pc = .ok (.astore_n q, 1)) (hi : (q : Nat) = i) (hn : i < nL) (k : zW X G nL (pc + 1) (zset lv i (zN o)) st μ) : zW X G nL pc lv (zN o :: st) μ := fun H locs ls hM hst hlv hl hP hD hS => by
  cases o with
  | none => exact lv_astore_nN hX.1 hX.2.1 hd hi hl hn rfl (fun ls' h' => k H locs ls' hM (zrS_tl hst) (zrL_set hlv (zrS_hd hst)) (zl_set1 rfl h') hP hD hS)
  | some o => exact lv_astore_n hX.1 hX.2.1 hd hi hl hn rfl (fun ls' h' => k H locs ls' hM (zrS_tl hst) (zrL_set hlv (zrS_hd hst)) (zl_set1 rfl h') hP hD hS)
theorem zr_iinc (hX : zOk X G cc own nL ret d) {i : Nat} {n z : Int} (hd : decode cc pc = .ok (.iinc i n, 3)) (h : lv[i]? = some (some (zI z))) (hn : i < nL) (k : zW X G nL (pc + 3) (zset lv i (zI (z32 (z + n)))) st μ) : zW X G nL pc lv st μ := fun H locs ls hM hst hlv hl hP hD hS => by
  have hm : (i, Value.int (Int32.ofInt z)) ∈ ztl G 0 lv := by
    have := ztl_in (G := G) (i := 0) h
    rw [Nat.zero_add] at this
    exact this
  obtain ⟨j, hj⟩ := List.getElem?_of_mem hm
  refine lv_iinc hX.1 hX.2.1 hd hl hj (v := Int32.ofInt (z32 (z + n))) (by rw [z32_of, Int32.ofInt_add]) hn rfl (fun ls' h' => ?_)
  exact k H locs ls' hM hst (zrL_set hlv (z32_r _)) (zl_set1 (v := zI (z32 (z + n))) rfl h') hP hD hS
end ZR
end
section
section ZR2
variable {X : zX} {G : zG} {cc : ByteArray} {own : String} {nL d pc : Nat} {ret : Option FieldType} {lv : List (Option zV)} {st : List zV} {μ : zM}
/-! arithmetic -/
theorem zr_iadd (hX : zOk X G cc own nL ret d) {a b : Int} (hd : decode cc pc = .ok (.iadd, 1)) (k : zW X G nL (pc + 1) lv (zI (z32 (a + b)) :: st) μ) : zW X G nL pc lv (zI b :: zI a :: st) μ := fun H locs ls hM hst hlv hl hP hD hS => by
  refine lv_iadd hX.1 hX.2.1 hd ?_
  rw [← Int32.ofInt_add, ← z32_of]
  exact k H locs ls hM (zrS_cons (z32_r _) (zrS_tl (zrS_tl hst))) hlv hl hP hD hS
theorem zr_isub (hX : zOk X G cc own nL ret d) {a b : Int} (hd : decode cc pc = .ok (.isub, 1)) (k : zW X G nL (pc + 1) lv (zI (z32 (a - b)) :: st) μ) : zW X G nL pc lv (zI b :: zI a :: st) μ := fun H locs ls hM hst hlv hl hP hD hS => by
  refine lv_isub hX.1 hX.2.1 hd ?_
  rw [← Int32.ofInt_sub, ← z32_of]
  exact k H locs ls hM (zrS_cons (z32_r _) (zrS_tl (zrS_tl hst))) hlv hl hP hD hS
theorem zr_imul (hX : zOk X G cc own nL ret d) {a b : Int} (hd : decode cc pc = .ok (.imul, 1)) (k : zW X G nL (pc + 1) lv (zI (z32 (a * b)) :: st) μ) : zW X G nL pc lv (zI b :: zI a :: st) μ := fun H locs ls hM hst hlv hl hP hD hS => by
  refine lv_imul hX.1 hX.2.1 hd ?_
  rw [← Int32.ofInt_mul, ← z32_of]
  exact k H locs ls hM (zrS_cons (z32_r _) (zrS_tl (zrS_tl hst))) hlv hl hP hD hS
theorem zr_iand (hX : zOk X G cc own nL ret d) {a b : Int} (hd : decode cc pc = .ok (.iand, 1)) (k : zW X G nL (pc + 1) lv (zI (zand a b) :: st) μ) : zW X G nL pc lv (zI b :: zI a :: st) μ := fun H locs ls hM hst hlv hl hP hD hS => by
  refine lv_iand hX.1 hX.2.1 hd ?_
  rw [← Int32.ofInt_toInt (Int32.ofInt a &&& Int32.ofInt b)]
  exact k H locs ls hM (zrS_cons (zr_toInt _) (zrS_tl (zrS_tl hst))) hlv hl hP hD hS
theorem zr_ior (hX : zOk X G cc own nL ret d) {a b : Int} (hd : decode cc pc = .ok (.ior, 1)) (k : zW X G nL (pc + 1) lv (zI (zor a b) :: st) μ) : zW X G nL pc lv (zI b :: zI a :: st) μ := fun H locs ls hM hst hlv hl hP hD hS => by
  refine lv_ior hX.1 hX.2.1 hd ?_
  rw [← Int32.ofInt_toInt (Int32.ofInt a ||| Int32.ofInt b)]
  exact k H locs ls hM (zrS_cons (zr_toInt _) (zrS_tl (zrS_tl hst))) hlv hl hP hD hS
theorem zr_ixor (hX : zOk X G cc own nL ret d) {a b : Int} (hd : decode cc pc = .ok (.ixor, 1)) (k : zW X G nL (pc + 1) lv (zI (zxor a b) :: st) μ) : zW X G nL pc lv (zI b :: zI a :: st) μ := fun H locs ls hM hst hlv hl hP hD hS => by
  refine lv_ixor hX.1 hX.2.1 hd ?_
  rw [← Int32.ofInt_toInt (Int32.ofInt a ^^^ Int32.ofInt b)]
  exact k H locs ls hM (zrS_cons (zr_toInt _) (zrS_tl (zrS_tl hst))) hlv hl hP hD hS
theorem zr_ishl (hX : zOk X G cc own nL ret d) {a b : Int} (hd : decode cc pc = .ok (.ishl, 1)) (k : zW X G nL (pc + 1) lv (zI (zshl a b) :: st) μ) : zW X G nL pc lv (zI b :: zI a :: st) μ := fun H locs ls hM hst hlv hl hP hD hS => by
  refine lv_ishl hX.1 hX.2.1 hd ?_
  rw [← Int32.ofInt_toInt (Int32.ofInt a <<< (Int32.ofInt b &&& 31))]
  exact k H locs ls hM (zrS_cons (zr_toInt _) (zrS_tl (zrS_tl hst))) hlv hl hP hD hS
theorem zr_ishr (hX : zOk X G cc own nL ret d) {a b : Int} (hd : decode cc pc = .ok (.ishr, 1)) (k : zW X G nL (pc + 1) lv (zI (zshr a b) :: st) μ) : zW X G nL pc lv (zI b :: zI a :: st) μ := fun H locs ls hM hst hlv hl hP hD hS => by
  refine lv_ishr hX.1 hX.2.1 hd ?_
  rw [← Int32.ofInt_toInt (Int32.ofInt a >>> (Int32.ofInt b &&& 31))]
  exact k H locs ls hM (zrS_cons (zr_toInt _) (zrS_tl (zrS_tl hst))) hlv hl hP hD hS
def zushr (a b : Int) : Int := ((Int32.ofInt a).toUInt32 >>> ((Int32.ofInt b).toUInt32 &&& Int32.toUInt32 31)).toInt32.toInt
theorem zr_iushr (hX : zOk X G cc own nL ret d) {a b : Int} (hd : decode cc pc = .ok (.iushr, 1)) (k : zW X G nL (pc + 1) lv (zI (zushr a b) :: st) μ) : zW X G nL pc lv (zI b :: zI a :: st) μ := fun H locs ls hM hst hlv hl hP hD hS =>
  lv_iushr hX.1 hX.2.1 hd (Int32.ofInt_toInt _).symm (k H locs ls hM (zrS_cons (zr_toInt _) (zrS_tl (zrS_tl hst))) hlv hl hP hD hS)
theorem z_ne0 {b : Int} (hb : zrI b) (h : ¬ b = 0) : ¬ Int32.ofInt b = 0 := fun q => h ((z_inj hb (by unfold zrI; omega)).mp q)
theorem zl_ne0 {b : Int} (hb : zrJ b) (h : ¬ b = 0) : ¬ Int64.ofInt b = 0 := fun q => h ((zl_inj hb (by unfold zrJ; omega)).mp q)
theorem zr_idiv {τ : Type} {F : τ → Prop} (hX : zOk X G cc own nL ret d) {a b : Int} (hd : decode cc pc = .ok (.idiv, 1)) {B : Option τ} (h : zP F (if ¬ b = 0 then B else none)) (k : zP F B → zW X G nL (pc + 1) lv (zI (zdiv a b) :: st) μ) : zW X G nL pc lv (zI b :: zI a :: st) μ := zP_if h fun hc h H locs ls hM hst hlv hl hP hD hS => by
  refine lv_idiv hX.1 hX.2.1 hd (z_ne0 (zrS_hd hst) hc) ?_
  rw [← Int32.ofInt_toInt (Int32.ofInt a / Int32.ofInt b)]
  exact k h H locs ls hM (zrS_cons (zr_toInt _) (zrS_tl (zrS_tl hst))) hlv hl hP hD hS
theorem zr_irem {τ : Type} {F : τ → Prop} (hX : zOk X G cc own nL ret d) {a b : Int} (hd : decode cc pc = .ok (.irem, 1)) {B : Option τ} (h : zP F (if ¬ b = 0 then B else none)) (k : zP F B → zW X G nL (pc + 1) lv (zI (zrem a b) :: st) μ) : zW X G nL pc lv (zI b :: zI a :: st) μ := zP_if h fun hc h H locs ls hM hst hlv hl hP hD hS => by
  refine lv_irem hX.1 hX.2.1 hd (z_ne0 (zrS_hd hst) hc) ?_
  rw [← Int32.ofInt_toInt (Int32.ofInt a - Int32.ofInt a / Int32.ofInt b * Int32.ofInt b)]
  exact k h H locs ls hM (zrS_cons (zr_toInt _) (zrS_tl (zrS_tl hst))) hlv hl hP hD hS
theorem zr_ldiv {τ : Type} {F : τ → Prop} (hX : zOk X G cc own nL ret d) {a b : Int} (hd : decode cc pc = .ok (.ldiv, 1)) {B : Option τ} (h : zP F (if ¬ b = 0 then B else none)) (k : zP F B → zW X G nL (pc + 1) lv (zJ (zldiv a b) :: st) μ) : zW X G nL pc lv (zJ b :: zJ a :: st) μ := zP_if h fun hc h H locs ls hM hst hlv hl hP hD hS => by
  refine lv_ldiv hX.1 hX.2.1 hd (zl_ne0 (zrS_hd hst) hc) ?_
  rw [← Int64.ofInt_toInt (Int64.ofInt a / Int64.ofInt b)]
  exact k h H locs ls hM (zrS_cons (zr_toLong _) (zrS_tl (zrS_tl hst))) hlv hl hP hD hS
theorem zr_lrem {τ : Type} {F : τ → Prop} (hX : zOk X G cc own nL ret d) {a b : Int} (hd : decode cc pc = .ok (.lrem, 1)) {B : Option τ} (h : zP F (if ¬ b = 0 then B else none)) (k : zP F B → zW X G nL (pc + 1) lv (zJ (zlrem a b) :: st) μ) : zW X G nL pc lv (zJ b :: zJ a :: st) μ := zP_if h fun hc h H locs ls hM hst hlv hl hP hD hS => by
  refine lv_lrem hX.1 hX.2.1 hd (zl_ne0 (zrS_hd hst) hc) ?_
  rw [← Int64.ofInt_toInt (Int64.ofInt a - Int64.ofInt a / Int64.ofInt b * Int64.ofInt b)]
  exact k h H locs ls hM (zrS_cons (zr_toLong _) (zrS_tl (zrS_tl hst))) hlv hl hP hD hS
theorem zr_idivc (hX : zOk X G cc own nL ret d) {a b : Int} (hd : decode cc pc = .ok (.idiv, 1)) (hc : ¬ b = 0) (k : zW X G nL (pc + 1) lv (zI (zdiv a b) :: st) μ) : zW X G nL pc lv (zI b :: zI a :: st) μ := zr_idiv (F := fun _ : Unit => True) (B := some ()) hX hd (by rw [if_pos hc]; trivial) (fun _ => k)
theorem zr_iremc (hX : zOk X G cc own nL ret d) {a b : Int} (hd : decode cc pc = .ok (.irem, 1)) (hc : ¬ b = 0) (k : zW X G nL (pc + 1) lv (zI (zrem a b) :: st) μ) : zW X G nL pc lv (zI b :: zI a :: st) μ := zr_irem (F := fun _ : Unit => True) (B := some ()) hX hd (by rw [if_pos hc]; trivial) (fun _ => k)
theorem zr_ldivc (hX : zOk X G cc own nL ret d) {a b : Int} (hd : decode cc pc = .ok (.ldiv, 1)) (hc : ¬ b = 0) (k : zW X G nL (pc + 1) lv (zJ (zldiv a b) :: st) μ) : zW X G nL pc lv (zJ b :: zJ a :: st) μ := zr_ldiv (F := fun _ : Unit => True) (B := some ()) hX hd (by rw [if_pos hc]; trivial) (fun _ => k)
theorem zr_lremc (hX : zOk X G cc own nL ret d) {a b : Int} (hd : decode cc pc = .ok (.lrem, 1)) (hc : ¬ b = 0) (k : zW X G nL (pc + 1) lv (zJ (zlrem a b) :: st) μ) : zW X G nL pc lv (zJ b :: zJ a :: st) μ := zr_lrem (F := fun _ : Unit => True) (B := some ()) hX hd (by rw [if_pos hc]; trivial) (fun _ => k)
theorem zr_ladd (hX : zOk X G cc own nL ret d) {a b : Int} (hd : decode cc pc = .ok (.ladd, 1)) (k : zW X G nL (pc + 1) lv (zJ (z64 (a + b)) :: st) μ) : zW X G nL pc lv (zJ b :: zJ a :: st) μ := fun H locs ls hM hst hlv hl hP hD hS => by
  refine lv_ladd hX.1 hX.2.1 hd ?_
  rw [← Int64.ofInt_add, ← z64_of]
  exact k H locs ls hM (zrS_cons (z64_r _) (zrS_tl (zrS_tl hst))) hlv hl hP hD hS
theorem zr_lmul (hX : zOk X G cc own nL ret d) {a b : Int} (hd : decode cc pc = .ok (.lmul, 1)) (k : zW X G nL (pc + 1) lv (zJ (z64 (a * b)) :: st) μ) : zW X G nL pc lv (zJ b :: zJ a :: st) μ := fun H locs ls hM hst hlv hl hP hD hS => by
  refine lv_lmul hX.1 hX.2.1 hd ?_
  rw [← Int64.ofInt_mul, ← z64_of]
  exact k H locs ls hM (zrS_cons (z64_r _) (zrS_tl (zrS_tl hst))) hlv hl hP hD hS
theorem zr_lcmp (hX : zOk X G cc own nL ret d) {a b : Int} (hd : decode cc pc = .ok (.lcmp, 1)) (k : zW X G nL (pc + 1) lv (zI (zlcmp a b) :: st) μ) : zW X G nL pc lv (zJ b :: zJ a :: st) μ := fun H locs ls hM hst hlv hl hP hD hS => by
  refine W.lcmp hX.1 hX.2.1 hd ?_
  rw [← zlcmp_c (zrS_hd (zrS_tl hst)) (zrS_hd hst)]
  exact k H locs ls hM (zrS_cons (zlcmp_r _ _) (zrS_tl (zrS_tl hst))) hlv hl hP hD hS
theorem zr_i2l (hX : zOk X G cc own nL ret d) {a : Int} (hd : decode cc pc = .ok (.i2l, 1)) (k : zW X G nL (pc + 1) lv (zJ a :: st) μ) : zW X G nL pc lv (zI a :: st) μ := fun H locs ls hM hst hlv hl hP hD hS =>
  lv_i2l hX.1 hX.2.1 hd (Int32.toInt64_ofInt (zrS_hd hst).1 (by have := (show zrI a from zrS_hd hst).2; show a ≤ 2147483647; omega)) (k H locs ls hM (zrS_cons (zrI_J (zrS_hd hst)) (zrS_tl hst)) hlv hl hP hD hS)
theorem zr_l2i (hX : zOk X G cc own nL ret d) {a : Int} (hd : decode cc pc = .ok (.l2i, 1)) (k : zW X G nL (pc + 1) lv (zI (z32 a) :: st) μ) : zW X G nL pc lv (zJ a :: st) μ := fun H locs ls hM hst hlv hl hP hD hS =>
  lv_l2i hX.1 hX.2.1 hd (by rw [Int64.toInt32_ofInt, z32_of]) (k H locs ls hM (zrS_cons (z32_r _) (zrS_tl hst)) hlv hl hP hD hS)
theorem zr_i2b (hX : zOk X G cc own nL ret d) {a : Int} (hd : decode cc pc = .ok (.i2b, 1)) (k : zW X G nL (pc + 1) lv (zI (zi2b a) :: st) μ) : zW X G nL pc lv (zI a :: st) μ := fun H locs ls hM hst hlv hl hP hD hS =>
  lv_i2b hX.1 hX.2.1 hd (Int32.ofInt_toInt _).symm (k H locs ls hM (zrS_cons (zr_toInt _) (zrS_tl hst)) hlv hl hP hD hS)
/-! stack -/
theorem zr_dup (hX : zOk X G cc own nL ret d) {v : zV} (hd : decode cc pc = .ok (.dup, 1)) (hv : zwide (some v) = false) (k : zW X G nL (pc + 1) lv (v :: v :: st) μ) : zW X G nL pc lv (v :: st) μ := fun H locs ls hM hst hlv hl hP hD hS =>
  lv_dup hX.1 hX.2.1 hd (by rw [zcat, hv]; rfl) (k H locs ls hM (zrS_cons (zrS_hd hst) hst) hlv hl hP hD hS)
theorem zr_dup2 (hX : zOk X G cc own nL ret d) {v u : zV} (hd : decode cc pc = .ok (.dup2, 1)) (hv : zwide (some v) = false) (hu : zwide (some u) = false) (k : zW X G nL (pc + 1) lv (v :: u :: v :: u :: st) μ) : zW X G nL pc lv (v :: u :: st) μ := fun H locs ls hM hst hlv hl hP hD hS =>
  lv_dup2_11 hX.1 hX.2.1 hd (by rw [zcat, hv]; rfl) (by rw [zcat, hu]; rfl) (k H locs ls hM (zrS_cons (zrS_hd hst) (zrS_cons (zrS_hd (zrS_tl hst)) hst)) hlv hl hP hD hS)
theorem zr_pop (hX : zOk X G cc own nL ret d) {v : zV} (hd : decode cc pc = .ok (.pop, 1)) (hv : zwide (some v) = false) (k : zW X G nL (pc + 1) lv st μ) : zW X G nL pc lv (v :: st) μ := fun H locs ls hM hst hlv hl hP hD hS =>
  lv_pop hX.1 hX.2.1 hd (by rw [zcat, hv]; rfl) (k H locs ls hM (zrS_tl hst) hlv hl hP hD hS)
/-! branches -/
theorem zr_goto (hX : zOk X G cc own nL ret d) {off : Int} {tgt : Nat} (hd : decode cc pc = .ok (.goto off, 3)) (ht : (pc : Int) + off = (tgt : Int)) (k : zW X G nL tgt lv st μ) : zW X G nL pc lv st μ := fun H locs ls hM hst hlv hl hP hD hS =>
  lv_goto hX.1 hX.2.1 hd ht (k H locs ls hM hst hlv hl hP hD hS)
section ZBR
variable {τ : Type} {F : τ → Prop} {A B : Option τ} {off : Int} {tgt : Nat} {a b : Int}
theorem zP_t {c : Prop} [Decidable c] {x y : Option τ} (h : zP F (if c then x else y)) (hc : c) : zP F x := by rw [if_pos hc] at h; exact h
theorem zP_f {c : Prop} [Decidable c] {x y : Option τ} (h : zP F (if c then x else y)) (hc : ¬ c) : zP F y := by rw [if_neg hc] at h; exact h
theorem z_zero : zrI 0 := by unfold zrI; omega
theorem zr_ifeq (hX : zOk X G cc own nL ret d) (hd : decode cc pc = .ok (.ifCond .eq off, 3)) (ht : (pc : Int) + off = (tgt : Int)) (h : zP F (if a = 0 then A else B)) (kt : zP F A → zW X G nL tgt lv st μ) (kf : zP F B → zW X G nL (pc + 3) lv st μ) : zW X G nL pc lv (zI a :: st) μ := fun H locs ls hM hst hlv hl hP hD hS =>
  lv_if_eq hX.1 hX.2.1 hd ht (fun c => kt (zP_t h ((z_inj (zrS_hd hst) z_zero).mp c)) H locs ls hM (zrS_tl hst) hlv hl hP hD hS) (fun c => kf (zP_f h (fun q => c ((z_inj (zrS_hd hst) z_zero).mpr q))) H locs ls hM (zrS_tl hst) hlv hl hP hD hS)
theorem zr_ifne (hX : zOk X G cc own nL ret d) (hd : decode cc pc = .ok (.ifCond .ne off, 3)) (ht : (pc : Int) + off = (tgt : Int)) (h : zP F (if a = 0 then B else A)) (kt : zP F A → zW X G nL tgt lv st μ) (kf : zP F B → zW X G nL (pc + 3) lv st μ) : zW X G nL pc lv (zI a :: st) μ := fun H locs ls hM hst hlv hl hP hD hS =>
  lv_if_ne hX.1 hX.2.1 hd ht (fun c => kt (zP_f h (fun q => c ((z_inj (zrS_hd hst) z_zero).mpr q))) H locs ls hM (zrS_tl hst) hlv hl hP hD hS) (fun c => kf (zP_t h ((z_inj (zrS_hd hst) z_zero).mp c)) H locs ls hM (zrS_tl hst) hlv hl hP hD hS)
theorem zr_iflt (hX : zOk X G cc own nL ret d) (hd : decode cc pc = .ok (.ifCond .lt off, 3)) (ht : (pc : Int) + off = (tgt : Int)) (h : zP F (if a < 0 then A else B)) (kt : zP F A → zW X G nL tgt lv st μ) (kf : zP F B → zW X G nL (pc + 3) lv st μ) : zW X G nL pc lv (zI a :: st) μ := fun H locs ls hM hst hlv hl hP hD hS =>
  lv_if_lt hX.1 hX.2.1 hd ht (fun c => kt (zP_t h ((z_lt (zrS_hd hst) z_zero).mp c)) H locs ls hM (zrS_tl hst) hlv hl hP hD hS) (fun c => kf (zP_f h (fun q => c ((z_lt (zrS_hd hst) z_zero).mpr q))) H locs ls hM (zrS_tl hst) hlv hl hP hD hS)
theorem zr_ifge (hX : zOk X G cc own nL ret d) (hd : decode cc pc = .ok (.ifCond .ge off, 3)) (ht : (pc : Int) + off = (tgt : Int)) (h : zP F (if a < 0 then B else A)) (kt : zP F A → zW X G nL tgt lv st μ) (kf : zP F B → zW X G nL (pc + 3) lv st μ) : zW X G nL pc lv (zI a :: st) μ := fun H locs ls hM hst hlv hl hP hD hS =>
  lv_if_ge hX.1 hX.2.1 hd ht (fun c => kt (zP_f h (fun q => by have := (z_le z_zero (zrS_hd hst)).mp c; omega)) H locs ls hM (zrS_tl hst) hlv hl hP hD hS) (fun c => kf (zP_t h (Int.not_le.mp (fun q => c ((z_le z_zero (zrS_hd hst)).mpr q)))) H locs ls hM (zrS_tl hst) hlv hl hP hD hS)
theorem zr_ifgt (hX : zOk X G cc own nL ret d) (hd : decode cc pc = .ok (.ifCond .gt off, 3)) (ht : (pc : Int) + off = (tgt : Int)) (h : zP F (if 0 < a then A else B)) (kt : zP F A → zW X G nL tgt lv st μ) (kf : zP F B → zW X G nL (pc + 3) lv st μ) : zW X G nL pc lv (zI a :: st) μ := fun H locs ls hM hst hlv hl hP hD hS =>
  lv_if_gt hX.1 hX.2.1 hd ht (fun c => kt (zP_t h ((z_lt z_zero (zrS_hd hst)).mp c)) H locs ls hM (zrS_tl hst) hlv hl hP hD hS) (fun c => kf (zP_f h (fun q => c ((z_lt z_zero (zrS_hd hst)).mpr q))) H locs ls hM (zrS_tl hst) hlv hl hP hD hS)
theorem zr_ifle (hX : zOk X G cc own nL ret d) (hd : decode cc pc = .ok (.ifCond .le off, 3)) (ht : (pc : Int) + off = (tgt : Int)) (h : zP F (if 0 < a then B else A)) (kt : zP F A → zW X G nL tgt lv st μ) (kf : zP F B → zW X G nL (pc + 3) lv st μ) : zW X G nL pc lv (zI a :: st) μ := fun H locs ls hM hst hlv hl hP hD hS =>
  lv_if_le hX.1 hX.2.1 hd ht (fun c => kt (zP_f h (fun q => by have := (z_le (zrS_hd hst) z_zero).mp c; omega)) H locs ls hM (zrS_tl hst) hlv hl hP hD hS) (fun c => kf (zP_t h (Int.not_le.mp (fun q => c ((z_le (zrS_hd hst) z_zero).mpr q)))) H locs ls hM (zrS_tl hst) hlv hl hP hD hS)
theorem zr_icmpeq (hX : zOk X G cc own nL ret d) (hd : decode cc pc = .ok (.if_icmp .eq off, 3)) (ht : (pc : Int) + off = (tgt : Int)) (h : zP F (if a = b then A else B)) (kt : zP F A → zW X G nL tgt lv st μ) (kf : zP F B → zW X G nL (pc + 3) lv st μ) : zW X G nL pc lv (zI b :: zI a :: st) μ := fun H locs ls hM hst hlv hl hP hD hS =>
  lv_icmp_eq hX.1 hX.2.1 hd ht (fun c => kt (zP_t h ((z_inj (zrS_hd (zrS_tl hst)) (zrS_hd hst)).mp c)) H locs ls hM (zrS_tl (zrS_tl hst)) hlv hl hP hD hS) (fun c => kf (zP_f h (fun q => c ((z_inj (zrS_hd (zrS_tl hst)) (zrS_hd hst)).mpr q))) H locs ls hM (zrS_tl (zrS_tl hst)) hlv hl hP hD hS)
theorem zr_icmpne (hX : zOk X G cc own nL ret d) (hd : decode cc pc = .ok (.if_icmp .ne off, 3)) (ht : (pc : Int) + off = (tgt : Int)) (h : zP F (if a = b then B else A)) (kt : zP F A → zW X G nL tgt lv st μ) (kf : zP F B → zW X G nL (pc + 3) lv st μ) : zW X G nL pc lv (zI b :: zI a :: st) μ := fun H locs ls hM hst hlv hl hP hD hS =>
  lv_icmp_ne hX.1 hX.2.1 hd ht (fun c => kt (zP_f h (fun q => c ((z_inj (zrS_hd (zrS_tl hst)) (zrS_hd hst)).mpr q))) H locs ls hM (zrS_tl (zrS_tl hst)) hlv hl hP hD hS) (fun c => kf (zP_t h ((z_inj (zrS_hd (zrS_tl hst)) (zrS_hd hst)).mp c)) H locs ls hM (zrS_tl (zrS_tl hst)) hlv hl hP hD hS)
theorem zr_icmplt (hX : zOk X G cc own nL ret d) (hd : decode cc pc = .ok (.if_icmp .lt off, 3)) (ht : (pc : Int) + off = (tgt : Int)) (h : zP F (if a < b then A else B)) (kt : zP F A → zW X G nL tgt lv st μ) (kf : zP F B → zW X G nL (pc + 3) lv st μ) : zW X G nL pc lv (zI b :: zI a :: st) μ := fun H locs ls hM hst hlv hl hP hD hS =>
  lv_icmp_lt hX.1 hX.2.1 hd ht (fun c => kt (zP_t h ((z_lt (zrS_hd (zrS_tl hst)) (zrS_hd hst)).mp c)) H locs ls hM (zrS_tl (zrS_tl hst)) hlv hl hP hD hS) (fun c => kf (zP_f h (fun q => c ((z_lt (zrS_hd (zrS_tl hst)) (zrS_hd hst)).mpr q))) H locs ls hM (zrS_tl (zrS_tl hst)) hlv hl hP hD hS)
theorem zr_icmpge (hX : zOk X G cc own nL ret d) (hd : decode cc pc = .ok (.if_icmp .ge off, 3)) (ht : (pc : Int) + off = (tgt : Int)) (h : zP F (if a < b then B else A)) (kt : zP F A → zW X G nL tgt lv st μ) (kf : zP F B → zW X G nL (pc + 3) lv st μ) : zW X G nL pc lv (zI b :: zI a :: st) μ := fun H locs ls hM hst hlv hl hP hD hS =>
  lv_icmp_ge hX.1 hX.2.1 hd ht (fun c => kt (zP_f h (fun q => by have := (z_le (zrS_hd hst) (zrS_hd (zrS_tl hst))).mp c; omega)) H locs ls hM (zrS_tl (zrS_tl hst)) hlv hl hP hD hS) (fun c => kf (zP_t h (Int.not_le.mp (fun q => c ((z_le (zrS_hd hst) (zrS_hd (zrS_tl hst))).mpr q)))) H locs ls hM (zrS_tl (zrS_tl hst)) hlv hl hP hD hS)
theorem zr_icmpgt (hX : zOk X G cc own nL ret d) (hd : decode cc pc = .ok (.if_icmp .gt off, 3)) (ht : (pc : Int) + off = (tgt : Int)) (h : zP F (if b < a then A else B)) (kt : zP F A → zW X G nL tgt lv st μ) (kf : zP F B → zW X G nL (pc + 3) lv st μ) : zW X G nL pc lv (zI b :: zI a :: st) μ := fun H locs ls hM hst hlv hl hP hD hS =>
  lv_icmp_gt hX.1 hX.2.1 hd ht (fun c => kt (zP_t h ((z_lt (zrS_hd hst) (zrS_hd (zrS_tl hst))).mp c)) H locs ls hM (zrS_tl (zrS_tl hst)) hlv hl hP hD hS) (fun c => kf (zP_f h (fun q => c ((z_lt (zrS_hd hst) (zrS_hd (zrS_tl hst))).mpr q))) H locs ls hM (zrS_tl (zrS_tl hst)) hlv hl hP hD hS)
theorem zr_icmple (hX : zOk X G cc own nL ret d) (hd : decode cc pc = .ok (.if_icmp .le off, 3)) (ht : (pc : Int) + off = (tgt : Int)) (h : zP F (if b < a then B else A)) (kt : zP F A → zW X G nL tgt lv st μ) (kf : zP F B → zW X G nL (pc + 3) lv st μ) : zW X G nL pc lv (zI b :: zI a :: st) μ := fun H locs ls hM hst hlv hl hP hD hS =>
  lv_icmp_le hX.1 hX.2.1 hd ht (fun c => kt (zP_f h (fun q => by have := (z_le (zrS_hd (zrS_tl hst)) (zrS_hd hst)).mp c; omega)) H locs ls hM (zrS_tl (zrS_tl hst)) hlv hl hP hD hS) (fun c => kf (zP_t h (Int.not_le.mp (fun q => c ((z_le (zrS_hd (zrS_tl hst)) (zrS_hd hst)).mpr q)))) H locs ls hM (zrS_tl (zrS_tl hst)) hlv hl hP hD hS)
/-- a switch over lo .. : one number of it -/
theorem zr_tsw (hX : zOk X G cc own nL ret d) {dflt lo hi : Int} {offs : Array Int} {len : Nat} {o2 : Int} {t2 : Nat} (j : Int) (hd : decode cc pc = .ok (.tableswitch dflt lo hi offs, len)) (hj : lo ≤ j ∧ j ≤ hi) (hrj : zrI j) (ho : offs[(j - lo).toNat]? = some o2) (ht : (pc : Int) + o2 = (t2 : Int)) (h : zP F (if a = j then A else B)) (kt : zP F A → zW X G nL t2 lv st μ) (kf : ¬ a = j → zP F B → zW X G nL pc lv (zI a :: st) μ) : zW X G nL pc lv (zI a :: st) μ := by
  by_cases hc : a = j
  · rw [if_pos hc] at h
    subst hc
    intro H locs ls hM hst hlv hl hP hD hS
    exact lv_tableIn hX.1 hX.2.1 hd (by rw [zrI_to hrj]; omega) (by rw [zrI_to hrj]; omega) (by rw [zrI_to hrj]; exact ho) ht (kt h H locs ls hM (zrS_tl hst) hlv hl hP hD hS)
  · rw [if_neg hc] at h
    exact kf hc h
theorem zr_tswd (hX : zOk X G cc own nL ret d) {dflt lo hi : Int} {offs : Array Int} {len : Nat} (hd : decode cc pc = .ok (.tableswitch dflt lo hi offs, len)) (hc : a < lo ∨ hi < a) (ht : (pc : Int) + dflt = (tgt : Int)) (k : zW X G nL tgt lv st μ) : zW X G nL pc lv (zI a :: st) μ := fun H locs ls hM hst hlv hl hP hD hS =>
  lv_tableOut hX.1 hX.2.1 hd (by rw [zrI_to (show zrI a from zrS_hd hst)]; exact hc) ht (k H locs ls hM (zrS_tl hst) hlv hl hP hD hS)
/-- the reference that may be null -/
theorem zr_ifnonnull (hX : zOk X G cc own nL ret d) {q : Option Nat} {C : Nat → Option τ} (hd : decode cc pc = .ok (.ifnonnull off, 3)) (ht : (pc : Int) + off = (tgt : Int)) (h : zP F (match q with | none => B | some o => C o)) (kt : ∀ o, q = some o → zP F (C o) → zW X G nL tgt lv st μ) (kf : q = none → zP F B → zW X G nL (pc + 3) lv st μ) : zW X G nL pc lv (zN q :: st) μ := fun H locs ls hM hst hlv hl hP hD hS => by
  cases q with
  | none => exact lv_ifnonnullN hX.1 hX.2.1 hd (kf rfl h H locs ls hM (zrS_tl hst) hlv hl hP hD hS)
  | some o => exact lv_ifnonnull hX.1 hX.2.1 hd ht (kt o rfl h H locs ls hM (zrS_tl hst) hlv hl hP hD hS)
theorem zr_null (hX : zOk X G cc own nL ret d) (hd : decode cc pc = .ok (.aconst_null, 1)) (k : zW X G nL (pc + 1) lv (zN none :: st) μ) : zW X G nL pc lv st μ := fun H locs ls hM hst hlv hl hP hD hS =>
  lv_null hX.1 hX.2.1 hd (k H locs ls hM (zrS_cons trivial hst) hlv hl hP hD hS)
/-- one that isn't null, told either way -/
theorem zW_RN {o : Nat} (k : zW X G nL pc lv (zN (some o) :: st) μ) : zW X G nL pc lv (zR o :: st) μ := fun H locs ls hM hst hlv hl hP hD hS =>
  k H locs ls hM (zrS_cons trivial (zrS_tl hst)) hlv hl hP hD hS
theorem zW_NR {o : Nat} (k : zW X G nL pc lv (zR o :: st) μ) : zW X G nL pc lv (zN (some o) :: st) μ := fun H locs ls hM hst hlv hl hP hD hS =>
  k H locs ls hM (zrS_cons trivial (zrS_tl hst)) hlv hl hP hD hS
end ZBR
end ZR2
end
section
section ZR3
variable {X : zX} {G : zG} {cc : ByteArray} {own : String} {nL d pc : Nat} {ret : Option FieldType} {lv : List (Option zV)} {st : List zV} {μ : zM}
/-! fields and arrays -/
theorem zcl_in {ci : Nat} {q : vw_C} (h : zcl[ci]? = some q) : ∀ w ∈ u_ws q.1 q.2.1 q.2.2, w ∈ zBIG := by
  match ci, h with
  | 0, h => cases h; exact zin0
  | 1, h => cases h; exact zin1
  | 2, h => cases h; exact zin2
  | 3, h => cases h; exact zin3
  | 4, h => cases h; exact zin4
  | 5, h => cases h; exact zin5
  | 6, h => cases h; exact zin6
  | n + 7, h => simp [zcl] at h
def zcT (ci k : Nat) : String × String × String × Bool := match zcl[ci]? with
  | some q => q.2.1 k
  | none => ("", "", "", false)
def zcC (ci : Nat) : String := match zcl[ci]? with
  | some q => q.1
  | none => ""
theorem zcl_ok {ci : Nat} {q : vw_C} (h : zcl[ci]? = some q) : (∃ ty0 : Nat → FieldType, ∀ k, k < q.2.2 → parseFieldDescriptor (q.2.1 k).2.2.1 = some (ty0 k)) ∧ (∀ a, a < q.2.2 → ∀ b, b < q.2.2 → a ≠ b → (q.2.1 a).2.1 ≠ (q.2.1 b).2.1) ∧ q.2.2 = (zFK ci).length ∧ (∀ k, k < q.2.2 → (q.2.1 k).1 = q.1) := by
  match ci, h with
  | 0, h => cases h; exact ⟨⟨_, tyX0_ok⟩, nmX0, rfl, by decide +kernel⟩
  | 1, h => cases h; exact ⟨⟨_, tyX1_ok⟩, nmX1, rfl, by decide +kernel⟩
  | 2, h => cases h; exact ⟨⟨_, tyX2_ok⟩, nmX2, rfl, by decide +kernel⟩
  | 3, h => cases h; exact ⟨⟨_, tyX3_ok⟩, nmX3, rfl, by decide +kernel⟩
  | 4, h => cases h; exact ⟨⟨_, tyX4_ok⟩, nmX4, rfl, by decide +kernel⟩
  | 5, h => cases h; exact ⟨⟨_, tyX5_ok⟩, nmX5, rfl, by decide +kernel⟩
  | 6, h => cases h; exact ⟨⟨_, tyX6_ok⟩, nmX6, rfl, by decide +kernel⟩
  | n + 7, h => simp [zcl] at h
/-- the word that links a field -/
abbrev zfl (own : String) (i ci k : Nat) : Cond := .fieldLink own i (zcC ci) (zcT ci k).2.1 (zcT ci k).2.2.1
theorem zcl_lt {ci : Nat} (h : ci < 7) : ∃ q, zcl[ci]? = some q := ⟨_, List.getElem?_eq_getElem h⟩
theorem zfk_lt {ci k : Nat} {t : Nat × Nat} (h : (zFK ci)[k]? = some t) : ci < 7 := by
  rcases Nat.lt_or_ge ci 7 with q | q
  · exact q
  · obtain ⟨n, rfl⟩ : ∃ n, ci = n + 7 := ⟨ci - 7, by omega⟩
    simp [zFK] at h
theorem zr_get {o i ci k : Nat} {t : Nat × Nat} (hX : zOk X G cc own nL ret d) (hd : decode cc pc = .ok (.getfield i, 3)) (hs : zsh o = (0, ci)) (ht : (zFK ci)[k]? = some t) (hw : zfl own i ci k ∈ zBIG) {v : zV} (hv : zcv G v = zfv G μ o k t) (hr : zrM μ → zrV v) (kk : zW X G nL (pc + 3) lv (v :: st) μ) : zW X G nL pc lv (zR o :: st) μ := fun H locs ls hM hst hlv hl hP hD hS => by
  obtain ⟨⟨C, T, N⟩, hc⟩ := zcl_lt (zfk_lt ht)
  obtain ⟨-, -, hN, hC⟩ := zcl_ok hc
  have hk : k < N := by rw [show N = (zFK ci).length from hN]; exact (List.getElem?_eq_some_iff.mp ht).1
  have e1 : zcT ci k = T k := by unfold zcT; rw [hc]
  have e2 : zcC ci = C := by unfold zcC; rw [hc]
  have hw2 := hX.2.2.2.2.1 _ hw
  unfold zfl at hw2
  rw [e1, e2] at hw2
  refine va_get hX.1 hX.2.1 hX.2.2.2.2.1 (zcl_in hc) hX.2.2.2.1 hX.2.2.2.2.2.2.2.1 hP o (by rw [zws_get G μ (zsh_lt hs (by omega)), zce_obj hs]) hc k hk hw2 (fun x hx => by have e0 : (T k).1 = C := hC k hk; rw [← e0]; exact hx) (zfs_get ht) hd ?_
  rw [← hv]
  exact kk H locs ls hM (zrS_cons (hr hM) (zrS_tl hst)) hlv hl hP hD hS
/-- by a link between nest mates -/
theorem zr_getN {o i ci k : Nat} {t : Nat × Nat} (hX : zOk X G cc own nL ret d) (hd : decode cc pc = .ok (.getfield i, 3)) (hs : zsh o = (0, ci)) (ht : (zFK ci)[k]? = some t) (hw : (own, i, zcC ci, (zcT ci k).2.1, (zcT ci k).2.2.1, "RoofLent") ∈ zNF) {v : zV} (hv : zcv G v = zfv G μ o k t) (hr : zrM μ → zrV v) (kk : zW X G nL (pc + 3) lv (v :: st) μ) : zW X G nL pc lv (zR o :: st) μ := fun H locs ls hM hst hlv hl hP hD hS => by
  obtain ⟨⟨C, T, N⟩, hc⟩ := zcl_lt (zfk_lt ht)
  obtain ⟨-, -, hN, hC⟩ := zcl_ok hc
  have hk : k < N := by rw [show N = (zFK ci).length from hN]; exact (List.getElem?_eq_some_iff.mp ht).1
  have e1 : zcT ci k = T k := by unfold zcT; rw [hc]
  have e2 : zcC ci = C := by unfold zcC; rw [hc]
  have hw2 := hX.2.2.2.2.2.2.2.2.1.2.1 _ hw
  dsimp only at hw2
  rw [e1, e2] at hw2
  refine va_getN hX.1 hX.2.1 hX.2.2.2.2.1 (zcl_in hc) hX.2.2.2.1 hX.2.2.2.2.2.2.2.1 hP o (by rw [zws_get G μ (zsh_lt hs (by omega)), zce_obj hs]) hc k hk (va_Nw.use rfl hw2) (fun x hx => by have e0 : (T k).1 = C := hC k hk; rw [← e0]; exact hx) (zfs_get ht) hd ?_
  rw [← hv]
  exact kk H locs ls hM (zrS_cons (hr hM) (zrS_tl hst)) hlv hl hP hD hS
theorem zr_getiN {o i ci k f : Nat} (hX : zOk X G cc own nL ret d) (hd : decode cc pc = .ok (.getfield i, 3)) (hs : zsh o = (0, ci)) (ht : (zFK ci)[k]? = some (0, f)) (hw : (own, i, zcC ci, (zcT ci k).2.1, (zcT ci k).2.2.1, "RoofLent") ∈ zNF) (kk : zW X G nL (pc + 3) lv (zI (μ o k) :: st) μ) : zW X G nL pc lv (zR o :: st) μ :=
  zr_getN (v := zI (μ o k)) hX hd hs ht hw rfl (fun hM => zrM_i hM (zlg_of hs ht)) kk
theorem zr_getrN {o i ci k f q : Nat} (hX : zOk X G cc own nL ret d) (hd : decode cc pc = .ok (.getfield i, 3)) (hs : zsh o = (0, ci)) (ht : (zFK ci)[k]? = some (2, f)) (hw : (own, i, zcC ci, (zcT ci k).2.1, (zcT ci k).2.2.1, "RoofLent") ∈ zNF) (hq : o + f = q) (kk : zW X G nL (pc + 3) lv (zR q :: st) μ) : zW X G nL pc lv (zR o :: st) μ := by
  subst hq
  exact zr_getN (v := zR (o + f)) hX hd hs ht hw rfl (fun _ => trivial) kk
theorem zr_geti {o i ci k f : Nat} (hX : zOk X G cc own nL ret d) (hd : decode cc pc = .ok (.getfield i, 3)) (hs : zsh o = (0, ci)) (ht : (zFK ci)[k]? = some (0, f)) (hw : zfl own i ci k ∈ zBIG) (kk : zW X G nL (pc + 3) lv (zI (μ o k) :: st) μ) : zW X G nL pc lv (zR o :: st) μ :=
  zr_get (v := zI (μ o k)) hX hd hs ht hw rfl (fun hM => zrM_i hM (zlg_of hs ht)) kk
theorem zr_getj {o i ci k f : Nat} (hX : zOk X G cc own nL ret d) (hd : decode cc pc = .ok (.getfield i, 3)) (hs : zsh o = (0, ci)) (ht : (zFK ci)[k]? = some (1, f)) (hw : zfl own i ci k ∈ zBIG) (kk : zW X G nL (pc + 3) lv (zJ (μ o k) :: st) μ) : zW X G nL pc lv (zR o :: st) μ :=
  zr_get (v := zJ (μ o k)) hX hd hs ht hw rfl (fun hM => (hM o k).1) kk
theorem zr_getr {o i ci k f q : Nat} (hX : zOk X G cc own nL ret d) (hd : decode cc pc = .ok (.getfield i, 3)) (hs : zsh o = (0, ci)) (ht : (zFK ci)[k]? = some (2, f)) (hw : zfl own i ci k ∈ zBIG) (hq : o + f = q) (kk : zW X G nL (pc + 3) lv (zR q :: st) μ) : zW X G nL pc lv (zR o :: st) μ := by
  subst hq
  exact zr_get (v := zR (o + f)) hX hd hs ht hw rfl (fun _ => trivial) kk
theorem zr_put {o i ci k : Nat} {t : Nat × Nat} {z : Int} {v : zV} {ty : FieldType} (hX : zOk X G cc own nL ret d) (hd : decode cc pc = .ok (.putfield i, 3)) (hs : zsh o = (0, ci)) (ht : (zFK ci)[k]? = some t) (hw : zfl own i ci k ∈ zBIG) (hfin : (zcT ci k).2.2.2 = false) (hty : parseFieldDescriptor (zcT ci k).2.2.1 = some ty) (hn : narrow ty (zcv G v) = zcv G v) (hfit : fits ty (zcv G v) = true) (hv : zfv G (zst μ o k z) o k t = zcv G v) (hr : zrV v → zrJ z ∧ (zlg o k = false → zrI z)) (kk : zW X G nL (pc + 3) lv st (zst μ o k z)) : zW X G nL pc lv (v :: zR o :: st) μ := fun H locs ls hM hst hlv hl hP hD hS => by
  obtain ⟨⟨C, T, N⟩, hc⟩ := zcl_lt (zfk_lt ht)
  obtain ⟨⟨ty0, hty0⟩, hnm, hN, hC⟩ := zcl_ok hc
  have hk : k < N := by rw [show N = (zFK ci).length from hN]; exact (List.getElem?_eq_some_iff.mp ht).1
  have e1 : zcT ci k = T k := by unfold zcT; rw [hc]
  have e2 : zcC ci = C := by unfold zcC; rw [hc]
  have hw2 := hX.2.2.2.2.1 _ hw
  unfold zfl at hw2
  rw [e1, e2] at hw2
  rw [e1] at hfin hty
  have ho := zsh_lt hs (show 0 < 9 by omega)
  have hrz := hr (zrS_hd hst)
  refine va_put hX.1 hX.2.1 hX.2.2.2.2.1 (zcl_in hc) ty0 hty0 hnm hX.2.2.2.1 hX.2.2.2.2.2.2.2.1 hP hD hS o (by rw [zws_get G μ ho, zce_obj hs]) hc k hk hw2 (fun x hx => by have e0 : (T k).1 = C := hC k hk; rw [← e0]; exact hx) hfin hty hn hfit (by simpa using (List.getElem?_eq_some_iff.mp ht).1) hd (fun H1 locs1 hP1 hD1 hS1 => ?_)
  have e3 : (zws G μ).set o (zgR G o, .inr (ci, ((zFK ci).mapIdx (fun k t => zfv G μ o k t)).set k (zcv G v))) = zws G (zst μ o k z) := zws_set ho (by rw [zce_obj hs, zfs_set ht hv]) zst_ne
  rw [e3] at hP1 hD1
  exact kk H1 locs1 ls (zrM_st hM hrz.1 hrz.2) (zrS_tl (zrS_tl hst)) hlv hl hP1 hD1 hS1
theorem zr_puti {o i ci k f : Nat} {z : Int} (hX : zOk X G cc own nL ret d) (hd : decode cc pc = .ok (.putfield i, 3)) (hs : zsh o = (0, ci)) (ht : (zFK ci)[k]? = some (0, f)) (hw : zfl own i ci k ∈ zBIG) (hfin : (zcT ci k).2.2.2 = false) (hty : parseFieldDescriptor (zcT ci k).2.2.1 = some .int) (kk : zW X G nL (pc + 3) lv st (zst μ o k z)) : zW X G nL pc lv (zI z :: zR o :: st) μ :=
  zr_put hX hd hs ht hw hfin hty rfl rfl (by show Value.int (Int32.ofInt (zst μ o k z o k)) = _; unfold zst; rw [if_pos ⟨rfl, rfl⟩]; rfl) (fun h => ⟨zrI_J h, fun _ => h⟩) kk
theorem zr_putj {o i ci k f : Nat} {z : Int} (hX : zOk X G cc own nL ret d) (hd : decode cc pc = .ok (.putfield i, 3)) (hs : zsh o = (0, ci)) (ht : (zFK ci)[k]? = some (1, f)) (hw : zfl own i ci k ∈ zBIG) (hfin : (zcT ci k).2.2.2 = false) (hty : parseFieldDescriptor (zcT ci k).2.2.1 = some .long) (kk : zW X G nL (pc + 3) lv st (zst μ o k z)) : zW X G nL pc lv (zJ z :: zR o :: st) μ :=
  zr_put hX hd hs ht hw hfin hty rfl rfl (by show Value.long (Int64.ofInt (zst μ o k z o k)) = _; unfold zst; rw [if_pos ⟨rfl, rfl⟩]; rfl) (fun h => ⟨h, fun q => by rw [zlg_of hs ht] at q; cases q⟩) kk
section ZAR
variable {τ : Type} {F : τ → Prop} {B : Option τ} {i N x : Int} {o n : Nat}
theorem z_in (hi : zrI i) (h1 : 0 ≤ i) (h2 : i < (n : Int)) : vp_in (Int32.ofInt i) n := by
  unfold vp_in
  rw [z_nat hi, show (0 : Int32) = Int32.ofInt 0 from rfl, z_lt hi z_zero]
  omega
theorem zr_iald (hX : zOk X G cc own nL ret d) (hd : decode cc pc = .ok (.iaload, 1)) (hs : zsh o = (1, n)) (hN : (n : Int) = N) (h : zP F (if 0 ≤ i ∧ i < N then B else none)) (k : zP F B → zW X G nL (pc + 1) lv (zI (μ o i.toNat) :: st) μ) : zW X G nL pc lv (zI i :: zR o :: st) μ := zP_if h fun hc h H locs ls hM hst hlv hl hP hD hS => by
  have hi : zrI i := zrS_hd hst
  refine va_iald hX.1 hX.2.1 hX.2.2.2.2.2.2.2.1 hP o 0 (n := n) (f := fun k => Int32.ofInt (μ o k)) (by rw [zws_get G μ (zsh_lt hs (by omega)), zce_int hs]) rfl (z_in hi hc.1 (by omega)) hd ?_
  rw [z_nat hi]
  exact k h H locs ls hM (zrS_cons (zrM_i hM (zlg_arr hs (by omega) _)) (zrS_tl (zrS_tl hst))) hlv hl hP hD hS
theorem zr_bald (hX : zOk X G cc own nL ret d) (hd : decode cc pc = .ok (.baload, 1)) (hs : zsh o = (2, n)) (hN : (n : Int) = N) (h : zP F (if 0 ≤ i ∧ i < N then B else none)) (k : zP F B → zW X G nL (pc + 1) lv (zI (μ o i.toNat) :: st) μ) : zW X G nL pc lv (zI i :: zR o :: st) μ := zP_if h fun hc h H locs ls hM hst hlv hl hP hD hS => by
  have hi : zrI i := zrS_hd hst
  refine va_zald hX.1 hX.2.1 hX.2.2.2.2.2.2.2.1 hP o 1 (n := n) (f := fun k => Int32.ofInt (μ o k)) (by rw [zws_get G μ (zsh_lt hs (by omega)), zce_bool hs]) rfl (z_in hi hc.1 (by omega)) hd ?_
  rw [z_nat hi]
  exact k h H locs ls hM (zrS_cons (zrM_i hM (zlg_arr hs (by omega) _)) (zrS_tl (zrS_tl hst))) hlv hl hP hD hS
theorem zr_aald (hX : zOk X G cc own nL ret d) (hd : decode cc pc = .ok (.aaload, 1)) (hs : zsh o = (3, n)) (hN : (n : Int) = N) (h : zP F (if 0 ≤ i ∧ i < N then B else none)) (k : zP F B → zW X G nL (pc + 1) lv (zR (27 + 5 * i.toNat) :: st) μ) : zW X G nL pc lv (zI i :: zR o :: st) μ := zP_if h fun hc h H locs ls hM hst hlv hl hP hD hS => by
  have hi : zrI i := zrS_hd hst
  refine va_aldq hX.1 hX.2.1 hX.2.2.2.2.2.2.2.1 hP o 2 (n := n) (f := fun k => some (zgR G (27 + 5 * k))) (by rw [zws_get G μ (zsh_lt hs (by omega)), zce_ref hs]) rfl (z_in hi hc.1 (by omega)) hd ?_
  rw [z_nat hi]
  exact k h H locs ls hM (zrS_cons trivial (zrS_tl (zrS_tl hst))) hlv hl hP hD hS
theorem zr_iast (hX : zOk X G cc own nL ret d) (hd : decode cc pc = .ok (.iastore, 1)) (hs : zsh o = (1, n)) (hN : (n : Int) = N) (h : zP F (if 0 ≤ i ∧ i < N then B else none)) (k : zP F B → zW X G nL (pc + 1) lv st (zst μ o i.toNat x)) : zW X G nL pc lv (zI x :: zI i :: zR o :: st) μ := zP_if h fun hc h H locs ls hM hst hlv hl hP hD hS => by
  have hi : zrI i := zrS_hd (zrS_tl hst)
  have hx : zrI x := zrS_hd hst
  refine va_iast hX.1 hX.2.1 hX.2.2.2.2.2.2.2.1 hP hD hS o 0 (n := n) (f := fun k => Int32.ofInt (μ o k)) (by rw [zws_get G μ (zsh_lt hs (by omega)), zce_int hs]) rfl (z_in hi hc.1 (by omega)) hd (fun H1 locs1 hP1 hD1 hS1 => ?_)
  rw [z_nat hi, zws_set (ν := zst μ o i.toNat x) (zsh_lt hs (by omega)) (zce_st hs) zst_ne] at hP1 hD1
  exact k h H1 locs1 ls (zrM_st hM (zrI_J hx) (fun _ => hx)) (zrS_tl (zrS_tl (zrS_tl hst))) hlv hl hP1 hD1 hS1
theorem zr_bast (hX : zOk X G cc own nL ret d) (hd : decode cc pc = .ok (.bastore, 1)) (hs : zsh o = (2, n)) (hN : (n : Int) = N) (h : zP F (if (0 ≤ i ∧ i < N) ∧ (x = 0 ∨ x = 1) then B else none)) (k : zP F B → zW X G nL (pc + 1) lv st (zst μ o i.toNat x)) : zW X G nL pc lv (zI x :: zI i :: zR o :: st) μ := zP_if h fun hc h H locs ls hM hst hlv hl hP hD hS => by
  have hi : zrI i := zrS_hd (zrS_tl hst)
  have hx : zrI x := zrS_hd hst
  have e : vp_nar .boolean (Int32.ofInt x) = Int32.ofInt x := by rcases hc.2 with rfl | rfl <;> rfl
  refine va_zast hX.1 hX.2.1 hX.2.2.2.2.2.2.2.1 hP hD hS o 1 (n := n) (f := fun k => Int32.ofInt (μ o k)) (by rw [zws_get G μ (zsh_lt hs (by omega)), zce_bool hs]) rfl (z_in hi hc.1.1 (by omega)) hd (fun H1 locs1 hP1 hD1 hS1 => ?_)
  rw [e, z_nat hi, zws_set (ν := zst μ o i.toNat x) (zsh_lt hs (by omega)) (zce_stb hs) zst_ne] at hP1 hD1
  exact k h H1 locs1 ls (zrM_st hM (zrI_J hx) (fun _ => hx)) (zrS_tl (zrS_tl (zrS_tl hst))) hlv hl hP1 hD1 hS1
theorem zr_ialdc (hX : zOk X G cc own nL ret d) (hd : decode cc pc = .ok (.iaload, 1)) (hs : zsh o = (1, n)) (hN : (n : Int) = N) (hc : (decide (0 ≤ i) && decide (i < N)) = true) (k : zW X G nL (pc + 1) lv (zI (μ o i.toNat) :: st) μ) : zW X G nL pc lv (zI i :: zR o :: st) μ := zr_iald (F := fun _ : Unit => True) (B := some ()) hX hd hs hN (by simp only [Bool.and_eq_true, decide_eq_true_eq] at hc; rw [if_pos hc]; trivial) (fun _ => k)
theorem zr_iastc (hX : zOk X G cc own nL ret d) (hd : decode cc pc = .ok (.iastore, 1)) (hs : zsh o = (1, n)) (hN : (n : Int) = N) (hc : (decide (0 ≤ i) && decide (i < N)) = true) (k : zW X G nL (pc + 1) lv st (zst μ o i.toNat x)) : zW X G nL pc lv (zI x :: zI i :: zR o :: st) μ := zr_iast (F := fun _ : Unit => True) (B := some ()) hX hd hs hN (by simp only [Bool.and_eq_true, decide_eq_true_eq] at hc; rw [if_pos hc]; trivial) (fun _ => k)
theorem zr_bastc (hX : zOk X G cc own nL ret d) (hd : decode cc pc = .ok (.bastore, 1)) (hs : zsh o = (2, n)) (hN : (n : Int) = N) (hc : (decide (0 ≤ i) && decide (i < N)) = true) (hx : x = 0 ∨ x = 1) (k : zW X G nL (pc + 1) lv st (zst μ o i.toNat x)) : zW X G nL pc lv (zI x :: zI i :: zR o :: st) μ := zr_bast (F := fun _ : Unit => True) (B := some ()) hX hd hs hN (by simp only [Bool.and_eq_true, decide_eq_true_eq] at hc; rw [if_pos ⟨hc, hx⟩]; trivial) (fun _ => k)
theorem zr_alen (hX : zOk X G cc own nL ret d) (hd : decode cc pc = .ok (.arraylength, 1)) (hs : zsh o = (1, n)) (hN : (n : Int) = N) (hr : zrI N) (k : zW X G nL (pc + 1) lv (zI N :: st) μ) : zW X G nL pc lv (zR o :: st) μ := fun H locs ls hM hst hlv hl hP hD hS =>
  va_alen hX.1 hX.2.1 hX.2.2.2.2.2.2.2.1 hP o 0 (by rw [zws_get G μ (zsh_lt hs (by omega)), zce_int hs]) rfl (by rw [z_ofNat, hN]) hd (k H locs ls hM (zrS_cons hr (zrS_tl hst)) hlv hl hP hD hS)
theorem zr_alenr (hX : zOk X G cc own nL ret d) (hd : decode cc pc = .ok (.arraylength, 1)) (hs : zsh o = (3, n)) (hN : (n : Int) = N) (hr : zrI N) (k : zW X G nL (pc + 1) lv (zI N :: st) μ) : zW X G nL pc lv (zR o :: st) μ := fun H locs ls hM hst hlv hl hP hD hS =>
  va_alen hX.1 hX.2.1 hX.2.2.2.2.2.2.2.1 hP o 2 (by rw [zws_get G μ (zsh_lt hs (by omega)), zce_ref hs]) rfl (by rw [z_ofNat, hN]) hd (k H locs ls hM (zrS_cons hr (zrS_tl hst)) hlv hl hP hD hS)
/-! rows of constants -/
theorem zr_gets {j ix : Nat} (hX : zOk X G cc own nL ret d) (hd : decode cc pc = .ok (.getstatic ix, 3)) (hj : j < 4) (hw : Cond.fieldLink own ix "RoofLent" (zSN j) "[I" ∈ zBIG) (k : zW X G nL (pc + 3) lv (zR (60 + j) :: st) μ) : zW X G nL pc lv st μ := fun H locs ls hM hst hlv hl hP hD hS =>
  va_gets hX.1 hX.2.1 (hX.2.2.2.2.2.2.2.2.1.1 j hj).1 hS hX.2.2.2.1 (hX.2.2.2.2.1 _ hw) (fun _ h => h) hd (k H locs ls hM (zrS_cons trivial hst) hlv hl hP hD hS)
theorem zr_getsN {j ix : Nat} (hX : zOk X G cc own nL ret d) (hd : decode cc pc = .ok (.getstatic ix, 3)) (hj : j < 4) (hw : (own, ix, "RoofLent", zSN j, "[I", "RoofLent") ∈ zNF) (k : zW X G nL (pc + 3) lv (zR (60 + j) :: st) μ) : zW X G nL pc lv st μ := fun H locs ls hM hst hlv hl hP hD hS =>
  va_getsN hX.1 hX.2.1 (hX.2.2.2.2.2.2.2.2.1.1 j hj).1 hS hX.2.2.2.1 (va_Nw.use rfl (hX.2.2.2.2.2.2.2.2.1.2.1 _ hw)) (fun _ h => h) hd (k H locs ls hM (zrS_cons trivial hst) hlv hl hP hD hS)
theorem zSV_r (j k : Nat) : zrI ((zSV j).getD k 0) := by
  unfold zSV zrI
  split <;> (rcases k with _ | _ | _ | _ | _ | _ | k <;> simp)
theorem zr_sald {j : Nat} (hX : zOk X G cc own nL ret d) (hd : decode cc pc = .ok (.iaload, 1)) (hj : j < 4) (hN : ((zSV j).length : Int) = N) (h : zP F (if 0 ≤ i ∧ i < N then B else none)) (k : zP F B → zW X G nL (pc + 1) lv (zI ((zSV j).getD i.toNat 0) :: st) μ) : zW X G nL pc lv (zI i :: zR (60 + j) :: st) μ := zP_if h fun hc h H locs ls hM hst hlv hl hP hD hS =>
  va_ti hX.1 hX.2.1 (hX.2.2.2.2.2.2.2.2.1.1 j hj).2 hS (z_in (zrS_hd hst) hc.1 (by omega)) (by rw [z_nat (zrS_hd hst)]; rfl) hd (k h H locs ls hM (zrS_cons (zSV_r _ _) (zrS_tl (zrS_tl hst))) hlv hl hP hD hS)
theorem zr_slen {j : Nat} (hX : zOk X G cc own nL ret d) (hd : decode cc pc = .ok (.arraylength, 1)) (hj : j < 4) (hN : ((zSV j).length : Int) = N) (hr : zrI N) (k : zW X G nL (pc + 1) lv (zI N :: st) μ) : zW X G nL pc lv (zR (60 + j) :: st) μ := fun H locs ls hM hst hlv hl hP hD hS =>
  va_tlen hX.1 hX.2.1 (hX.2.2.2.2.2.2.2.2.1.1 j hj).2 hS (by rw [z_ofNat, hN]) hd (k H locs ls hM (zrS_cons hr (zrS_tl hst)) hlv hl hP hD hS)
end ZAR
/-! the JDK's own: copying, the greater, the lesser -/
theorem zcat_sum (G : zG) : ∀ st : List zV, ((st.map (zcv G)).map fun v => v.category).sum ≤ 2 * st.length
  | [] => Nat.le_refl _
  | v :: t => by
    have h := zcat_sum G t
    have h2 : (zcv G v).category ≤ 2 := by rw [zcat]; split <;> omega
    simp only [List.map_cons, List.sum_cons, List.length_cons]
    omega
theorem zce_cp {G : zG} {μ : zM} {a b i j k n : Nat} (h : zsh b = (1, n)) : zce G (zcp μ a i b j k) b = .inl (zgI G, n, .inl (va_cpy (fun q => Int32.ofInt (μ a q)) (fun q => Int32.ofInt (μ b q)) i j k)) := by
  rw [zce_int h]
  congr 4
  funext q
  unfold zcp va_cpy
  by_cases hq : j ≤ q ∧ q < j + k
  · rw [if_pos ⟨rfl, hq.1, hq.2⟩, if_pos hq]
  · rw [if_neg (fun z => hq ⟨z.2.1, z.2.2⟩), if_neg hq]
theorem zcp_ne {μ : zM} {a i b j n : Nat} : ∀ q, q ≠ b → zcp μ a i b j n q = μ q := by
  intro q hq
  funext k
  unfold zcp
  rw [if_neg (fun h => hq h.1)]
theorem zr_copy {τ : Type} {F : τ → Prop} {B : Option τ} {a b na nb ix : Nat} {i j n Na Nb : Int} (hX : zOk X G cc own nL ret d) (hd : decode cc pc = .ok (.invokestatic ix, 3)) (hw : [Cond.methodLink own ix arraycopyName, Cond.native arraycopyName, Cond.static arraycopyName, Cond.initialized "java/lang/System"].all (fun w => decide (w ∈ lw_tbl) && goodWord w) = true) (ha : zsh a = (1, na)) (hb : zsh b = (1, nb)) (hna : (na : Int) = Na) (hnb : (nb : Int) = Nb) (hdd : 1 ≤ d) (hl0 : st.length ≤ 4)
    (h : zP F (if 0 ≤ i ∧ 0 ≤ j ∧ 0 ≤ n ∧ i + n ≤ Na ∧ j + n ≤ Nb then B else none)) (k : zP F B → zW X G nL (pc + 3) lv st (zcp μ a i.toNat b j.toNat n.toNat)) : zW X G nL pc lv (zI n :: zI j :: zR b :: zI i :: zR a :: st) μ := zP_if h fun hc h H locs ls hM hst hlv hl hP hD hS => by
  have hn : zrI n := zrS_hd hst
  have hj : zrI j := zrS_hd (zrS_tl hst)
  have hi : zrI i := zrS_hd (zrS_tl (zrS_tl (zrS_tl hst)))
  obtain ⟨c1, c2, c3, c4, c5⟩ := hc
  have nn : ∀ {z : Int}, zrI z → 0 ≤ z → ¬ Int32.ofInt z < 0 := fun hz h0 q => by
    have := (z_lt hz z_zero).mp q
    omega
  have hws := zbig_sub hw
  have hroom := hX.2.2.2.2.2.2.2.2.2.1
  refine va_copyi hX.1 hX.2.1 (by rw [hX.2.2.1]; exact hl.1.symm) hX.2.2.2.1 (hX.2.2.2.2.1 _ (hws _ (by simp))) (hX.2.2.2.2.1 _ (hws _ (by simp))) (hX.2.2.2.2.1 _ (hws _ (by simp))) (hX.2.2.2.2.1 _ (hws _ (by simp))) hX.2.2.2.2.2.2.2.1 hP hD hS a b 0 0
    (by rw [zws_get G μ (zsh_lt ha (by omega)), zce_int ha]) (by rw [zws_get G μ (zsh_lt hb (by omega)), zce_int hb]) (ty := .int) rfl rfl rfl (nn hi c1) (nn hj c2) (nn hn c3) (by rw [z_nat hi, z_nat hn]; omega) (by rw [z_nat hj, z_nat hn]; omega) (fun _ _ => rfl) (by have := hroom.1; omega) ?_ hd (fun H1 locs1 hP1 hD1 hS1 => ?_)
  · have h1 := zcat_sum G st
    have h2 : nativeFrameWords "java/lang/System" "arraycopy" 5 + 11 ≤ 56 := by decide +kernel
    have h3 := hroom.2
    omega
  · rw [z_nat hi, z_nat hj, z_nat hn, zws_set (ν := zcp μ a i.toNat b j.toNat n.toNat) (zsh_lt hb (by omega)) (zce_cp hb) zcp_ne] at hP1 hD1
    exact k h H1 locs1 ls (zrM_cp hM (fun q => zlg_arr ha (by omega) q)) (zrS_tl (zrS_tl (zrS_tl (zrS_tl (zrS_tl hst))))) hlv hl hP1 hD1 hS1
theorem zr_max {ix : Nat} {a b : Int} (hX : zOk X G cc own nL ret d) (hd : decode cc pc = .ok (.invokestatic ix, 3)) (hw : [Cond.methodLink own ix Lib.Math.max.name, Cond.static Lib.Math.max.name, Cond.initialized "java/lang/Math", Cond.code Lib.Math.max.name Lib.Math.max.code 2 (some .int)].all (fun w => decide (w ∈ lw_tbl) && goodWord w) = true) (hdd : 1 ≤ d) (hl0 : st.length ≤ 4) (k : zW X G nL (pc + 3) lv (zI (max a b) :: st) μ) : zW X G nL pc lv (zI b :: zI a :: st) μ := fun H locs ls hM hst hlv hl hP hD hS => by
  have hb : zrI b := zrS_hd hst
  have ha : zrI a := zrS_hd (zrS_tl hst)
  have hws := zbig_sub hw
  have hroom := hX.2.2.2.2.2.2.2.2.2.1
  have h1 := zcat_sum G st
  refine va_mmax hX.1 hX.2.1 (by rw [hX.2.2.1]; exact hl.1.symm) hX.2.2.2.1 (hX.2.2.2.2.1 _ (hws _ (by simp))) (hX.2.2.2.2.1 _ (hws _ (by simp))) (hX.2.2.2.2.1 _ (hws _ (by simp))) (hX.2.2.2.2.1 _ (hws _ (by simp))) (by have := hroom.1; omega) (by have := hroom.2; omega) hX.2.2.2.2.2.2.2.2.2.2.1 hX.2.2.2.2.2.2.2.2.2.2.2 hd ?_
  have e : (if Int32.ofInt a < Int32.ofInt b then Int32.ofInt b else Int32.ofInt a) = Int32.ofInt (max a b) := by
    by_cases hc : a < b
    · rw [if_pos ((z_lt ha hb).mpr hc), show max a b = b by omega]
    · rw [if_neg (fun q => hc ((z_lt ha hb).mp q)), show max a b = a by omega]
  rw [e]
  exact k H locs ls hM (zrS_cons (show zrI (max a b) by unfold zrI at *; omega) (zrS_tl (zrS_tl hst))) hlv hl hP hD hS
theorem zr_min {ix : Nat} {a b : Int} (hX : zOk X G cc own nL ret d) (hd : decode cc pc = .ok (.invokestatic ix, 3)) (hw : [Cond.methodLink own ix Lib.Math.min.name, Cond.static Lib.Math.min.name, Cond.initialized "java/lang/Math", Cond.code Lib.Math.min.name Lib.Math.min.code 2 (some .int)].all (fun w => decide (w ∈ lw_tbl) && goodWord w) = true) (hdd : 1 ≤ d) (hl0 : st.length ≤ 4) (k : zW X G nL (pc + 3) lv (zI (min a b) :: st) μ) : zW X G nL pc lv (zI b :: zI a :: st) μ := fun H locs ls hM hst hlv hl hP hD hS => by
  have hb : zrI b := zrS_hd hst
  have ha : zrI a := zrS_hd (zrS_tl hst)
  have hws := zbig_sub hw
  have hroom := hX.2.2.2.2.2.2.2.2.2.1
  have h1 := zcat_sum G st
  refine va_mmin hX.1 hX.2.1 (by rw [hX.2.2.1]; exact hl.1.symm) hX.2.2.2.1 (hX.2.2.2.2.1 _ (hws _ (by simp))) (hX.2.2.2.2.1 _ (hws _ (by simp))) (hX.2.2.2.2.1 _ (hws _ (by simp))) (hX.2.2.2.2.1 _ (hws _ (by simp))) (by have := hroom.1; omega) (by have := hroom.2; omega) hX.2.2.2.2.2.2.2.2.2.2.1 hX.2.2.2.2.2.2.2.2.2.2.2 hd ?_
  have e : (if Int32.ofInt b < Int32.ofInt a then Int32.ofInt b else Int32.ofInt a) = Int32.ofInt (min a b) := by
    by_cases hc : b < a
    · rw [if_pos ((z_lt hb ha).mpr hc), show min a b = b by omega]
    · rw [if_neg (fun q => hc ((z_lt hb ha).mp q)), show min a b = a by omega]
  rw [e]
  exact k H locs ls hM (zrS_cons (show zrI (min a b) by unfold zrI at *; omega) (zrS_tl (zrS_tl hst))) hlv hl hP hD hS
end ZR3
end
section
/-! CONTRACTS: of a method at given things it is given, in a given world: what it answers, and the world behind it -/
def zrm (d : Nat) : Room := { frames := d, cells := 0, slots := 0, locals := 64 * d }
def zPc (G : zG) (as : List zV) (μ : zM) : Array Value → State → Prop := va_Pc (as.map (zcv G)) (zRW G μ)
def zQc (G : zG) (rv : Option zV) (μ : zM) : Array Value → State → Outcome → State → Prop := fun _ st oc t => (oc = .returned (rv.map (zcv G)) ∧ zRW G μ t ∧ zrM μ ∧ ∀ v, rv = some v → zrV v) ∧ va_F (zgA G) st t
def zCT (l : Launch) (G : zG) (y : MethodName) (cc : ByteArray) (maxL : Nat) (ret : Option FieldType) (d : Nat) (as : List zV) (μ : zM) (rv : Option zV) (ν : zM) : Prop :=
  zrS as → zrM μ → Met l y (.code y cc maxL ret :: zBIG) (zrm d) (zPc G as μ) (zQc G rv ν) 0 0 (zgA G)
theorem zSt_go {G : zG} {s t : State} {H H1 : Heap} (h : zSt G s H) (hvm : s.vm.Alike t.vm) (hn : zNw s → zNw t) (hk : ∀ a : Nat, a < H.size → ¬ zgA G a → H1[a]? = H[a]?) : zSt G t H1 := ⟨fun i hi => ⟨(va_Z.moved hvm (h.1 i hi).1).kept hk, (va_T.moved hvm (h.1 i hi).2).kept hk⟩, hn h.2⟩
theorem zRW_blind {G : zG} {as : List zV} {μ : zM} : FrameBlind (zPc G as μ) := fun a U g mk q => ⟨q.1, q.2.1, va_K.moved (u := U) (U := U.calling g mk a) (Vm.Alike.refl U.vm) q.2.2.1, zSt_go (s := U) (t := U.calling g mk a) q.2.2.2.1 (Vm.Alike.refl U.vm) (zNw_same rfl) (fun _ _ _ => rfl), q.2.2.2.2⟩
section ZC
variable {p : Program} {l : Launch} {e : Env} {R : Room} {s : State} {m : MethodId} {args : Array Value} {below : List Frame} {meth : Method} {c : Code} {H : Heap} {locs : List Loc} {cells slots : Nat} {Q : State → Prop} {pc : Nat} {ls : Array Slot} {rest st0 : List Value} {a : Array Value} {G : zG} {μ : zM} {rv : Option zV}
theorem zcall (hr : va_Run p l e R s m args below meth c H locs cells slots 0 0 (F0 m pc ls st0) rest (zQc G rv μ a) (zgA G)) {H0 : Heap} (hS : va_S (zgA G) H0 H locs)
    (kk : ∀ (t : State) (H1 : Heap) (locs1 : List Loc), t.heap = H1 → zRW G μ t → zrM μ → (∀ v, rv = some v → zrV v) → va_S (zgA G) H0 H1 locs1 → W p l e R s m args below meth c H1 locs1 cells slots Q (F0 m (pc + 3) ls ((rv.map (zcv G)).toList ++ rest))) : W p l e R s m args below meth c H locs cells slots Q (F0 m pc ls st0) := by
  intro T hT X
  obtain ⟨v, st₀, t, T', L, h0, X', hL, e1, e2, ⟨⟨hv, hw, hm, hrv⟩, hz, hk⟩, st⟩ := hr T hT X
  cases hv
  rw [h0] at hz hk
  obtain ⟨t2, a1, b1⟩ := kk t T'.heap (locs ++ L) e1.symm hw hm hrv
    ⟨Nat.le_trans hS.1 (by rw [e1]; exact hz), fun q h1 h2 => by rw [e1, hk q (Nat.lt_of_lt_of_le h1 hS.1) h2]; exact hS.2.1 q h1 h2, fun q hq => by
      rcases List.mem_append.mp hq with h | h
      · exact hS.2.2 q h
      · exact hL q h⟩ T' rfl X'
  exact ⟨t2, st t2 a1, b1⟩
end ZC
section ZR4
variable {X : zX} {G : zG} {cc : ByteArray} {own : String} {nL d pc : Nat} {ret : Option FieldType} {lv : List (Option zV)} {st stk : List zV} {μ ν : zM}
/-- where a call finds its world -/
theorem zPre {H : Heap} {locs : List Loc} {as : List zV} (hX : zOk X G cc own nL ret d) (hP : va_P (zgD G) zcl (zws G μ) H) (hD : va_D (zgA G) (zws G μ)) (hS : va_S (zgA G) (zXs X).heap H locs) : ∀ U : State, U.heap = H → (zXs X).WarmedH U.vm → zPc G as μ (as.map (zcv G)).toArray U := fun U hU hW =>
  ⟨rfl, by rw [hU]; exact hP, va_K.moved hW.alike hX.2.2.2.2.2.2.2.1, by rw [hU]; exact zSt_go hX.2.2.2.2.2.2.2.2.1 hW.alike (zNw_warm hW) (fun q h1 h2 => hS.2.1 q h1 h2), hD⟩
theorem z_lroom {st : List zV} (G : zG) (h : st.length ≤ 4) : ((st.map (zcv G)).map fun v => v.category).sum ≤ 8 := by
  have := zcat_sum G st
  omega
def zpush : Option zV → List zV → List zV
  | none, st => st
  | some v, st => v :: st
theorem zpush_r {rv : Option zV} {st : List zV} (h : ∀ v, rv = some v → zrV v) (hs : zrS st) : zrS (zpush rv st) := by
  cases rv with
  | none => exact hs
  | some v => exact zrS_cons (h v rfl) hs
theorem zr_callV {y : MethodName} {cc2 : ByteArray} {mL2 d2 o ci n ix : Nat} {C : String} {ret2 : Option FieldType} {As : List zV} {rv : Option zV} (hX : zOk X G cc own nL ret d) (hd : decode cc pc = .ok (.invokevirtual ix, 3)) (hM : zCT (zXl X) G y cc2 mL2 ret2 d2 (zR o :: As) μ rv ν) (hs : zsh o = (0, ci)) (hstk : stk = As.reverse ++ zR o :: st)
    (hC : (zcl[ci]?).map (fun q => q.1) = some C) (hw : ∀ w ∈ ([.methodLink own ix y, .instanceMethod y, .selects C y y, .initialized C, .code y cc2 mL2 ret2] : List Cond), w ∈ zBIG)
    (hy : y.cls = C ∧ y.cls ≠ "java/lang/invoke/MethodHandle" ∧ y.cls ≠ "java/lang/invoke/VarHandle" ∧ (parseMethodDescriptor y.desc).map (fun d => d.parameters.length) = some n) (hn : As.length = n) (hdd : d2 + 1 ≤ d) (hmL : mL2 ≤ 45) (hl0 : st.length ≤ 4)
    (kk : zW X G nL (pc + 3) lv (zpush rv st) ν) : zW X G nL pc lv stk μ := fun H locs ls hM0 hst hlv hl hP hD hS => by
  subst hstk
  have hroom := hX.2.2.2.2.2.2.2.2.2.1
  have hrs : zrS (zR o :: As) := fun v hv => by
    rcases List.mem_cons.mp hv with rfl | hv
    · trivial
    · exact hst v (List.mem_append_left _ (List.mem_reverse.mpr hv))
  have hMet := hM hrs hM0
  have hgood : GoodIn zBIG (wsV own ix C y (.code y cc2 mL2 ret2 :: zBIG)) := fun w hw2 => by
    unfold wsV at hw2
    rcases List.mem_append.mp hw2 with h | h
    · refine zbig_g (hw w ?_)
      simp only [List.mem_cons, List.not_mem_nil, or_false] at h ⊢
      rcases h with h | h | h | h
      · exact Or.inl h
      · exact Or.inr (Or.inl h)
      · exact Or.inr (Or.inr (Or.inl h))
      · exact Or.inr (Or.inr (Or.inr (Or.inl h)))
    · rcases List.mem_cons.mp h with h | h
      · exact zbig_g (hw w (by simp [h]))
      · exact zbig_g h
  obtain ⟨⟨C1, T1, N1⟩, hcq⟩ : ∃ q, zcl[ci]? = some q := by
    cases hz : zcl[ci]? with
    | none => rw [hz] at hC; cases hC
    | some q => exact ⟨q, rfl⟩
  rw [hcq] at hC
  have hC1 : C1 = C := Option.some.inj hC
  subst hC1
  have ho := zsh_lt hs (show 0 < 9 by omega)
  have hrun := va_runV (p := zXp X) (e := zXe X) (below := zXb X) (meth := zXM X) (locs := locs) (cells := zXn X) (slots := zXk X) (cc := cc) (nL := nL) (Ts := zBIG) (own := own) (C := C1) (n := n) (index := ix) (b := zgR G o) (H := H) (g := F0 (zXm X) pc ls ((As.reverse ++ zR o :: st).map (zcv G))) (rest := st.map (zcv G)) (As := As.map (zcv G))
    ⟨hX.1, hX.2.1, hX.2.2.1, hX.2.2.2.1, hX.2.2.2.2.1⟩ hMet
    (cwV n hX.2.2.2.2.1 hgood rfl rfl rfl hy ⟨by show d2 + 1 ≤ _; have := hroom.1; omega, by show 8 + (mL2 + 11) + 64 * d2 ≤ _; have := hroom.2; omega⟩)
    ⟨zRW_blind, va_recv hX.2.2.2.2.2.2.2.1 hP hcq (by rw [zws_get G μ ho, zce_obj hs]), fun U hU hW => zPre (as := zR o :: As) hX hP hD hS U hU hW⟩ rfl (by rw [List.length_map]; exact hn) hl.1 (by simp [List.map_append, List.map_reverse]; rfl) (lv_room (pc := pc) (ls := ls) (rest := []) (m := zXm X) (z_lroom G hl0)) hd ⟨hX.2.2.2.2.2.2.2.2.2.2.1, hX.2.2.2.2.2.2.2.2.2.2.2⟩
  refine zcall hrun hS (fun t H1 locs1 ht hw1 hm1 hrv hS1 => ?_)
  have hP1 := hw1.1
  rw [ht] at hP1
  have hst1 : zrS (zpush rv st) := zpush_r hrv (fun v h => hst v (List.mem_append_right _ (List.mem_cons_of_mem _ h)))
  have := kk H1 locs1 ls hm1 hst1 hlv hl hP1 hw1.2.2.2 hS1
  cases rv <;> exact this
theorem zr_callS {y : MethodName} {cc2 : ByteArray} {mL2 d2 n ix : Nat} {ret2 : Option FieldType} {As : List zV} {rv : Option zV} (hX : zOk X G cc own nL ret d) (hd : decode cc pc = .ok (.invokestatic ix, 3)) (hM : zCT (zXl X) G y cc2 mL2 ret2 d2 As μ rv ν) (hstk : stk = As.reverse ++ st)
    (hw : ∀ w ∈ ([.methodLink own ix y, .static y, .initialized y.cls, .code y cc2 mL2 ret2] : List Cond), w ∈ zBIG)
    (hy : y.cls ≠ "java/lang/invoke/MethodHandle" ∧ y.cls ≠ "java/lang/invoke/VarHandle" ∧ (parseMethodDescriptor y.desc).map (fun d => d.parameters.length) = some n) (hn : As.length = n) (hdd : d2 + 1 ≤ d) (hmL : mL2 ≤ 45) (hl0 : st.length ≤ 4)
    (kk : zW X G nL (pc + 3) lv (zpush rv st) ν) : zW X G nL pc lv stk μ := fun H locs ls hM0 hst hlv hl hP hD hS => by
  subst hstk
  have hroom := hX.2.2.2.2.2.2.2.2.2.1
  have hrs : zrS As := fun v hv => hst v (List.mem_append_left _ (List.mem_reverse.mpr hv))
  have hMet := hM hrs hM0
  have hgood : GoodIn zBIG (va_wsS own ix y (.code y cc2 mL2 ret2 :: zBIG)) := fun w hw2 => by
    unfold va_wsS at hw2
    rcases List.mem_append.mp hw2 with h | h
    · refine zbig_g (hw w ?_)
      simp only [List.mem_cons, List.not_mem_nil, or_false] at h ⊢
      rcases h with h | h | h
      · exact Or.inl h
      · exact Or.inr (Or.inl h)
      · exact Or.inr (Or.inr (Or.inl h))
    · rcases List.mem_cons.mp h with h | h
      · exact zbig_g (hw w (by simp [h]))
      · exact zbig_g h
  have hrun := va_runS (p := zXp X) (e := zXe X) (below := zXb X) (meth := zXM X) (locs := locs) (cells := zXn X) (slots := zXk X) (cc := cc) (nL := nL) (Ts := zBIG) (own := own) (n := n) (index := ix) (H := H) (g := F0 (zXm X) pc ls ((As.reverse ++ st).map (zcv G))) (rest := st.map (zcv G)) (As := As.map (zcv G))
    ⟨hX.1, hX.2.1, hX.2.2.1, hX.2.2.2.1, hX.2.2.2.2.1⟩ hMet
    (va_cwS n hX.2.2.2.2.1 hgood rfl rfl rfl hy ⟨by show d2 + 1 ≤ _; have := hroom.1; omega, by show 8 + (mL2 + 11) + 64 * d2 ≤ _; have := hroom.2; omega⟩)
    ⟨zRW_blind, fun U hU hW => zPre (as := As) hX hP hD hS U hU hW⟩ rfl (by rw [List.length_map]; exact hn) hl.1 (by simp [List.map_append, List.map_reverse]) (lv_room (pc := pc) (ls := ls) (rest := []) (m := zXm X) (z_lroom G hl0)) hd ⟨hX.2.2.2.2.2.2.2.2.2.2.1, hX.2.2.2.2.2.2.2.2.2.2.2⟩
  refine zcall hrun hS (fun t H1 locs1 ht hw1 hm1 hrv hS1 => ?_)
  have hP1 := hw1.1
  rw [ht] at hP1
  have hst1 : zrS (zpush rv st) := zpush_r hrv (fun v h => hst v (List.mem_append_right _ h))
  have := kk H1 locs1 ls hm1 hst1 hlv hl hP1 hw1.2.2.2 hS1
  cases rv <;> exact this
theorem zr_callSN {y : MethodName} {cc2 : ByteArray} {mL2 d2 n ix : Nat} {ret2 : Option FieldType} {As : List zV} {rv : Option zV} (hX : zOk X G cc own nL ret d) (hd : decode cc pc = .ok (.invokestatic ix, 3)) (hM : zCT (zXl X) G y cc2 mL2 ret2 d2 As μ rv ν) (hstk : stk = As.reverse ++ st)
    (hwn : (own, ix, y, "RoofLent") ∈ zNM) (hw : ∀ w ∈ ([.static y, .initialized y.cls, .code y cc2 mL2 ret2] : List Cond), w ∈ zBIG)
    (hy : y.cls ≠ "java/lang/invoke/MethodHandle" ∧ y.cls ≠ "java/lang/invoke/VarHandle" ∧ (parseMethodDescriptor y.desc).map (fun d => d.parameters.length) = some n) (hn : As.length = n) (hdd : d2 + 1 ≤ d) (hmL : mL2 ≤ 45) (hl0 : st.length ≤ 4)
    (kk : zW X G nL (pc + 3) lv (zpush rv st) ν) : zW X G nL pc lv stk μ := fun H locs ls hM0 hst hlv hl hP hD hS => by
  subst hstk
  have hroom := hX.2.2.2.2.2.2.2.2.2.1
  have hrs : zrS As := fun v hv => hst v (List.mem_append_left _ (List.mem_reverse.mpr hv))
  have hMet := hM hrs hM0
  have hgood : GoodIn zBIG (.code y cc2 mL2 ret2 :: zBIG) := fun w hw2 => by
    rcases List.mem_cons.mp hw2 with h | h
    · exact zbig_g (hw w (by simp [h]))
    · exact zbig_g h
  have hrun := va_runSN (p := zXp X) (e := zXe X) (below := zXb X) (meth := zXM X) (locs := locs) (cells := zXn X) (slots := zXk X) (cc := cc) (nL := nL) (Ts := zBIG) (own := own) (n := n) (index := ix) (H := H) (g := F0 (zXm X) pc ls ((As.reverse ++ st).map (zcv G))) (rest := st.map (zcv G)) (As := As.map (zcv G))
    ⟨hX.1, hX.2.1, hX.2.2.1, hX.2.2.2.1, hX.2.2.2.2.1⟩ hMet
    ⟨va_cnB (host := "RoofLent") n hX.2.2.2.2.1 hgood rfl rfl rfl (hX.2.2.2.2.2.2.2.2.1.2.2 _ hwn) (hX.2.2.2.2.1 _ (hw _ (by simp))) hy ⟨by show d2 + 1 ≤ _; have := hroom.1; omega, by show 8 + (mL2 + 11) + 64 * d2 ≤ _; have := hroom.2; omega⟩, hX.2.2.2.2.1 _ (hw _ (by simp)), trivial⟩
    ⟨zRW_blind, fun U hU hW => zPre (as := As) hX hP hD hS U hU hW⟩ rfl (by rw [List.length_map]; exact hn) hl.1 (by simp [List.map_append, List.map_reverse]) (lv_room (pc := pc) (ls := ls) (rest := []) (m := zXm X) (z_lroom G hl0)) hd ⟨hX.2.2.2.2.2.2.2.2.2.2.1, hX.2.2.2.2.2.2.2.2.2.2.2⟩
  refine zcall hrun hS (fun t H1 locs1 ht hw1 hm1 hrv hS1 => ?_)
  have hP1 := hw1.1
  rw [ht] at hP1
  have hst1 : zrS (zpush rv st) := zpush_r hrv (fun v h => hst v (List.mem_append_right _ h))
  have := kk H1 locs1 ls hm1 hst1 hlv hl hP1 hw1.2.2.2 hS1
  cases rv <;> exact this
/-! returns -/
def zFin (X : zX) (G : zG) (rv : Option zV) (ν : zM) : Prop := zXQ X = MQ (zXb X) (zQc G rv ν) (zXa X) (zXs X) (zXn X) (zXk X) (zgA G)
theorem zEnd {H : Heap} {locs : List Loc} {rv : Option zV} (hX : zOk X G cc own nL ret d) (hM : zrM μ) (hr : ∀ v, rv = some v → zrV v) (hP : va_P (zgD G) zcl (zws G μ) H) (hD : va_D (zgA G) (zws G μ)) (hS : va_S (zgA G) (zXs X).heap H locs) (a : Array Value) : ∀ t : State, t.heap = H → (zXs X).WarmedH t.vm → zQc G rv μ a (zXs X) (.returned (rv.map (zcv G))) t := fun t ht hW =>
  ⟨⟨rfl, ⟨by rw [ht]; exact hP, va_K.moved hW.alike hX.2.2.2.2.2.2.2.1, by rw [ht]; exact zSt_go hX.2.2.2.2.2.2.2.2.1 hW.alike (zNw_warm hW) (fun q h1 h2 => hS.2.1 q h1 h2), hD⟩, hM, hr⟩, hS.F ht⟩
theorem zr_iret (hX : zOk X G cc own nL (some .int) d) (hd : decode cc pc = .ok (.ireturn, 1)) {rv : Option zV} {z : Int} (hF : zFin X G rv ν) (h : (some (zI z), μ) = (rv, ν)) : zW X G nL pc lv [zI z] μ := fun H locs ls hM hst hlv hl hP hD hS => by
  cases h
  rw [hF]
  exact W.iret hX.1 hX.2.1 hX.2.2.2.2.2.1 (zEnd (rv := some (zI z)) hX hM (fun v hv => by cases hv; exact zrS_hd hst) hP hD hS _) hS.2.2 hd hX.2.2.2.2.2.2.1
theorem zr_bret {τ : Type} {F : τ → Prop} {B : Option τ} (hX : zOk X G cc own nL (some .boolean) d) (hd : decode cc pc = .ok (.ireturn, 1)) {rv : Option zV} {z : Int} (hF : zFin X G rv ν) (h0 : zP F (if z = 0 ∨ z = 1 then B else none)) (h : zP F B → (some (zI z), μ) = (rv, ν)) : zW X G nL pc lv [zI z] μ := zP_if h0 fun hc h0 H locs ls hM hst hlv hl hP hD hS => by
  cases h h0
  rw [hF]
  exact W.zret hX.1 hX.2.1 hX.2.2.2.2.2.1 (by rcases hc with rfl | rfl <;> rfl) (zEnd (rv := some (zI z)) hX hM (fun v hv => by cases hv; exact zrS_hd hst) hP hD hS _) hS.2.2 hd hX.2.2.2.2.2.2.1
theorem zr_bretc (hX : zOk X G cc own nL (some .boolean) d) (hd : decode cc pc = .ok (.ireturn, 1)) {rv : Option zV} {z : Int} (hF : zFin X G rv ν) (hz : z = 0 ∨ z = 1) (h : (some (zI z), μ) = (rv, ν)) : zW X G nL pc lv [zI z] μ := zr_bret (F := fun _ : Unit => True) (B := some ()) hX hd hF (by rw [if_pos hz]; trivial) (fun _ => h)
theorem zr_lret (hX : zOk X G cc own nL (some .long) d) (hd : decode cc pc = .ok (.lreturn, 1)) {rv : Option zV} {z : Int} (hF : zFin X G rv ν) (h : (some (zJ z), μ) = (rv, ν)) : zW X G nL pc lv [zJ z] μ := fun H locs ls hM hst hlv hl hP hD hS => by
  cases h
  rw [hF]
  exact W.lret hX.1 hX.2.1 hX.2.2.2.2.2.1 (zEnd (rv := some (zJ z)) hX hM (fun v hv => by cases hv; exact zrS_hd hst) hP hD hS _) hS.2.2 hd hX.2.2.2.2.2.2.1
theorem zr_vret (hX : zOk X G cc own nL none d) (hd : decode cc pc = .ok (.return_, 1)) {rv : Option zV} (hF : zFin X G rv ν) (h : ((none : Option zV), μ) = (rv, ν)) : zW X G nL pc lv [] μ := fun H locs ls hM hst hlv hl hP hD hS => by
  cases h
  rw [hF]
  exact W.vret hX.1 hX.2.1 hX.2.2.2.2.2.1 (zEnd (rv := none) hX hM (fun v hv => by cases hv) hP hD hS _) hS.2.2 hd hX.2.2.2.2.2.2.1
theorem zr_aret {E : String} (hX : zOk X G cc own nL (some (.object E)) d) (hd : decode cc pc = .ok (.areturn, 1)) {rv : Option zV} {q : Option Nat} (hF : zFin X G rv ν) (h : (some (zN q), μ) = (rv, ν)) : zW X G nL pc lv [zN q] μ := fun H locs ls hM hst hlv hl hP hD hS => by
  cases h
  rw [hF]
  exact W.aret hX.1 hX.2.1 hX.2.2.2.2.2.1 (Or.inl ⟨_, rfl⟩) (by cases q with | none => exact Or.inl rfl | some o => exact Or.inr ⟨_, rfl⟩) (zEnd (rv := some (zN q)) hX hM (fun v hv => by cases hv; trivial) hP hD hS _) hS.2.2 hd hX.2.2.2.2.2.2.1
/-! from the walk to the contract -/
def zen : List zV → List (Option zV)
  | [] => []
  | v :: t => if zwide (some v) then some v :: none :: zen t else some v :: zen t
theorem ztl_app (G : zG) : ∀ (a : List (Option zV)) (i k : Nat), ztl G i (a ++ List.replicate k none) = ztl G i a
  | [], i, 0 => rfl
  | [], i, k + 1 => by
    show ztl G (i + 1) ([] ++ List.replicate k none) = _
    exact ztl_app G [] (i + 1) k
  | none :: t, i, k => ztl_app G t (i + 1) k
  | some v :: t, i, k => by
    show (i, zcv G v) :: ztl G (i + 1) (t ++ List.replicate k none) = (i, zcv G v) :: ztl G (i + 1) t
    rw [ztl_app G t (i + 1) k]
theorem ztl_zen (G : zG) : ∀ (as : List zV) (i : Nat), ztl G i (zen as) = lv_args i (as.map (zcv G))
  | [], i => rfl
  | v :: t, i => by
    cases hv : zwide (some v) with
    | false =>
      rw [show zen (v :: t) = some v :: zen t by simp [zen, hv]]
      show (i, zcv G v) :: ztl G (i + 1) (zen t) = (i, zcv G v) :: lv_args (if (zcv G v).category = 2 then i + 2 else i + 1) (t.map (zcv G))
      rw [ztl_zen G t (i + 1), zcat, hv]
      rfl
    | true =>
      rw [show zen (v :: t) = some v :: none :: zen t by simp [zen, hv]]
      show (i, zcv G v) :: ztl G (i + 1 + 1) (zen t) = (i, zcv G v) :: lv_args (if (zcv G v).category = 2 then i + 2 else i + 1) (t.map (zcv G))
      rw [ztl_zen G t (i + 1 + 1), zcat, hv]
      rfl
theorem zen_in : ∀ {as : List zV} {j : Nat} {v : zV}, (zen as)[j]? = some (some v) → v ∈ as
  | [], j, v, h => by simp [zen] at h
  | u :: t, j, v, h => by
    cases hv : zwide (some u) with
    | false =>
      rw [show zen (u :: t) = some u :: zen t by simp [zen, hv]] at h
      cases j with
      | zero => simp at h; exact h ▸ List.mem_cons_self
      | succ j => exact List.mem_cons_of_mem _ (zen_in (j := j) (by simpa using h))
    | true =>
      rw [show zen (u :: t) = some u :: none :: zen t by simp [zen, hv]] at h
      match j with
      | 0 => simp at h; exact h ▸ List.mem_cons_self
      | 1 => simp at h
      | j + 2 => exact List.mem_cons_of_mem _ (zen_in (j := j) (by simpa using h))
theorem zMet {l : Launch} {y : MethodName} {maxL k : Nat} {as : List zV} {rv : Option zV} (hy : plainName y.cls = true) (hlv : lv = zen as ++ List.replicate k none) (hlen : (lg_sl (as.map (zcv G))).length ≤ maxL)
    (body : ∀ X : zX, zXl X = l → zOk X G cc y.cls maxL ret d → zFin X G rv ν → zrS as → zrM μ → zW X G maxL 0 lv [] μ) : zCT l G y cc maxL ret d as μ rv ν := by
  intro hrs hM
  refine Met.ofW (cc := cc) (maxL := maxL) (ret := ret) hy rfl ?_
  intro p e s m args below meth c s₁ B hml hv
  obtain ⟨rfl, hP, hK, hSt, hD⟩ := hv
  have hts := atoms_spec (ws := .code y cc maxL ret :: zBIG) B.pre
  have hX : zOk (p, l, e, zrm d, s, m, (as.map (zcv G)).toArray, below, meth, c, MQ below (zQc G rv ν) (as.map (zcv G)).toArray s 0 0 (zgA G), 0, 0) G cc y.cls maxL ret d :=
    ⟨B.exec, B.bytes, hml, findClass_of_methodNamed B.named, fun w hw => hts w (List.mem_cons_of_mem _ hw), B.returns, B.notSynchronized, hK, hSt, ⟨Nat.le_refl _, Nat.le_refl _⟩, Nat.le_refl _, Nat.le_refl _⟩
  have hl := lv_entry (as.map (zcv G)) hlen
  have hw := body _ rfl hX rfl hrs hM s.heap [] _ hM (fun v h => by cases h) (fun j v hj => ?_) (zl_mono hl (fun q hq => ?_)) hP hD va_S.rf
  · rw [lg_entry_eq]
    exact hw
  · rw [hlv] at hj
    refine hrs v (zen_in (j := j) ?_)
    rcases Nat.lt_or_ge j (zen as).length with h | h
    · rw [List.getElem?_append_left h] at hj; exact hj
    · rw [List.getElem?_append_right h] at hj
      have := List.mem_of_getElem? hj
      simp at this
  · rw [hlv, ztl_app, ztl_zen] at hq
    exact hq
end ZR4
/-- fields' and calls' words, by one look -/
theorem zwf {w : Cond} (h : (decide (w ∈ lw_tbl) && goodWord w) = true) : w ∈ zBIG := by
  simp only [Bool.and_eq_true, decide_eq_true_eq] at h
  exact List.mem_filter.mpr h
theorem zsome_ite {α : Type} {c : Prop} [Decidable c] {a b : α} : (if c then some a else some b) = some (if c then a else b) := by split <;> rfl
/-- where an object's own objects are -/
def zkid (ci k : Nat) (s : Nat × Nat) : Bool := (List.range 56).all fun o => if zsh o = (0, ci) then zsh (o + k) = s else true
theorem zkid_of {ci k : Nat} {s : Nat × Nat} (h : zkid ci k s = true) {o : Nat} (ho : zsh o = (0, ci)) : zsh (o + k) = s := by
  have h1 := List.all_eq_true.mp h o (List.mem_range.mpr (zsh_lt ho (by omega)))
  rw [if_pos ho] at h1
  simpa using h1
def zsz (o : Nat) : Int := ((zsh o).2 : Int)
theorem zk31 {o : Nat} (ho : zsh o = (0, 3)) : zsh (o + 1) = (1, (zsh (o + 1)).2) := by
  have h : ∀ o < 56, zsh o = (0, 3) → (zsh (o + 1)).1 = 1 := by decide +kernel
  have h2 := h o (zsh_lt ho (by omega)) ho
  exact Prod.ext h2 rfl
theorem zkept {i : Int} (h : 0 ≤ i ∧ i < 3) : zsh (27 + 5 * i.toNat) = (0, 4) := by
  have : i.toNat = 0 ∨ i.toNat = 1 ∨ i.toNat = 2 := by omega
  rcases this with e | e | e <;> rw [e] <;> rfl
theorem zsz_r (o : Nat) : zrI (zsz o) := by
  have h : ∀ o < 56, (zsh o).2 < 20000 := by decide +kernel
  unfold zrI zsz
  rcases Nat.lt_or_ge o 56 with q | q
  · have := h o q; omega
  · have e : zsh o = (9, 0) := by
      unfold zsh
      rw [List.getD_eq_getElem?_getD, List.getElem?_eq_none (show zSH.length ≤ o from q)]
      rfl
    rw [e]
    omega
theorem z5 {a b c d e : Cond} (h1 : a ∈ zBIG) (h2 : b ∈ zBIG) (h3 : c ∈ zBIG) (h4 : d ∈ zBIG) (h5 : e ∈ zBIG) : ∀ w ∈ [a, b, c, d, e], w ∈ zBIG := fun w hw => by
  simp only [List.mem_cons, List.not_mem_nil, or_false] at hw
  rcases hw with h | h | h | h | h <;> rw [h] <;> assumption
theorem z4 {a b c d : Cond} (h1 : a ∈ zBIG) (h2 : b ∈ zBIG) (h3 : c ∈ zBIG) (h4 : d ∈ zBIG) : ∀ w ∈ [a, b, c, d], w ∈ zBIG := fun w hw => by
  simp only [List.mem_cons, List.not_mem_nil, or_false] at hw
  rcases hw with h | h | h | h <;> rw [h] <;> assumption
theorem z3 {a b c : Cond} (h1 : a ∈ zBIG) (h2 : b ∈ zBIG) (h3 : c ∈ zBIG) : ∀ w ∈ [a, b, c], w ∈ zBIG := fun w hw => by
  simp only [List.mem_cons, List.not_mem_nil, or_false] at hw
  rcases hw with h | h | h <;> rw [h] <;> assumption
end
section
theorem zz_look : True := trivial
end
