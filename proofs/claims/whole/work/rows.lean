section
-- ===== PART A: goes FIRST, ahead of the names: the tables' words, and 'selects' of the private methods out of them =====
/-- a private method of a class that the tables say can be made, by its rows of tables_1 -/
def lw_okq (q : MethodName × Nat) : Prop := (q.1.cls ≠ "java/lang/invoke/MethodHandle" ∧ q.1.cls ≠ "java/lang/invoke/VarHandle") ∧ Cond.instantiable q.1.cls q.2 ∈ tables_1 ∧ Cond.privateMethod q.1 ∈ tables_1 ∧ Cond.instanceMethod q.1 ∈ tables_1
theorem lw_p0 : lw_okq (⟨"NetShapes$ShapeTable", "setPlaces", "(II)V"⟩, 5) := ⟨⟨by decide +kernel, by decide +kernel⟩, List.mem_of_getElem? (i := 57) (by decide +kernel), List.mem_of_getElem? (i := 77) (by decide +kernel), List.mem_of_getElem? (i := 78) (by decide +kernel)⟩
theorem lw_p1 : lw_okq (⟨"NetShapes$ShapeTable", "placesIn", "(I)I"⟩, 5) := ⟨⟨by decide +kernel, by decide +kernel⟩, List.mem_of_getElem? (i := 57) (by decide +kernel), List.mem_of_getElem? (i := 81) (by decide +kernel), List.mem_of_getElem? (i := 82) (by decide +kernel)⟩
theorem lw_p2 : lw_okq (⟨"NetShapes", "refuse", "(I)I"⟩, 9) := ⟨⟨by decide +kernel, by decide +kernel⟩, List.mem_of_getElem? (i := 18) (by decide +kernel), List.mem_of_getElem? (i := 223) (by decide +kernel), List.mem_of_getElem? (i := 224) (by decide +kernel)⟩
theorem lw_p3 : lw_okq (⟨"NetShapes", "isTwo", "(II)Z"⟩, 9) := ⟨⟨by decide +kernel, by decide +kernel⟩, List.mem_of_getElem? (i := 18) (by decide +kernel), List.mem_of_getElem? (i := 235) (by decide +kernel), List.mem_of_getElem? (i := 236) (by decide +kernel)⟩
theorem lw_p4 : lw_okq (⟨"NetShapes", "isPost", "(I)Z"⟩, 9) := ⟨⟨by decide +kernel, by decide +kernel⟩, List.mem_of_getElem? (i := 18) (by decide +kernel), List.mem_of_getElem? (i := 239) (by decide +kernel), List.mem_of_getElem? (i := 240) (by decide +kernel)⟩
theorem lw_p5 : lw_okq (⟨"NetShapes", "isLink", "(I)Z"⟩, 9) := ⟨⟨by decide +kernel, by decide +kernel⟩, List.mem_of_getElem? (i := 18) (by decide +kernel), List.mem_of_getElem? (i := 285) (by decide +kernel), List.mem_of_getElem? (i := 286) (by decide +kernel)⟩
theorem lw_p6 : lw_okq (⟨"NetShapes", "isThree", "(III)Z"⟩, 9) := ⟨⟨by decide +kernel, by decide +kernel⟩, List.mem_of_getElem? (i := 18) (by decide +kernel), List.mem_of_getElem? (i := 316) (by decide +kernel), List.mem_of_getElem? (i := 317) (by decide +kernel)⟩
theorem lw_p7 : lw_okq (⟨"NetShapes$Census", "addThrees", "(LNetShapes$Net;II)V"⟩, 4) := ⟨⟨by decide +kernel, by decide +kernel⟩, List.mem_of_getElem? (i := 55) (by decide +kernel), List.mem_of_getElem? (i := 356) (by decide +kernel), List.mem_of_getElem? (i := 357) (by decide +kernel)⟩
theorem lw_p8 : lw_okq (⟨"NetShapes$Census", "addToPost", "(III)V"⟩, 4) := ⟨⟨by decide +kernel, by decide +kernel⟩, List.mem_of_getElem? (i := 55) (by decide +kernel), List.mem_of_getElem? (i := 369) (by decide +kernel), List.mem_of_getElem? (i := 370) (by decide +kernel)⟩
theorem lw_p9 : lw_okq (⟨"NetShapes$Census", "firstAlike", "(I)I"⟩, 4) := ⟨⟨by decide +kernel, by decide +kernel⟩, List.mem_of_getElem? (i := 55) (by decide +kernel), List.mem_of_getElem? (i := 390) (by decide +kernel), List.mem_of_getElem? (i := 391) (by decide +kernel)⟩
theorem lw_p10 : lw_okq (⟨"NetShapes$Census", "alike", "(II)Z"⟩, 4) := ⟨⟨by decide +kernel, by decide +kernel⟩, List.mem_of_getElem? (i := 55) (by decide +kernel), List.mem_of_getElem? (i := 394) (by decide +kernel), List.mem_of_getElem? (i := 395) (by decide +kernel)⟩
theorem lw_p11 : lw_okq (⟨"NetShapes$Lot", "drawBelow", "(I)I"⟩, 1) := ⟨⟨by decide +kernel, by decide +kernel⟩, List.mem_of_getElem? (i := 145) (by decide +kernel), List.mem_of_getElem? (i := 452) (by decide +kernel), List.mem_of_getElem? (i := 453) (by decide +kernel)⟩
theorem lw_p12 : lw_okq (⟨"NetShapes", "findMean", "(I)V"⟩, 9) := ⟨⟨by decide +kernel, by decide +kernel⟩, List.mem_of_getElem? (i := 18) (by decide +kernel), List.mem_of_getElem? (i := 463) (by decide +kernel), List.mem_of_getElem? (i := 464) (by decide +kernel)⟩
theorem lw_p13 : lw_okq (⟨"NetShapes$SideSearch", "readTwos", "(LNetShapes$Net;)I"⟩, 4) := ⟨⟨by decide +kernel, by decide +kernel⟩, List.mem_of_getElem? (i := 156) (by decide +kernel), List.mem_of_getElem? (i := 542) (by decide +kernel), List.mem_of_getElem? (i := 543) (by decide +kernel)⟩
theorem lw_p14 : lw_okq (⟨"NetShapes$SideSearch", "changeIfMoved", "(II)I"⟩, 4) := ⟨⟨by decide +kernel, by decide +kernel⟩, List.mem_of_getElem? (i := 156) (by decide +kernel), List.mem_of_getElem? (i := 562) (by decide +kernel), List.mem_of_getElem? (i := 563) (by decide +kernel)⟩
theorem lw_p15 : lw_okq (⟨"NetShapes$WalkRows", "goOn", "(LNetShapes$Net;)V"⟩, 2) := ⟨⟨by decide +kernel, by decide +kernel⟩, List.mem_of_getElem? (i := 177) (by decide +kernel), List.mem_of_getElem? (i := 574) (by decide +kernel), List.mem_of_getElem? (i := 575) (by decide +kernel)⟩
def lw_privs_1 : List (MethodName × Nat) := [(⟨"NetShapes$ShapeTable", "setPlaces", "(II)V"⟩, 5), (⟨"NetShapes$ShapeTable", "placesIn", "(I)I"⟩, 5), (⟨"NetShapes", "refuse", "(I)I"⟩, 9), (⟨"NetShapes", "isTwo", "(II)Z"⟩, 9), (⟨"NetShapes", "isPost", "(I)Z"⟩, 9), (⟨"NetShapes", "isLink", "(I)Z"⟩, 9), (⟨"NetShapes", "isThree", "(III)Z"⟩, 9), (⟨"NetShapes$Census", "addThrees", "(LNetShapes$Net;II)V"⟩, 4), (⟨"NetShapes$Census", "addToPost", "(III)V"⟩, 4), (⟨"NetShapes$Census", "firstAlike", "(I)I"⟩, 4), (⟨"NetShapes$Census", "alike", "(II)Z"⟩, 4), (⟨"NetShapes$Lot", "drawBelow", "(I)I"⟩, 1), (⟨"NetShapes", "findMean", "(I)V"⟩, 9), (⟨"NetShapes$SideSearch", "readTwos", "(LNetShapes$Net;)I"⟩, 4), (⟨"NetShapes$SideSearch", "changeIfMoved", "(II)I"⟩, 4), (⟨"NetShapes$WalkRows", "goOn", "(LNetShapes$Net;)V"⟩, 2)]
theorem lw_r1 : ∀ q ∈ lw_privs_1, lw_okq q := List.forall_mem_cons.mpr ⟨lw_p0, List.forall_mem_cons.mpr ⟨lw_p1, List.forall_mem_cons.mpr ⟨lw_p2, List.forall_mem_cons.mpr ⟨lw_p3, List.forall_mem_cons.mpr ⟨lw_p4, List.forall_mem_cons.mpr ⟨lw_p5, List.forall_mem_cons.mpr ⟨lw_p6, List.forall_mem_cons.mpr ⟨lw_p7, List.forall_mem_cons.mpr ⟨lw_p8, List.forall_mem_cons.mpr ⟨lw_p9, List.forall_mem_cons.mpr ⟨lw_p10, List.forall_mem_cons.mpr ⟨lw_p11, List.forall_mem_cons.mpr ⟨lw_p12, List.forall_mem_cons.mpr ⟨lw_p13, List.forall_mem_cons.mpr ⟨lw_p14, List.forall_mem_cons.mpr ⟨lw_p15, fun _ h => absurd h List.not_mem_nil⟩⟩⟩⟩⟩⟩⟩⟩⟩⟩⟩⟩⟩⟩⟩⟩
theorem lw_p16 : lw_okq (⟨"NetShapes$WalkRows", "sumOf", "(III)J"⟩, 2) := ⟨⟨by decide +kernel, by decide +kernel⟩, List.mem_of_getElem? (i := 177) (by decide +kernel), List.mem_of_getElem? (i := 579) (by decide +kernel), List.mem_of_getElem? (i := 580) (by decide +kernel)⟩
theorem lw_p17 : lw_okq (⟨"NetShapes", "heldCount", "()I"⟩, 9) := ⟨⟨by decide +kernel, by decide +kernel⟩, List.mem_of_getElem? (i := 18) (by decide +kernel), List.mem_of_getElem? (i := 644) (by decide +kernel), List.mem_of_getElem? (i := 645) (by decide +kernel)⟩
theorem lw_p18 : lw_okq (⟨"NetShapes", "refusalCount", "(I)I"⟩, 9) := ⟨⟨by decide +kernel, by decide +kernel⟩, List.mem_of_getElem? (i := 18) (by decide +kernel), List.mem_of_getElem? (i := 649) (by decide +kernel), List.mem_of_getElem? (i := 650) (by decide +kernel)⟩
theorem lw_p19 : lw_okq (⟨"NetShapesModel", "refuse", "(I)I"⟩, 25) := ⟨⟨by decide +kernel, by decide +kernel⟩, List.mem_of_getElem? (i := 653) (by decide +kernel), List.mem_of_getElem? (i := 748) (by decide +kernel), List.mem_of_getElem? (i := 749) (by decide +kernel)⟩
theorem lw_p20 : lw_okq (⟨"NetShapesModel", "isTwo", "(II)Z"⟩, 25) := ⟨⟨by decide +kernel, by decide +kernel⟩, List.mem_of_getElem? (i := 653) (by decide +kernel), List.mem_of_getElem? (i := 756) (by decide +kernel), List.mem_of_getElem? (i := 757) (by decide +kernel)⟩
theorem lw_p21 : lw_okq (⟨"NetShapesModel", "isPost", "(I)Z"⟩, 25) := ⟨⟨by decide +kernel, by decide +kernel⟩, List.mem_of_getElem? (i := 653) (by decide +kernel), List.mem_of_getElem? (i := 760) (by decide +kernel), List.mem_of_getElem? (i := 761) (by decide +kernel)⟩
theorem lw_p22 : lw_okq (⟨"NetShapesModel", "has", "(II)Z"⟩, 25) := ⟨⟨by decide +kernel, by decide +kernel⟩, List.mem_of_getElem? (i := 653) (by decide +kernel), List.mem_of_getElem? (i := 767) (by decide +kernel), List.mem_of_getElem? (i := 768) (by decide +kernel)⟩
theorem lw_p23 : lw_okq (⟨"NetShapesModel", "linkAt", "(I)I"⟩, 25) := ⟨⟨by decide +kernel, by decide +kernel⟩, List.mem_of_getElem? (i := 653) (by decide +kernel), List.mem_of_getElem? (i := 783) (by decide +kernel), List.mem_of_getElem? (i := 784) (by decide +kernel)⟩
theorem lw_p24 : lw_okq (⟨"NetShapesModel", "areThree", "(III)Z"⟩, 25) := ⟨⟨by decide +kernel, by decide +kernel⟩, List.mem_of_getElem? (i := 653) (by decide +kernel), List.mem_of_getElem? (i := 791) (by decide +kernel), List.mem_of_getElem? (i := 792) (by decide +kernel)⟩
theorem lw_p25 : lw_okq (⟨"NetShapesModel", "shapeOfThree", "(III)I"⟩, 25) := ⟨⟨by decide +kernel, by decide +kernel⟩, List.mem_of_getElem? (i := 653) (by decide +kernel), List.mem_of_getElem? (i := 795) (by decide +kernel), List.mem_of_getElem? (i := 796) (by decide +kernel)⟩
theorem lw_p26 : lw_okq (⟨"NetShapesModel", "codeOf", "(III)I"⟩, 25) := ⟨⟨by decide +kernel, by decide +kernel⟩, List.mem_of_getElem? (i := 653) (by decide +kernel), List.mem_of_getElem? (i := 799) (by decide +kernel), List.mem_of_getElem? (i := 800) (by decide +kernel)⟩
theorem lw_p27 : lw_okq (⟨"NetShapesModel", "placeIn", "(II)I"⟩, 25) := ⟨⟨by decide +kernel, by decide +kernel⟩, List.mem_of_getElem? (i := 653) (by decide +kernel), List.mem_of_getElem? (i := 813) (by decide +kernel), List.mem_of_getElem? (i := 814) (by decide +kernel)⟩
theorem lw_p28 : lw_okq (⟨"NetShapesModel", "countShape", "(I)I"⟩, 25) := ⟨⟨by decide +kernel, by decide +kernel⟩, List.mem_of_getElem? (i := 653) (by decide +kernel), List.mem_of_getElem? (i := 825) (by decide +kernel), List.mem_of_getElem? (i := 826) (by decide +kernel)⟩
theorem lw_p29 : lw_okq (⟨"NetShapesModel", "findCounts", "()V"⟩, 25) := ⟨⟨by decide +kernel, by decide +kernel⟩, List.mem_of_getElem? (i := 653) (by decide +kernel), List.mem_of_getElem? (i := 833) (by decide +kernel), List.mem_of_getElem? (i := 834) (by decide +kernel)⟩
theorem lw_p30 : lw_okq (⟨"NetShapesModel", "findRoles", "()I"⟩, 25) := ⟨⟨by decide +kernel, by decide +kernel⟩, List.mem_of_getElem? (i := 653) (by decide +kernel), List.mem_of_getElem? (i := 841) (by decide +kernel), List.mem_of_getElem? (i := 842) (by decide +kernel)⟩
theorem lw_p31 : lw_okq (⟨"NetShapesModel", "kindOfFour", "()I"⟩, 25) := ⟨⟨by decide +kernel, by decide +kernel⟩, List.mem_of_getElem? (i := 653) (by decide +kernel), List.mem_of_getElem? (i := 853) (by decide +kernel), List.mem_of_getElem? (i := 854) (by decide +kernel)⟩
def lw_privs_2 : List (MethodName × Nat) := [(⟨"NetShapes$WalkRows", "sumOf", "(III)J"⟩, 2), (⟨"NetShapes", "heldCount", "()I"⟩, 9), (⟨"NetShapes", "refusalCount", "(I)I"⟩, 9), (⟨"NetShapesModel", "refuse", "(I)I"⟩, 25), (⟨"NetShapesModel", "isTwo", "(II)Z"⟩, 25), (⟨"NetShapesModel", "isPost", "(I)Z"⟩, 25), (⟨"NetShapesModel", "has", "(II)Z"⟩, 25), (⟨"NetShapesModel", "linkAt", "(I)I"⟩, 25), (⟨"NetShapesModel", "areThree", "(III)Z"⟩, 25), (⟨"NetShapesModel", "shapeOfThree", "(III)I"⟩, 25), (⟨"NetShapesModel", "codeOf", "(III)I"⟩, 25), (⟨"NetShapesModel", "placeIn", "(II)I"⟩, 25), (⟨"NetShapesModel", "countShape", "(I)I"⟩, 25), (⟨"NetShapesModel", "findCounts", "()V"⟩, 25), (⟨"NetShapesModel", "findRoles", "()I"⟩, 25), (⟨"NetShapesModel", "kindOfFour", "()I"⟩, 25)]
theorem lw_r2 : ∀ q ∈ lw_privs_2, lw_okq q := List.forall_mem_cons.mpr ⟨lw_p16, List.forall_mem_cons.mpr ⟨lw_p17, List.forall_mem_cons.mpr ⟨lw_p18, List.forall_mem_cons.mpr ⟨lw_p19, List.forall_mem_cons.mpr ⟨lw_p20, List.forall_mem_cons.mpr ⟨lw_p21, List.forall_mem_cons.mpr ⟨lw_p22, List.forall_mem_cons.mpr ⟨lw_p23, List.forall_mem_cons.mpr ⟨lw_p24, List.forall_mem_cons.mpr ⟨lw_p25, List.forall_mem_cons.mpr ⟨lw_p26, List.forall_mem_cons.mpr ⟨lw_p27, List.forall_mem_cons.mpr ⟨lw_p28, List.forall_mem_cons.mpr ⟨lw_p29, List.forall_mem_cons.mpr ⟨lw_p30, List.forall_mem_cons.mpr ⟨lw_p31, fun _ h => absurd h List.not_mem_nil⟩⟩⟩⟩⟩⟩⟩⟩⟩⟩⟩⟩⟩⟩⟩⟩
theorem lw_p32 : lw_okq (⟨"NetShapesModel", "isBeside", "(II)Z"⟩, 25) := ⟨⟨by decide +kernel, by decide +kernel⟩, List.mem_of_getElem? (i := 653) (by decide +kernel), List.mem_of_getElem? (i := 857) (by decide +kernel), List.mem_of_getElem? (i := 858) (by decide +kernel)⟩
theorem lw_p33 : lw_okq (⟨"NetShapesModel", "maySwap", "(II)Z"⟩, 25) := ⟨⟨by decide +kernel, by decide +kernel⟩, List.mem_of_getElem? (i := 653) (by decide +kernel), List.mem_of_getElem? (i := 869) (by decide +kernel), List.mem_of_getElem? (i := 870) (by decide +kernel)⟩
theorem lw_p34 : lw_okq (⟨"NetShapesModel", "doSwap", "(II)V"⟩, 25) := ⟨⟨by decide +kernel, by decide +kernel⟩, List.mem_of_getElem? (i := 653) (by decide +kernel), List.mem_of_getElem? (i := 873) (by decide +kernel), List.mem_of_getElem? (i := 874) (by decide +kernel)⟩
theorem lw_p35 : lw_okq (⟨"NetShapesModel", "putLink", "(IZII)V"⟩, 25) := ⟨⟨by decide +kernel, by decide +kernel⟩, List.mem_of_getElem? (i := 653) (by decide +kernel), List.mem_of_getElem? (i := 877) (by decide +kernel), List.mem_of_getElem? (i := 878) (by decide +kernel)⟩
theorem lw_p36 : lw_okq (⟨"NetShapesModel", "links", "()I"⟩, 25) := ⟨⟨by decide +kernel, by decide +kernel⟩, List.mem_of_getElem? (i := 653) (by decide +kernel), List.mem_of_getElem? (i := 885) (by decide +kernel), List.mem_of_getElem? (i := 886) (by decide +kernel)⟩
theorem lw_p37 : lw_okq (⟨"NetShapesModel", "drawBelow", "(I)I"⟩, 25) := ⟨⟨by decide +kernel, by decide +kernel⟩, List.mem_of_getElem? (i := 653) (by decide +kernel), List.mem_of_getElem? (i := 889) (by decide +kernel), List.mem_of_getElem? (i := 890) (by decide +kernel)⟩
theorem lw_p38 : lw_okq (⟨"NetShapesModel", "findMean", "(I)V"⟩, 25) := ⟨⟨by decide +kernel, by decide +kernel⟩, List.mem_of_getElem? (i := 653) (by decide +kernel), List.mem_of_getElem? (i := 898) (by decide +kernel), List.mem_of_getElem? (i := 899) (by decide +kernel)⟩
theorem lw_p39 : lw_okq (⟨"NetShapesModel", "isAgainst", "(II)Z"⟩, 25) := ⟨⟨by decide +kernel, by decide +kernel⟩, List.mem_of_getElem? (i := 653) (by decide +kernel), List.mem_of_getElem? (i := 928) (by decide +kernel), List.mem_of_getElem? (i := 929) (by decide +kernel)⟩
theorem lw_p40 : lw_okq (⟨"NetShapesModel", "addWays", "(II)V"⟩, 25) := ⟨⟨by decide +kernel, by decide +kernel⟩, List.mem_of_getElem? (i := 653) (by decide +kernel), List.mem_of_getElem? (i := 940) (by decide +kernel), List.mem_of_getElem? (i := 941) (by decide +kernel)⟩
theorem lw_p41 : lw_okq (⟨"NetShapesModel", "load", "(I)V"⟩, 25) := ⟨⟨by decide +kernel, by decide +kernel⟩, List.mem_of_getElem? (i := 653) (by decide +kernel), List.mem_of_getElem? (i := 960) (by decide +kernel), List.mem_of_getElem? (i := 961) (by decide +kernel)⟩
def lw_privs_3 : List (MethodName × Nat) := [(⟨"NetShapesModel", "isBeside", "(II)Z"⟩, 25), (⟨"NetShapesModel", "maySwap", "(II)Z"⟩, 25), (⟨"NetShapesModel", "doSwap", "(II)V"⟩, 25), (⟨"NetShapesModel", "putLink", "(IZII)V"⟩, 25), (⟨"NetShapesModel", "links", "()I"⟩, 25), (⟨"NetShapesModel", "drawBelow", "(I)I"⟩, 25), (⟨"NetShapesModel", "findMean", "(I)V"⟩, 25), (⟨"NetShapesModel", "isAgainst", "(II)Z"⟩, 25), (⟨"NetShapesModel", "addWays", "(II)V"⟩, 25), (⟨"NetShapesModel", "load", "(I)V"⟩, 25)]
theorem lw_r3 : ∀ q ∈ lw_privs_3, lw_okq q := List.forall_mem_cons.mpr ⟨lw_p32, List.forall_mem_cons.mpr ⟨lw_p33, List.forall_mem_cons.mpr ⟨lw_p34, List.forall_mem_cons.mpr ⟨lw_p35, List.forall_mem_cons.mpr ⟨lw_p36, List.forall_mem_cons.mpr ⟨lw_p37, List.forall_mem_cons.mpr ⟨lw_p38, List.forall_mem_cons.mpr ⟨lw_p39, List.forall_mem_cons.mpr ⟨lw_p40, List.forall_mem_cons.mpr ⟨lw_p41, fun _ h => absurd h List.not_mem_nil⟩⟩⟩⟩⟩⟩⟩⟩⟩⟩
def lw_privs : List (MethodName × Nat) := lw_privs_1 ++ (lw_privs_2 ++ (lw_privs_3))
def lw_tbl : List Cond := k2_sels lw_privs ++ tables_1
theorem lw_privs_ok : ∀ q ∈ lw_privs, lw_okq q := by
  show ∀ q ∈ lw_privs_1 ++ (lw_privs_2 ++ (lw_privs_3)), lw_okq q
  exact List.forall_mem_append.mpr ⟨lw_r1, List.forall_mem_append.mpr ⟨lw_r2, lw_r3⟩⟩
end
section
def RX0 : String := "NetShapes$Census"
def TX0 : u_T := fun k => match k with
  | 0 => ("NetShapes$Census", "table", "LNetShapes$ShapeTable;", true)
  | 1 => ("NetShapes$Census", "postCounts", "[I", true)
  | 2 => ("NetShapes$Census", "roleOfPost", "[I", true)
  | _ => ("NetShapes$Census", "shapeCounts", "[I", true)
def tyX0 : Nat → FieldType := fun k => match k with
  | 0 => .object "NetShapes$ShapeTable"
  | 1 => .array .int
  | 2 => .array .int
  | _ => .array .int
theorem nmX0 : ∀ a, a < 4 → ∀ b, b < 4 → a ≠ b → (TX0 a).2.1 ≠ (TX0 b).2.1 := by decide +kernel
theorem tyX0_ok : ∀ k, k < 4 → parseFieldDescriptor (TX0 k).2.2.1 = some (tyX0 k) := by decide +kernel
abbrev cX0_init : ByteArray := prog_2_method_1_code
def yX0_init : MethodName := ⟨RX0, "<init>", "(LNetShapes$ShapeTable;)V"⟩
abbrev cX0_threesOf : ByteArray := prog_2_method_2_code
def yX0_threesOf : MethodName := ⟨RX0, "threesOf", "(LNetShapes$Net;II)I"⟩
abbrev cX0_difference : ByteArray := prog_2_method_3_code
def yX0_difference : MethodName := ⟨RX0, "difference", "(LNetShapes$Net;LNetShapes$Net;)I"⟩
abbrev cX0_addThrees : ByteArray := prog_2_method_4_code
def yX0_addThrees : MethodName := ⟨RX0, "addThrees", "(LNetShapes$Net;II)V"⟩
abbrev cX0_countByPosts : ByteArray := prog_2_method_5_code
def yX0_countByPosts : MethodName := ⟨RX0, "countByPosts", "(LNetShapes$Net;)V"⟩
abbrev cX0_addToPost : ByteArray := prog_2_method_6_code
def yX0_addToPost : MethodName := ⟨RX0, "addToPost", "(III)V"⟩
abbrev cX0_postCount : ByteArray := prog_2_method_7_code
def yX0_postCount : MethodName := ⟨RX0, "postCount", "(III)I"⟩
abbrev cX0_countIndex : ByteArray := prog_2_method_8_code
def yX0_countIndex : MethodName := ⟨RX0, "countIndex", "(III)I"⟩
abbrev cX0_findRoles : ByteArray := prog_2_method_9_code
def yX0_findRoles : MethodName := ⟨RX0, "findRoles", "(LNetShapes$Net;)I"⟩
abbrev cX0_firstAlike : ByteArray := prog_2_method_10_code
def yX0_firstAlike : MethodName := ⟨RX0, "firstAlike", "(I)I"⟩
abbrev cX0_alike : ByteArray := prog_2_method_11_code
def yX0_alike : MethodName := ⟨RX0, "alike", "(II)Z"⟩
abbrev cX0_clear : ByteArray := prog_2_method_12_code
def yX0_clear : MethodName := ⟨RX0, "clear", "([I)V"⟩
def RX1 : String := "NetShapes$Fours"
def TX1 : u_T := fun k => match k with
  | _ => ("", "", "", false)
def tyX1 : Nat → FieldType := fun k => match k with
  | _ => .int
theorem nmX1 : ∀ a, a < 0 → ∀ b, b < 0 → a ≠ b → (TX1 a).2.1 ≠ (TX1 b).2.1 := by decide +kernel
theorem tyX1_ok : ∀ k, k < 0 → parseFieldDescriptor (TX1 k).2.2.1 = some (tyX1 k) := by decide +kernel
abbrev cX1_ofKind : ByteArray := prog_3_method_2_code
def yX1_ofKind : MethodName := ⟨RX1, "ofKind", "(LNetShapes$Net;I)I"⟩
abbrev cX1_withTwo : ByteArray := prog_3_method_3_code
def yX1_withTwo : MethodName := ⟨RX1, "withTwo", "(LNetShapes$Net;III)I"⟩
abbrev cX1_kindOfFour : ByteArray := prog_3_method_4_code
def yX1_kindOfFour : MethodName := ⟨RX1, "kindOfFour", "(LNetShapes$Net;IIII)I"⟩
abbrev cX1_kindBy : ByteArray := prog_3_method_5_code
def yX1_kindBy : MethodName := ⟨RX1, "kindBy", "(III)I"⟩
def RX2 : String := "NetShapes$Fraction"
def TX2 : u_T := fun k => match k with
  | 0 => ("NetShapes$Fraction", "above", "J", false)
  | _ => ("NetShapes$Fraction", "below", "J", false)
def tyX2 : Nat → FieldType := fun k => match k with
  | 0 => .long
  | _ => .long
theorem nmX2 : ∀ a, a < 2 → ∀ b, b < 2 → a ≠ b → (TX2 a).2.1 ≠ (TX2 b).2.1 := by decide +kernel
theorem tyX2_ok : ∀ k, k < 2 → parseFieldDescriptor (TX2 k).2.2.1 = some (tyX2 k) := by decide +kernel
abbrev cX2_init : ByteArray := prog_4_method_1_code
def yX2_init : MethodName := ⟨RX2, "<init>", "()V"⟩
abbrev cX2_become : ByteArray := prog_4_method_2_code
def yX2_become : MethodName := ⟨RX2, "become", "(JJ)V"⟩
abbrev cX2_commonDivisor : ByteArray := prog_4_method_3_code
def yX2_commonDivisor : MethodName := ⟨RX2, "commonDivisor", "(JJ)J"⟩
def RX3 : String := "NetShapes$Lot"
def TX3 : u_T := fun k => match k with
  | _ => ("NetShapes$Lot", "seedNow", "I", false)
def tyX3 : Nat → FieldType := fun k => match k with
  | _ => .int
theorem nmX3 : ∀ a, a < 1 → ∀ b, b < 1 → a ≠ b → (TX3 a).2.1 ≠ (TX3 b).2.1 := by decide +kernel
theorem tyX3_ok : ∀ k, k < 1 → parseFieldDescriptor (TX3 k).2.2.1 = some (tyX3 k) := by decide +kernel
abbrev cX3_init : ByteArray := prog_5_method_1_code
def yX3_init : MethodName := ⟨RX3, "<init>", "()V"⟩
abbrev cX3_drawBelow : ByteArray := prog_5_method_2_code
def yX3_drawBelow : MethodName := ⟨RX3, "drawBelow", "(I)I"⟩
abbrev cX3_mixLinks : ByteArray := prog_5_method_3_code
def yX3_mixLinks : MethodName := ⟨RX3, "mixLinks", "(LNetShapes$Net;I)I"⟩
def RX4 : String := "NetShapes$Net"
def TX4 : u_T := fun k => match k with
  | 0 => ("NetShapes$Net", "size", "I", false)
  | 1 => ("NetShapes$Net", "out", "[I", true)
  | 2 => ("NetShapes$Net", "outAgainst", "[I", true)
  | _ => ("NetShapes$Net", "times", "[I", true)
def tyX4 : Nat → FieldType := fun k => match k with
  | 0 => .int
  | 1 => .array .int
  | 2 => .array .int
  | _ => .array .int
theorem nmX4 : ∀ a, a < 4 → ∀ b, b < 4 → a ≠ b → (TX4 a).2.1 ≠ (TX4 b).2.1 := by decide +kernel
theorem tyX4_ok : ∀ k, k < 4 → parseFieldDescriptor (TX4 k).2.2.1 = some (tyX4 k) := by decide +kernel
abbrev cX4_init : ByteArray := prog_6_method_1_code
def yX4_init : MethodName := ⟨RX4, "<init>", "(I)V"⟩
abbrev cX4_spot : ByteArray := prog_6_method_2_code
def yX4_spot : MethodName := ⟨RX4, "spot", "(II)I"⟩
abbrev cX4_fromOf : ByteArray := prog_6_method_3_code
def yX4_fromOf : MethodName := ⟨RX4, "fromOf", "(I)I"⟩
abbrev cX4_toOf : ByteArray := prog_6_method_4_code
def yX4_toOf : MethodName := ⟨RX4, "toOf", "(I)I"⟩
abbrev cX4_startAnew : ByteArray := prog_6_method_5_code
def yX4_startAnew : MethodName := ⟨RX4, "startAnew", "(I)V"⟩
abbrev cX4_becomeLike : ByteArray := prog_6_method_6_code
def yX4_becomeLike : MethodName := ⟨RX4, "becomeLike", "(LNetShapes$Net;)V"⟩
abbrev cX4_bit : ByteArray := prog_6_method_7_code
def yX4_bit : MethodName := ⟨RX4, "bit", "(II)I"⟩
abbrev cX4_has : ByteArray := prog_6_method_8_code
def yX4_has : MethodName := ⟨RX4, "has", "(II)Z"⟩
abbrev cX4_kindOf : ByteArray := prog_6_method_9_code
def yX4_kindOf : MethodName := ⟨RX4, "kindOf", "(II)I"⟩
abbrev cX4_timeOf : ByteArray := prog_6_method_10_code
def yX4_timeOf : MethodName := ⟨RX4, "timeOf", "(II)I"⟩
abbrev cX4_put : ByteArray := prog_6_method_11_code
def yX4_put : MethodName := ⟨RX4, "put", "(IIII)V"⟩
abbrev cX4_drop : ByteArray := prog_6_method_12_code
def yX4_drop : MethodName := ⟨RX4, "drop", "(II)V"⟩
abbrev cX4_everyPost : ByteArray := prog_6_method_13_code
def yX4_everyPost : MethodName := ⟨RX4, "everyPost", "()I"⟩
abbrev cX4_into : ByteArray := prog_6_method_14_code
def yX4_into : MethodName := ⟨RX4, "into", "(I)I"⟩
abbrev cX4_beside : ByteArray := prog_6_method_15_code
def yX4_beside : MethodName := ⟨RX4, "beside", "(I)I"⟩
abbrev cX4_opposed : ByteArray := prog_6_method_16_code
def yX4_opposed : MethodName := ⟨RX4, "opposed", "(I)I"⟩
abbrev cX4_besideBit : ByteArray := prog_6_method_17_code
def yX4_besideBit : MethodName := ⟨RX4, "besideBit", "(II)I"⟩
abbrev cX4_opposedBit : ByteArray := prog_6_method_18_code
def yX4_opposedBit : MethodName := ⟨RX4, "opposedBit", "(II)I"⟩
abbrev cX4_linkCount : ByteArray := prog_6_method_19_code
def yX4_linkCount : MethodName := ⟨RX4, "linkCount", "()I"⟩
abbrev cX4_againstCount : ByteArray := prog_6_method_20_code
def yX4_againstCount : MethodName := ⟨RX4, "againstCount", "()I"⟩
abbrev cX4_besideCount : ByteArray := prog_6_method_21_code
def yX4_besideCount : MethodName := ⟨RX4, "besideCount", "()I"⟩
abbrev cX4_codeOf : ByteArray := prog_6_method_22_code
def yX4_codeOf : MethodName := ⟨RX4, "codeOf", "(III)I"⟩
abbrev cX4_spotOf : ByteArray := prog_6_method_23_code
def yX4_spotOf : MethodName := ⟨RX4, "spotOf", "(I)I"⟩
abbrev cX4_setBit : ByteArray := prog_6_method_24_code
def yX4_setBit : MethodName := ⟨RX4, "setBit", "(II)I"⟩
abbrev cX4_exchange : ByteArray := prog_6_method_25_code
def yX4_exchange : MethodName := ⟨RX4, "exchange", "(II)Z"⟩
def RX5 : String := "NetShapes$ShapeTable"
def TX5 : u_T := fun k => match k with
  | 0 => ("NetShapes$ShapeTable", "shapeOfCode", "[I", true)
  | 1 => ("NetShapes$ShapeTable", "leastCode", "[I", true)
  | 2 => ("NetShapes$ShapeTable", "codeCount", "[I", true)
  | 3 => ("NetShapes$ShapeTable", "placeCount", "[I", true)
  | _ => ("NetShapes$ShapeTable", "placeInCode", "[I", true)
def tyX5 : Nat → FieldType := fun k => match k with
  | 0 => .array .int
  | 1 => .array .int
  | 2 => .array .int
  | 3 => .array .int
  | _ => .array .int
theorem nmX5 : ∀ a, a < 5 → ∀ b, b < 5 → a ≠ b → (TX5 a).2.1 ≠ (TX5 b).2.1 := by decide +kernel
theorem tyX5_ok : ∀ k, k < 5 → parseFieldDescriptor (TX5 k).2.2.1 = some (tyX5 k) := by decide +kernel
abbrev cX5_init : ByteArray := prog_7_method_1_code
def yX5_init : MethodName := ⟨RX5, "<init>", "()V"⟩
abbrev cX5_linkCount : ByteArray := prog_7_method_2_code
def yX5_linkCount : MethodName := ⟨RX5, "linkCount", "(I)I"⟩
abbrev cX5_placeOf : ByteArray := prog_7_method_3_code
def yX5_placeOf : MethodName := ⟨RX5, "placeOf", "(II)I"⟩
abbrev cX5_leastOf : ByteArray := prog_7_method_4_code
def yX5_leastOf : MethodName := ⟨RX5, "leastOf", "(I)I"⟩
abbrev cX5_setPlaces : ByteArray := prog_7_method_5_code
def yX5_setPlaces : MethodName := ⟨RX5, "setPlaces", "(II)V"⟩
abbrev cX5_placesIn : ByteArray := prog_7_method_6_code
def yX5_placesIn : MethodName := ⟨RX5, "placesIn", "(I)I"⟩
abbrev cX5_reordered : ByteArray := prog_7_method_7_code
def yX5_reordered : MethodName := ⟨RX5, "reordered", "(II)I"⟩
abbrev cX5_codeBit : ByteArray := prog_7_method_8_code
def yX5_codeBit : MethodName := ⟨RX5, "codeBit", "(II)I"⟩
def RX6 : String := "NetShapes$SideSearch"
def TX6 : u_T := fun k => match k with
  | 0 => ("NetShapes$SideSearch", "beside", "[I", true)
  | 1 => ("NetShapes$SideSearch", "opposed", "[I", true)
  | 2 => ("NetShapes$SideSearch", "leastTurned", "I", false)
  | _ => ("NetShapes$SideSearch", "leastSet", "I", false)
def tyX6 : Nat → FieldType := fun k => match k with
  | 0 => .array .int
  | 1 => .array .int
  | 2 => .int
  | _ => .int
theorem nmX6 : ∀ a, a < 4 → ∀ b, b < 4 → a ≠ b → (TX6 a).2.1 ≠ (TX6 b).2.1 := by decide +kernel
theorem tyX6_ok : ∀ k, k < 4 → parseFieldDescriptor (TX6 k).2.2.1 = some (tyX6 k) := by decide +kernel
abbrev cX6_init : ByteArray := prog_8_method_1_code
def yX6_init : MethodName := ⟨RX6, "<init>", "()V"⟩
abbrev cX6_tryAll : ByteArray := prog_8_method_2_code
def yX6_tryAll : MethodName := ⟨RX6, "tryAll", "(LNetShapes$Net;)V"⟩
abbrev cX6_readTwos : ByteArray := prog_8_method_3_code
def yX6_readTwos : MethodName := ⟨RX6, "readTwos", "(LNetShapes$Net;)I"⟩
abbrev cX6_lowestBit : ByteArray := prog_8_method_4_code
def yX6_lowestBit : MethodName := ⟨RX6, "lowestBit", "(I)I"⟩
abbrev cX6_changeIfMoved : ByteArray := prog_8_method_5_code
def yX6_changeIfMoved : MethodName := ⟨RX6, "changeIfMoved", "(II)I"⟩
def RX7 : String := "NetShapes$Signs"
def TX7 : u_T := fun k => match k with
  | _ => ("", "", "", false)
def tyX7 : Nat → FieldType := fun k => match k with
  | _ => .int
theorem nmX7 : ∀ a, a < 0 → ∀ b, b < 0 → a ≠ b → (TX7 a).2.1 ≠ (TX7 b).2.1 := by decide +kernel
theorem tyX7_ok : ∀ k, k < 0 → parseFieldDescriptor (TX7 k).2.2.1 = some (tyX7 k) := by decide +kernel
abbrev cX7_closedThrees : ByteArray := prog_9_method_2_code
def yX7_closedThrees : MethodName := ⟨RX7, "closedThrees", "(LNetShapes$Net;Z)I"⟩
abbrev cX7_isClosed : ByteArray := prog_9_method_3_code
def yX7_isClosed : MethodName := ⟨RX7, "isClosed", "(LNetShapes$Net;III)Z"⟩
abbrev cX7_quarrels : ByteArray := prog_9_method_4_code
def yX7_quarrels : MethodName := ⟨RX7, "quarrels", "(LNetShapes$Net;III)Z"⟩
def RX8 : String := "NetShapes$Times"
def TX8 : u_T := fun k => match k with
  | _ => ("", "", "", false)
def tyX8 : Nat → FieldType := fun k => match k with
  | _ => .int
theorem nmX8 : ∀ a, a < 0 → ∀ b, b < 0 → a ≠ b → (TX8 a).2.1 ≠ (TX8 b).2.1 := by decide +kernel
theorem tyX8_ok : ∀ k, k < 0 → parseFieldDescriptor (TX8 k).2.2.1 = some (tyX8 k) := by decide +kernel
abbrev cX8_backChains : ByteArray := prog_10_method_2_code
def yX8_backChains : MethodName := ⟨RX8, "backChains", "(LNetShapes$Net;I)I"⟩
abbrev cX8_onChains : ByteArray := prog_10_method_3_code
def yX8_onChains : MethodName := ⟨RX8, "onChains", "(LNetShapes$Net;I)I"⟩
abbrev cX8_isChain : ByteArray := prog_10_method_4_code
def yX8_isChain : MethodName := ⟨RX8, "isChain", "(LNetShapes$Net;IIII)Z"⟩
abbrev cX8_longestBurst : ByteArray := prog_10_method_5_code
def yX8_longestBurst : MethodName := ⟨RX8, "longestBurst", "(LNetShapes$Net;II)I"⟩
abbrev cX8_linksFrom : ByteArray := prog_10_method_6_code
def yX8_linksFrom : MethodName := ⟨RX8, "linksFrom", "(LNetShapes$Net;III)I"⟩
def RX9 : String := "NetShapes$WalkRows"
def TX9 : u_T := fun k => match k with
  | 0 => ("NetShapes$WalkRows", "now", "[J", false)
  | _ => ("NetShapes$WalkRows", "before", "[J", false)
def tyX9 : Nat → FieldType := fun k => match k with
  | 0 => .array .long
  | _ => .array .long
theorem nmX9 : ∀ a, a < 2 → ∀ b, b < 2 → a ≠ b → (TX9 a).2.1 ≠ (TX9 b).2.1 := by decide +kernel
theorem tyX9_ok : ∀ k, k < 2 → parseFieldDescriptor (TX9 k).2.2.1 = some (tyX9 k) := by decide +kernel
abbrev cX9_init : ByteArray := prog_11_method_1_code
def yX9_init : MethodName := ⟨RX9, "<init>", "()V"⟩
abbrev cX9_countFrom : ByteArray := prog_11_method_2_code
def yX9_countFrom : MethodName := ⟨RX9, "countFrom", "(LNetShapes$Net;II)V"⟩
abbrev cX9_goOn : ByteArray := prog_11_method_3_code
def yX9_goOn : MethodName := ⟨RX9, "goOn", "(LNetShapes$Net;)V"⟩
abbrev cX9_sumOf : ByteArray := prog_11_method_4_code
def yX9_sumOf : MethodName := ⟨RX9, "sumOf", "(III)J"⟩
abbrev cX9_partsOf : ByteArray := prog_11_method_5_code
def yX9_partsOf : MethodName := ⟨RX9, "partsOf", "(I)I"⟩
abbrev cX9_partOf : ByteArray := prog_11_method_6_code
def yX9_partOf : MethodName := ⟨RX9, "partOf", "(II)I"⟩
def RX10 : String := "NetShapes"
def TX10 : u_T := fun k => match k with
  | 0 => ("NetShapes", "net", "LNetShapes$Net;", true)
  | 1 => ("NetShapes", "sheets", "[LNetShapes$Net;", true)
  | 2 => ("NetShapes", "held", "[Z", true)
  | 3 => ("NetShapes", "refusals", "[I", true)
  | 4 => ("NetShapes", "census", "LNetShapes$Census;", true)
  | 5 => ("NetShapes", "fraction", "LNetShapes$Fraction;", true)
  | 6 => ("NetShapes", "lot", "LNetShapes$Lot;", true)
  | 7 => ("NetShapes", "sideSearch", "LNetShapes$SideSearch;", true)
  | _ => ("NetShapes", "walkRows", "LNetShapes$WalkRows;", true)
def tyX10 : Nat → FieldType := fun k => match k with
  | 0 => .object "NetShapes$Net"
  | 1 => .array (.object "NetShapes$Net")
  | 2 => .array .boolean
  | 3 => .array .int
  | 4 => .object "NetShapes$Census"
  | 5 => .object "NetShapes$Fraction"
  | 6 => .object "NetShapes$Lot"
  | 7 => .object "NetShapes$SideSearch"
  | _ => .object "NetShapes$WalkRows"
theorem nmX10 : ∀ a, a < 9 → ∀ b, b < 9 → a ≠ b → (TX10 a).2.1 ≠ (TX10 b).2.1 := by decide +kernel
theorem tyX10_ok : ∀ k, k < 9 → parseFieldDescriptor (TX10 k).2.2.1 = some (tyX10 k) := by decide +kernel
abbrev cX10_init : ByteArray := prog_1_method_1_code
def yX10_init : MethodName := ⟨RX10, "<init>", "()V"⟩
abbrev cX10_posts : ByteArray := prog_1_method_2_code
def yX10_posts : MethodName := ⟨RX10, "posts", "(I)I"⟩
abbrev cX10_link : ByteArray := prog_1_method_3_code
def yX10_link : MethodName := ⟨RX10, "link", "(IIII)I"⟩
abbrev cX10_cut : ByteArray := prog_1_method_4_code
def yX10_cut : MethodName := ⟨RX10, "cut", "(II)I"⟩
abbrev cX10_linkOf : ByteArray := prog_1_method_5_code
def yX10_linkOf : MethodName := ⟨RX10, "linkOf", "(III)I"⟩
abbrev cX10_at : ByteArray := prog_1_method_6_code
def yX10_at : MethodName := ⟨RX10, "at", "(II)I"⟩
abbrev cX10_shape : ByteArray := prog_1_method_7_code
def yX10_shape : MethodName := ⟨RX10, "shape", "(III)I"⟩
abbrev cX10_shapeOf : ByteArray := prog_1_method_8_code
def yX10_shapeOf : MethodName := ⟨RX10, "shapeOf", "(II)I"⟩
abbrev cX10_place : ByteArray := prog_1_method_9_code
def yX10_place : MethodName := ⟨RX10, "place", "(III)I"⟩
abbrev cX10_count : ByteArray := prog_1_method_10_code
def yX10_count : MethodName := ⟨RX10, "count", "(I)I"⟩
abbrev cX10_countOf : ByteArray := prog_1_method_11_code
def yX10_countOf : MethodName := ⟨RX10, "countOf", "(III)I"⟩
abbrev cX10_role : ByteArray := prog_1_method_12_code
def yX10_role : MethodName := ⟨RX10, "role", "(I)I"⟩
abbrev cX10_roles : ByteArray := prog_1_method_13_code
def yX10_roles : MethodName := ⟨RX10, "roles", "()I"⟩
abbrev cX10_fours : ByteArray := prog_1_method_14_code
def yX10_fours : MethodName := ⟨RX10, "fours", "(I)I"⟩
abbrev cX10_seed : ByteArray := prog_1_method_15_code
def yX10_seed : MethodName := ⟨RX10, "seed", "(I)I"⟩
abbrev cX10_swap : ByteArray := prog_1_method_16_code
def yX10_swap : MethodName := ⟨RX10, "swap", "(II)I"⟩
abbrev cX10_mix : ByteArray := prog_1_method_17_code
def yX10_mix : MethodName := ⟨RX10, "mix", "(I)I"⟩
abbrev cX10_mean : ByteArray := prog_1_method_18_code
def yX10_mean : MethodName := ⟨RX10, "mean", "(II)J"⟩
abbrev cX10_more : ByteArray := prog_1_method_19_code
def yX10_more : MethodName := ⟨RX10, "more", "(I)I"⟩
abbrev cX10_chains : ByteArray := prog_1_method_20_code
def yX10_chains : MethodName := ⟨RX10, "chains", "(II)I"⟩
abbrev cX10_burst : ByteArray := prog_1_method_21_code
def yX10_burst : MethodName := ⟨RX10, "burst", "(II)I"⟩
abbrev cX10_signs : ByteArray := prog_1_method_22_code
def yX10_signs : MethodName := ⟨RX10, "signs", "(I)I"⟩
abbrev cX10_sides : ByteArray := prog_1_method_23_code
def yX10_sides : MethodName := ⟨RX10, "sides", "(I)I"⟩
abbrev cX10_walks : ByteArray := prog_1_method_24_code
def yX10_walks : MethodName := ⟨RX10, "walks", "(IIII)I"⟩
abbrev cX10_sample : ByteArray := prog_1_method_25_code
def yX10_sample : MethodName := ⟨RX10, "sample", "(III)I"⟩
abbrev cX10_keep : ByteArray := prog_1_method_26_code
def yX10_keep : MethodName := ⟨RX10, "keep", "(I)I"⟩
abbrev cX10_take : ByteArray := prog_1_method_27_code
def yX10_take : MethodName := ⟨RX10, "take", "(I)I"⟩
abbrev cX10_lose : ByteArray := prog_1_method_28_code
def yX10_lose : MethodName := ⟨RX10, "lose", "(I)I"⟩
abbrev cX10_far : ByteArray := prog_1_method_29_code
def yX10_far : MethodName := ⟨RX10, "far", "(I)I"⟩
abbrev cX10_status : ByteArray := prog_1_method_30_code
def yX10_status : MethodName := ⟨RX10, "status", "(I)I"⟩
abbrev cX10_refuse : ByteArray := prog_1_method_31_code
def yX10_refuse : MethodName := ⟨RX10, "refuse", "(I)I"⟩
abbrev cX10_refusalCount : ByteArray := prog_1_method_32_code
def yX10_refusalCount : MethodName := ⟨RX10, "refusalCount", "(I)I"⟩
abbrev cX10_isPost : ByteArray := prog_1_method_33_code
def yX10_isPost : MethodName := ⟨RX10, "isPost", "(I)Z"⟩
abbrev cX10_isTwo : ByteArray := prog_1_method_34_code
def yX10_isTwo : MethodName := ⟨RX10, "isTwo", "(II)Z"⟩
abbrev cX10_isThree : ByteArray := prog_1_method_35_code
def yX10_isThree : MethodName := ⟨RX10, "isThree", "(III)Z"⟩
abbrev cX10_isLink : ByteArray := prog_1_method_36_code
def yX10_isLink : MethodName := ⟨RX10, "isLink", "(I)Z"⟩
abbrev cX10_isShape : ByteArray := prog_1_method_37_code
def yX10_isShape : MethodName := ⟨RX10, "isShape", "(I)Z"⟩
abbrev cX10_isSheet : ByteArray := prog_1_method_38_code
def yX10_isSheet : MethodName := ⟨RX10, "isSheet", "(I)Z"⟩
abbrev cX10_heldCount : ByteArray := prog_1_method_39_code
def yX10_heldCount : MethodName := ⟨RX10, "heldCount", "()I"⟩
abbrev cX10_threesAmong : ByteArray := prog_1_method_40_code
def yX10_threesAmong : MethodName := ⟨RX10, "threesAmong", "(I)J"⟩
abbrev cX10_findMean : ByteArray := prog_1_method_41_code
def yX10_findMean : MethodName := ⟨RX10, "findMean", "(I)V"⟩
abbrev cX10_factorsDown : ByteArray := prog_1_method_42_code
def yX10_factorsDown : MethodName := ⟨RX10, "factorsDown", "(II)J"⟩
def RX11 : String := "NetShapesModel"
def TX11 : u_T := fun k => match k with
  | 0 => ("NetShapesModel", "n", "I", false)
  | 1 => ("NetShapesModel", "is", "[Z", true)
  | 2 => ("NetShapesModel", "kind", "[I", true)
  | 3 => ("NetShapesModel", "time", "[I", true)
  | 4 => ("NetShapesModel", "seed", "I", false)
  | 5 => ("NetShapesModel", "sheetN", "[I", true)
  | 6 => ("NetShapesModel", "sheetIs", "[Z", true)
  | 7 => ("NetShapesModel", "sheetKind", "[I", true)
  | 8 => ("NetShapesModel", "sheetTime", "[I", true)
  | 9 => ("NetShapesModel", "refused", "[I", true)
  | 10 => ("NetShapesModel", "leastOf", "[I", true)
  | 11 => ("NetShapesModel", "shapeCode", "[I", true)
  | 12 => ("NetShapesModel", "shapeNumber", "[I", true)
  | 13 => ("NetShapesModel", "counts", "[I", true)
  | 14 => ("NetShapesModel", "roleOf", "[I", true)
  | 15 => ("NetShapesModel", "four", "[I", true)
  | 16 => ("NetShapesModel", "above", "J", false)
  | 17 => ("NetShapesModel", "below", "J", false)
  | 18 => ("NetShapesModel", "twoA", "[I", true)
  | 19 => ("NetShapesModel", "twoB", "[I", true)
  | 20 => ("NetShapesModel", "twoSign", "[I", true)
  | 21 => ("NetShapesModel", "ways", "[J", true)
  | 22 => ("NetShapesModel", "then", "[J", true)
  | 23 => ("NetShapesModel", "wasIs", "[Z", true)
  | _ => ("NetShapesModel", "wasCount", "[I", true)
def tyX11 : Nat → FieldType := fun k => match k with
  | 0 => .int
  | 1 => .array .boolean
  | 2 => .array .int
  | 3 => .array .int
  | 4 => .int
  | 5 => .array .int
  | 6 => .array .boolean
  | 7 => .array .int
  | 8 => .array .int
  | 9 => .array .int
  | 10 => .array .int
  | 11 => .array .int
  | 12 => .array .int
  | 13 => .array .int
  | 14 => .array .int
  | 15 => .array .int
  | 16 => .long
  | 17 => .long
  | 18 => .array .int
  | 19 => .array .int
  | 20 => .array .int
  | 21 => .array .long
  | 22 => .array .long
  | 23 => .array .boolean
  | _ => .array .int
theorem nmX11 : ∀ a, a < 25 → ∀ b, b < 25 → a ≠ b → (TX11 a).2.1 ≠ (TX11 b).2.1 := by decide +kernel
theorem tyX11_ok : ∀ k, k < 25 → parseFieldDescriptor (TX11 k).2.2.1 = some (tyX11 k) := by decide +kernel
abbrev cX11_init : ByteArray := prog_13_method_1_code
def yX11_init : MethodName := ⟨RX11, "<init>", "()V"⟩
abbrev cX11_in : ByteArray := prog_13_method_3_code
def yX11_in : MethodName := ⟨RX11, "in", "(III)Z"⟩
abbrev cX11_refuse : ByteArray := prog_13_method_4_code
def yX11_refuse : MethodName := ⟨RX11, "refuse", "(I)I"⟩
abbrev cX11_isPost : ByteArray := prog_13_method_5_code
def yX11_isPost : MethodName := ⟨RX11, "isPost", "(I)Z"⟩
abbrev cX11_isShape : ByteArray := prog_13_method_6_code
def yX11_isShape : MethodName := ⟨RX11, "isShape", "(I)Z"⟩
abbrev cX11_atOrder : ByteArray := prog_13_method_7_code
def yX11_atOrder : MethodName := ⟨RX11, "atOrder", "(II)I"⟩
abbrev cX11_bit : ByteArray := prog_13_method_8_code
def yX11_bit : MethodName := ⟨RX11, "bit", "(II)I"⟩
abbrev cX11_inOrder : ByteArray := prog_13_method_9_code
def yX11_inOrder : MethodName := ⟨RX11, "inOrder", "(II)I"⟩
abbrev cX11_has : ByteArray := prog_13_method_10_code
def yX11_has : MethodName := ⟨RX11, "has", "(II)Z"⟩
abbrev cX11_codeOf : ByteArray := prog_13_method_11_code
def yX11_codeOf : MethodName := ⟨RX11, "codeOf", "(III)I"⟩
abbrev cX11_shapeOfThree : ByteArray := prog_13_method_12_code
def yX11_shapeOfThree : MethodName := ⟨RX11, "shapeOfThree", "(III)I"⟩
abbrev cX11_placeIn : ByteArray := prog_13_method_13_code
def yX11_placeIn : MethodName := ⟨RX11, "placeIn", "(II)I"⟩
abbrev cX11_ones : ByteArray := prog_13_method_14_code
def yX11_ones : MethodName := ⟨RX11, "ones", "(I)I"⟩
abbrev cX11_posts : ByteArray := prog_13_method_15_code
def yX11_posts : MethodName := ⟨RX11, "posts", "(I)I"⟩
abbrev cX11_isTwo : ByteArray := prog_13_method_16_code
def yX11_isTwo : MethodName := ⟨RX11, "isTwo", "(II)Z"⟩
abbrev cX11_link : ByteArray := prog_13_method_17_code
def yX11_link : MethodName := ⟨RX11, "link", "(IIII)I"⟩
abbrev cX11_cut : ByteArray := prog_13_method_18_code
def yX11_cut : MethodName := ⟨RX11, "cut", "(II)I"⟩
abbrev cX11_linkOf : ByteArray := prog_13_method_19_code
def yX11_linkOf : MethodName := ⟨RX11, "linkOf", "(III)I"⟩
abbrev cX11_links : ByteArray := prog_13_method_20_code
def yX11_links : MethodName := ⟨RX11, "links", "()I"⟩
abbrev cX11_linkAt : ByteArray := prog_13_method_21_code
def yX11_linkAt : MethodName := ⟨RX11, "linkAt", "(I)I"⟩
abbrev cX11_at : ByteArray := prog_13_method_22_code
def yX11_at : MethodName := ⟨RX11, "at", "(II)I"⟩
abbrev cX11_areThree : ByteArray := prog_13_method_23_code
def yX11_areThree : MethodName := ⟨RX11, "areThree", "(III)Z"⟩
abbrev cX11_shape : ByteArray := prog_13_method_24_code
def yX11_shape : MethodName := ⟨RX11, "shape", "(III)I"⟩
abbrev cX11_shapeOf : ByteArray := prog_13_method_25_code
def yX11_shapeOf : MethodName := ⟨RX11, "shapeOf", "(II)I"⟩
abbrev cX11_place : ByteArray := prog_13_method_26_code
def yX11_place : MethodName := ⟨RX11, "place", "(III)I"⟩
abbrev cX11_countShape : ByteArray := prog_13_method_27_code
def yX11_countShape : MethodName := ⟨RX11, "countShape", "(I)I"⟩
abbrev cX11_count : ByteArray := prog_13_method_28_code
def yX11_count : MethodName := ⟨RX11, "count", "(I)I"⟩
abbrev cX11_findCounts : ByteArray := prog_13_method_29_code
def yX11_findCounts : MethodName := ⟨RX11, "findCounts", "()V"⟩
abbrev cX11_countOf : ByteArray := prog_13_method_30_code
def yX11_countOf : MethodName := ⟨RX11, "countOf", "(III)I"⟩
abbrev cX11_findRoles : ByteArray := prog_13_method_31_code
def yX11_findRoles : MethodName := ⟨RX11, "findRoles", "()I"⟩
abbrev cX11_role : ByteArray := prog_13_method_32_code
def yX11_role : MethodName := ⟨RX11, "role", "(I)I"⟩
abbrev cX11_roles : ByteArray := prog_13_method_33_code
def yX11_roles : MethodName := ⟨RX11, "roles", "()I"⟩
abbrev cX11_isBeside : ByteArray := prog_13_method_34_code
def yX11_isBeside : MethodName := ⟨RX11, "isBeside", "(II)Z"⟩
abbrev cX11_kindOfFour : ByteArray := prog_13_method_35_code
def yX11_kindOfFour : MethodName := ⟨RX11, "kindOfFour", "()I"⟩
abbrev cX11_fours : ByteArray := prog_13_method_36_code
def yX11_fours : MethodName := ⟨RX11, "fours", "(I)I"⟩
abbrev cX11_seed : ByteArray := prog_13_method_37_code
def yX11_seed : MethodName := ⟨RX11, "seed", "(I)I"⟩
abbrev cX11_drawBelow : ByteArray := prog_13_method_38_code
def yX11_drawBelow : MethodName := ⟨RX11, "drawBelow", "(I)I"⟩
abbrev cX11_putLink : ByteArray := prog_13_method_39_code
def yX11_putLink : MethodName := ⟨RX11, "putLink", "(IZII)V"⟩
abbrev cX11_maySwap : ByteArray := prog_13_method_40_code
def yX11_maySwap : MethodName := ⟨RX11, "maySwap", "(II)Z"⟩
abbrev cX11_doSwap : ByteArray := prog_13_method_41_code
def yX11_doSwap : MethodName := ⟨RX11, "doSwap", "(II)V"⟩
abbrev cX11_swap : ByteArray := prog_13_method_42_code
def yX11_swap : MethodName := ⟨RX11, "swap", "(II)I"⟩
abbrev cX11_mix : ByteArray := prog_13_method_43_code
def yX11_mix : MethodName := ⟨RX11, "mix", "(I)I"⟩
abbrev cX11_divisor : ByteArray := prog_13_method_44_code
def yX11_divisor : MethodName := ⟨RX11, "divisor", "(JJ)J"⟩
abbrev cX11_fall : ByteArray := prog_13_method_45_code
def yX11_fall : MethodName := ⟨RX11, "fall", "(II)J"⟩
abbrev cX11_threes : ByteArray := prog_13_method_46_code
def yX11_threes : MethodName := ⟨RX11, "threes", "(I)I"⟩
abbrev cX11_findMean : ByteArray := prog_13_method_47_code
def yX11_findMean : MethodName := ⟨RX11, "findMean", "(I)V"⟩
abbrev cX11_mean : ByteArray := prog_13_method_48_code
def yX11_mean : MethodName := ⟨RX11, "mean", "(II)J"⟩
abbrev cX11_more : ByteArray := prog_13_method_49_code
def yX11_more : MethodName := ⟨RX11, "more", "(I)I"⟩
abbrev cX11_chains : ByteArray := prog_13_method_50_code
def yX11_chains : MethodName := ⟨RX11, "chains", "(II)I"⟩
abbrev cX11_burst : ByteArray := prog_13_method_51_code
def yX11_burst : MethodName := ⟨RX11, "burst", "(II)I"⟩
abbrev cX11_isAgainst : ByteArray := prog_13_method_52_code
def yX11_isAgainst : MethodName := ⟨RX11, "isAgainst", "(II)Z"⟩
abbrev cX11_signs : ByteArray := prog_13_method_53_code
def yX11_signs : MethodName := ⟨RX11, "signs", "(I)I"⟩
abbrev cX11_sides : ByteArray := prog_13_method_54_code
def yX11_sides : MethodName := ⟨RX11, "sides", "(I)I"⟩
abbrev cX11_addWays : ByteArray := prog_13_method_55_code
def yX11_addWays : MethodName := ⟨RX11, "addWays", "(II)V"⟩
abbrev cX11_walks : ByteArray := prog_13_method_56_code
def yX11_walks : MethodName := ⟨RX11, "walks", "(IIII)I"⟩
abbrev cX11_sample : ByteArray := prog_13_method_57_code
def yX11_sample : MethodName := ⟨RX11, "sample", "(III)I"⟩
abbrev cX11_isSheet : ByteArray := prog_13_method_58_code
def yX11_isSheet : MethodName := ⟨RX11, "isSheet", "(I)Z"⟩
abbrev cX11_keep : ByteArray := prog_13_method_59_code
def yX11_keep : MethodName := ⟨RX11, "keep", "(I)I"⟩
abbrev cX11_load : ByteArray := prog_13_method_60_code
def yX11_load : MethodName := ⟨RX11, "load", "(I)V"⟩
abbrev cX11_take : ByteArray := prog_13_method_61_code
def yX11_take : MethodName := ⟨RX11, "take", "(I)I"⟩
abbrev cX11_lose : ByteArray := prog_13_method_62_code
def yX11_lose : MethodName := ⟨RX11, "lose", "(I)I"⟩
abbrev cX11_far : ByteArray := prog_13_method_63_code
def yX11_far : MethodName := ⟨RX11, "far", "(I)I"⟩
abbrev cX11_status : ByteArray := prog_13_method_64_code
def yX11_status : MethodName := ⟨RX11, "status", "(I)I"⟩
def RJ6 : String := "java/lang/Integer"
def TJ6 : u_T := fun k => match k with
  | _ => ("", "", "", false)
def tyJ6 : Nat → FieldType := fun k => match k with
  | _ => .int
theorem nmJ6 : ∀ a, a < 0 → ∀ b, b < 0 → a ≠ b → (TJ6 a).2.1 ≠ (TJ6 b).2.1 := by decide +kernel
theorem tyJ6_ok : ∀ k, k < 0 → parseFieldDescriptor (TJ6 k).2.2.1 = some (tyJ6 k) := by decide +kernel
abbrev cJ6_bitCount_0f7a4 : ByteArray := prog_14_method_49_code
def yJ6_bitCount_0f7a4 : MethodName := ⟨RJ6, "bitCount", "(I)I"⟩
def RJ13 : String := "java/lang/Long"
def TJ13 : u_T := fun k => match k with
  | _ => ("", "", "", false)
def tyJ13 : Nat → FieldType := fun k => match k with
  | _ => .int
theorem nmJ13 : ∀ a, a < 0 → ∀ b, b < 0 → a ≠ b → (TJ13 a).2.1 ≠ (TJ13 b).2.1 := by decide +kernel
theorem tyJ13_ok : ∀ k, k < 0 → parseFieldDescriptor (TJ13 k).2.2.1 = some (tyJ13 k) := by decide +kernel
abbrev cJ13_compare_74951 : ByteArray := prog_15_method_42_code
def yJ13_compare_74951 : MethodName := ⟨RJ13, "compare", "(JJ)I"⟩
def RJ9 : String := "java/lang/Math"
def TJ9 : u_T := fun k => match k with
  | _ => ("", "", "", false)
def tyJ9 : Nat → FieldType := fun k => match k with
  | _ => .int
theorem nmJ9 : ∀ a, a < 0 → ∀ b, b < 0 → a ≠ b → (TJ9 a).2.1 ≠ (TJ9 b).2.1 := by decide +kernel
theorem tyJ9_ok : ∀ k, k < 0 → parseFieldDescriptor (TJ9 k).2.2.1 = some (tyJ9 k) := by decide +kernel
abbrev cJ9_abs_0f7a4 : ByteArray := prog_16_method_59_code
def yJ9_abs_0f7a4 : MethodName := ⟨RJ9, "abs", "(I)I"⟩
abbrev cJ9_max_7cf53 : ByteArray := prog_16_method_65_code
def yJ9_max_7cf53 : MethodName := ⟨RJ9, "max", "(II)I"⟩
abbrev cJ9_min_7cf53 : ByteArray := prog_16_method_69_code
def yJ9_min_7cf53 : MethodName := ⟨RJ9, "min", "(II)I"⟩
def RJ10 : String := "java/lang/System"
def TJ10 : u_T := fun k => match k with
  | _ => ("", "", "", false)
def tyJ10 : Nat → FieldType := fun k => match k with
  | _ => .int
theorem nmJ10 : ∀ a, a < 0 → ∀ b, b < 0 → a ≠ b → (TJ10 a).2.1 ≠ (TJ10 b).2.1 := by decide +kernel
theorem tyJ10_ok : ∀ k, k < 0 → parseFieldDescriptor (TJ10 k).2.2.1 = some (tyJ10 k) := by decide +kernel
def RL : String := "NetShapesLaw"
abbrev cL_law : ByteArray := code
def yL_law : MethodName := ⟨RL, "law", "([I)Z"⟩
end
section
theorem dX0_init_0 : decode cX0_init 0 = .ok (.aload_n 0, 1) := by decide +kernel
theorem dX0_init_1 : decode cX0_init 1 = .ok (.invokespecial 3, 3) := by decide +kernel
theorem dX0_init_4 : decode cX0_init 4 = .ok (.aload_n 0, 1) := by decide +kernel
theorem dX0_init_5 : decode cX0_init 5 = .ok (.sipush 768, 3) := by decide +kernel
theorem dX0_init_8 : decode cX0_init 8 = .ok (.newarray .int, 2) := by decide +kernel
theorem dX0_init_10 : decode cX0_init 10 = .ok (.putfield 11, 3) := by decide +kernel
theorem dX0_init_13 : decode cX0_init 13 = .ok (.aload_n 0, 1) := by decide +kernel
theorem dX0_init_14 : decode cX0_init 14 = .ok (.bipush 16, 2) := by decide +kernel
theorem dX0_init_16 : decode cX0_init 16 = .ok (.newarray .int, 2) := by decide +kernel
theorem dX0_init_18 : decode cX0_init 18 = .ok (.putfield 15, 3) := by decide +kernel
theorem dX0_init_21 : decode cX0_init 21 = .ok (.aload_n 0, 1) := by decide +kernel
theorem dX0_init_22 : decode cX0_init 22 = .ok (.bipush 16, 2) := by decide +kernel
theorem dX0_init_24 : decode cX0_init 24 = .ok (.newarray .int, 2) := by decide +kernel
theorem dX0_init_26 : decode cX0_init 26 = .ok (.putfield 18, 3) := by decide +kernel
theorem dX0_init_29 : decode cX0_init 29 = .ok (.aload_n 0, 1) := by decide +kernel
theorem dX0_init_30 : decode cX0_init 30 = .ok (.aload_n 1, 1) := by decide +kernel
theorem dX0_init_31 : decode cX0_init 31 = .ok (.putfield 21, 3) := by decide +kernel
theorem dX0_init_34 : decode cX0_init 34 = .ok (.return_, 1) := by decide +kernel
theorem dX0_threesOf_0 : decode cX0_threesOf 0 = .ok (.aload_n 0, 1) := by decide +kernel
theorem dX0_threesOf_1 : decode cX0_threesOf 1 = .ok (.getfield 18, 3) := by decide +kernel
theorem dX0_threesOf_4 : decode cX0_threesOf 4 = .ok (.invokestatic 25, 3) := by decide +kernel
theorem dX0_threesOf_7 : decode cX0_threesOf 7 = .ok (.aload_n 0, 1) := by decide +kernel
theorem dX0_threesOf_8 : decode cX0_threesOf 8 = .ok (.aload_n 1, 1) := by decide +kernel
theorem dX0_threesOf_9 : decode cX0_threesOf 9 = .ok (.iload_n 3, 1) := by decide +kernel
theorem dX0_threesOf_10 : decode cX0_threesOf 10 = .ok (.iconst 1, 1) := by decide +kernel
theorem dX0_threesOf_11 : decode cX0_threesOf 11 = .ok (.invokevirtual 29, 3) := by decide +kernel
theorem dX0_threesOf_14 : decode cX0_threesOf 14 = .ok (.aload_n 0, 1) := by decide +kernel
theorem dX0_threesOf_15 : decode cX0_threesOf 15 = .ok (.getfield 18, 3) := by decide +kernel
theorem dX0_threesOf_18 : decode cX0_threesOf 18 = .ok (.iload_n 2, 1) := by decide +kernel
theorem dX0_threesOf_19 : decode cX0_threesOf 19 = .ok (.iaload, 1) := by decide +kernel
theorem dX0_threesOf_20 : decode cX0_threesOf 20 = .ok (.ireturn, 1) := by decide +kernel
theorem dX0_difference_0 : decode cX0_difference 0 = .ok (.aload_n 0, 1) := by decide +kernel
theorem dX0_difference_1 : decode cX0_difference 1 = .ok (.getfield 18, 3) := by decide +kernel
theorem dX0_difference_4 : decode cX0_difference 4 = .ok (.invokestatic 25, 3) := by decide +kernel
theorem dX0_difference_7 : decode cX0_difference 7 = .ok (.aload_n 0, 1) := by decide +kernel
theorem dX0_difference_8 : decode cX0_difference 8 = .ok (.aload_n 1, 1) := by decide +kernel
theorem dX0_difference_9 : decode cX0_difference 9 = .ok (.aload_n 1, 1) := by decide +kernel
theorem dX0_difference_10 : decode cX0_difference 10 = .ok (.invokevirtual 33, 3) := by decide +kernel
theorem dX0_difference_13 : decode cX0_difference 13 = .ok (.iconst 1, 1) := by decide +kernel
theorem dX0_difference_14 : decode cX0_difference 14 = .ok (.invokevirtual 29, 3) := by decide +kernel
theorem dX0_difference_17 : decode cX0_difference 17 = .ok (.aload_n 0, 1) := by decide +kernel
theorem dX0_difference_18 : decode cX0_difference 18 = .ok (.aload_n 2, 1) := by decide +kernel
theorem dX0_difference_19 : decode cX0_difference 19 = .ok (.aload_n 2, 1) := by decide +kernel
theorem dX0_difference_20 : decode cX0_difference 20 = .ok (.invokevirtual 33, 3) := by decide +kernel
theorem dX0_difference_23 : decode cX0_difference 23 = .ok (.iconst (-1), 1) := by decide +kernel
theorem dX0_difference_24 : decode cX0_difference 24 = .ok (.invokevirtual 29, 3) := by decide +kernel
theorem dX0_difference_27 : decode cX0_difference 27 = .ok (.iconst 0, 1) := by decide +kernel
theorem dX0_difference_28 : decode cX0_difference 28 = .ok (.istore_n 3, 1) := by decide +kernel
theorem dX0_difference_29 : decode cX0_difference 29 = .ok (.iconst 0, 1) := by decide +kernel
theorem dX0_difference_30 : decode cX0_difference 30 = .ok (.istore 4, 2) := by decide +kernel
theorem dX0_difference_32 : decode cX0_difference 32 = .ok (.iload 4, 2) := by decide +kernel
theorem dX0_difference_34 : decode cX0_difference 34 = .ok (.bipush 16, 2) := by decide +kernel
theorem dX0_difference_36 : decode cX0_difference 36 = .ok (.if_icmp .ge 22, 3) := by decide +kernel
theorem dX0_difference_39 : decode cX0_difference 39 = .ok (.iload_n 3, 1) := by decide +kernel
theorem dX0_difference_40 : decode cX0_difference 40 = .ok (.aload_n 0, 1) := by decide +kernel
theorem dX0_difference_41 : decode cX0_difference 41 = .ok (.getfield 18, 3) := by decide +kernel
theorem dX0_difference_44 : decode cX0_difference 44 = .ok (.iload 4, 2) := by decide +kernel
theorem dX0_difference_46 : decode cX0_difference 46 = .ok (.iaload, 1) := by decide +kernel
theorem dX0_difference_47 : decode cX0_difference 47 = .ok (.invokestatic 39, 3) := by decide +kernel
theorem dX0_difference_50 : decode cX0_difference 50 = .ok (.iadd, 1) := by decide +kernel
theorem dX0_difference_51 : decode cX0_difference 51 = .ok (.istore_n 3, 1) := by decide +kernel
theorem dX0_difference_52 : decode cX0_difference 52 = .ok (.iinc 4 1, 3) := by decide +kernel
theorem dX0_difference_55 : decode cX0_difference 55 = .ok (.goto (-23), 3) := by decide +kernel
theorem dX0_difference_58 : decode cX0_difference 58 = .ok (.iload_n 3, 1) := by decide +kernel
theorem dX0_difference_59 : decode cX0_difference 59 = .ok (.ireturn, 1) := by decide +kernel
theorem dX0_addThrees_0 : decode cX0_addThrees 0 = .ok (.iconst 0, 1) := by decide +kernel
theorem dX0_addThrees_1 : decode cX0_addThrees 1 = .ok (.istore 4, 2) := by decide +kernel
theorem dX0_addThrees_3 : decode cX0_addThrees 3 = .ok (.iload 4, 2) := by decide +kernel
theorem dX0_addThrees_5 : decode cX0_addThrees 5 = .ok (.aload_n 1, 1) := by decide +kernel
theorem dX0_addThrees_6 : decode cX0_addThrees 6 = .ok (.getfield 45, 3) := by decide +kernel
theorem dX0_addThrees_9 : decode cX0_addThrees 9 = .ok (.if_icmp .ge 103, 3) := by decide +kernel
theorem dX0_addThrees_12 : decode cX0_addThrees 12 = .ok (.iload 4, 2) := by decide +kernel
theorem dX0_addThrees_14 : decode cX0_addThrees 14 = .ok (.iconst 1, 1) := by decide +kernel
theorem dX0_addThrees_15 : decode cX0_addThrees 15 = .ok (.iadd, 1) := by decide +kernel
theorem dX0_addThrees_16 : decode cX0_addThrees 16 = .ok (.istore 5, 2) := by decide +kernel
theorem dX0_addThrees_18 : decode cX0_addThrees 18 = .ok (.iload 5, 2) := by decide +kernel
theorem dX0_addThrees_20 : decode cX0_addThrees 20 = .ok (.aload_n 1, 1) := by decide +kernel
theorem dX0_addThrees_21 : decode cX0_addThrees 21 = .ok (.getfield 45, 3) := by decide +kernel
theorem dX0_addThrees_24 : decode cX0_addThrees 24 = .ok (.if_icmp .ge 82, 3) := by decide +kernel
theorem dX0_addThrees_27 : decode cX0_addThrees 27 = .ok (.iload 5, 2) := by decide +kernel
theorem dX0_addThrees_29 : decode cX0_addThrees 29 = .ok (.iconst 1, 1) := by decide +kernel
theorem dX0_addThrees_30 : decode cX0_addThrees 30 = .ok (.iadd, 1) := by decide +kernel
theorem dX0_addThrees_31 : decode cX0_addThrees 31 = .ok (.istore 6, 2) := by decide +kernel
theorem dX0_addThrees_33 : decode cX0_addThrees 33 = .ok (.iload 6, 2) := by decide +kernel
theorem dX0_addThrees_35 : decode cX0_addThrees 35 = .ok (.aload_n 1, 1) := by decide +kernel
theorem dX0_addThrees_36 : decode cX0_addThrees 36 = .ok (.getfield 45, 3) := by decide +kernel
theorem dX0_addThrees_39 : decode cX0_addThrees 39 = .ok (.if_icmp .ge 61, 3) := by decide +kernel
theorem dX0_addThrees_42 : decode cX0_addThrees 42 = .ok (.iconst 1, 1) := by decide +kernel
theorem dX0_addThrees_43 : decode cX0_addThrees 43 = .ok (.iload 4, 2) := by decide +kernel
theorem dX0_addThrees_45 : decode cX0_addThrees 45 = .ok (.ishl, 1) := by decide +kernel
theorem dX0_addThrees_46 : decode cX0_addThrees 46 = .ok (.iconst 1, 1) := by decide +kernel
theorem dX0_addThrees_47 : decode cX0_addThrees 47 = .ok (.iload 5, 2) := by decide +kernel
theorem dX0_addThrees_49 : decode cX0_addThrees 49 = .ok (.ishl, 1) := by decide +kernel
theorem dX0_addThrees_50 : decode cX0_addThrees 50 = .ok (.ior, 1) := by decide +kernel
theorem dX0_addThrees_51 : decode cX0_addThrees 51 = .ok (.iconst 1, 1) := by decide +kernel
theorem dX0_addThrees_52 : decode cX0_addThrees 52 = .ok (.iload 6, 2) := by decide +kernel
theorem dX0_addThrees_54 : decode cX0_addThrees 54 = .ok (.ishl, 1) := by decide +kernel
theorem dX0_addThrees_55 : decode cX0_addThrees 55 = .ok (.ior, 1) := by decide +kernel
theorem dX0_addThrees_56 : decode cX0_addThrees 56 = .ok (.istore 7, 2) := by decide +kernel
theorem dX0_addThrees_58 : decode cX0_addThrees 58 = .ok (.iload_n 2, 1) := by decide +kernel
theorem dX0_addThrees_59 : decode cX0_addThrees 59 = .ok (.iload 7, 2) := by decide +kernel
theorem dX0_addThrees_61 : decode cX0_addThrees 61 = .ok (.iand, 1) := by decide +kernel
theorem dX0_addThrees_62 : decode cX0_addThrees 62 = .ok (.iload 7, 2) := by decide +kernel
theorem dX0_addThrees_64 : decode cX0_addThrees 64 = .ok (.if_icmp .ne 30, 3) := by decide +kernel
theorem dX0_addThrees_67 : decode cX0_addThrees 67 = .ok (.aload_n 0, 1) := by decide +kernel
theorem dX0_addThrees_68 : decode cX0_addThrees 68 = .ok (.getfield 18, 3) := by decide +kernel
theorem dX0_addThrees_71 : decode cX0_addThrees 71 = .ok (.aload_n 0, 1) := by decide +kernel
theorem dX0_addThrees_72 : decode cX0_addThrees 72 = .ok (.getfield 21, 3) := by decide +kernel
theorem dX0_addThrees_75 : decode cX0_addThrees 75 = .ok (.getfield 49, 3) := by decide +kernel
theorem dX0_addThrees_78 : decode cX0_addThrees 78 = .ok (.aload_n 1, 1) := by decide +kernel
theorem dX0_addThrees_79 : decode cX0_addThrees 79 = .ok (.iload 4, 2) := by decide +kernel
theorem dX0_addThrees_81 : decode cX0_addThrees 81 = .ok (.iload 5, 2) := by decide +kernel
theorem dX0_addThrees_83 : decode cX0_addThrees 83 = .ok (.iload 6, 2) := by decide +kernel
theorem dX0_addThrees_85 : decode cX0_addThrees 85 = .ok (.invokevirtual 54, 3) := by decide +kernel
theorem dX0_addThrees_88 : decode cX0_addThrees 88 = .ok (.iaload, 1) := by decide +kernel
theorem dX0_addThrees_89 : decode cX0_addThrees 89 = .ok (.dup2, 1) := by decide +kernel
theorem dX0_addThrees_90 : decode cX0_addThrees 90 = .ok (.iaload, 1) := by decide +kernel
theorem dX0_addThrees_91 : decode cX0_addThrees 91 = .ok (.iload_n 3, 1) := by decide +kernel
theorem dX0_addThrees_92 : decode cX0_addThrees 92 = .ok (.iadd, 1) := by decide +kernel
theorem dX0_addThrees_93 : decode cX0_addThrees 93 = .ok (.iastore, 1) := by decide +kernel
theorem dX0_addThrees_94 : decode cX0_addThrees 94 = .ok (.iinc 6 1, 3) := by decide +kernel
theorem dX0_addThrees_97 : decode cX0_addThrees 97 = .ok (.goto (-64), 3) := by decide +kernel
theorem dX0_addThrees_100 : decode cX0_addThrees 100 = .ok (.iinc 5 1, 3) := by decide +kernel
theorem dX0_addThrees_103 : decode cX0_addThrees 103 = .ok (.goto (-85), 3) := by decide +kernel
theorem dX0_addThrees_106 : decode cX0_addThrees 106 = .ok (.iinc 4 1, 3) := by decide +kernel
theorem dX0_addThrees_109 : decode cX0_addThrees 109 = .ok (.goto (-106), 3) := by decide +kernel
theorem dX0_addThrees_112 : decode cX0_addThrees 112 = .ok (.return_, 1) := by decide +kernel
theorem dX0_countByPosts_0 : decode cX0_countByPosts 0 = .ok (.aload_n 0, 1) := by decide +kernel
theorem dX0_countByPosts_1 : decode cX0_countByPosts 1 = .ok (.getfield 11, 3) := by decide +kernel
theorem dX0_countByPosts_4 : decode cX0_countByPosts 4 = .ok (.invokestatic 25, 3) := by decide +kernel
theorem dX0_countByPosts_7 : decode cX0_countByPosts 7 = .ok (.iconst 0, 1) := by decide +kernel
theorem dX0_countByPosts_8 : decode cX0_countByPosts 8 = .ok (.istore_n 2, 1) := by decide +kernel
theorem dX0_countByPosts_9 : decode cX0_countByPosts 9 = .ok (.iload_n 2, 1) := by decide +kernel
theorem dX0_countByPosts_10 : decode cX0_countByPosts 10 = .ok (.aload_n 1, 1) := by decide +kernel
theorem dX0_countByPosts_11 : decode cX0_countByPosts 11 = .ok (.getfield 45, 3) := by decide +kernel
theorem dX0_countByPosts_14 : decode cX0_countByPosts 14 = .ok (.if_icmp .ge 82, 3) := by decide +kernel
theorem dX0_countByPosts_17 : decode cX0_countByPosts 17 = .ok (.iload_n 2, 1) := by decide +kernel
theorem dX0_countByPosts_18 : decode cX0_countByPosts 18 = .ok (.iconst 1, 1) := by decide +kernel
theorem dX0_countByPosts_19 : decode cX0_countByPosts 19 = .ok (.iadd, 1) := by decide +kernel
theorem dX0_countByPosts_20 : decode cX0_countByPosts 20 = .ok (.istore_n 3, 1) := by decide +kernel
theorem dX0_countByPosts_21 : decode cX0_countByPosts 21 = .ok (.iload_n 3, 1) := by decide +kernel
theorem dX0_countByPosts_22 : decode cX0_countByPosts 22 = .ok (.aload_n 1, 1) := by decide +kernel
theorem dX0_countByPosts_23 : decode cX0_countByPosts 23 = .ok (.getfield 45, 3) := by decide +kernel
theorem dX0_countByPosts_26 : decode cX0_countByPosts 26 = .ok (.if_icmp .ge 64, 3) := by decide +kernel
theorem dX0_countByPosts_29 : decode cX0_countByPosts 29 = .ok (.iload_n 3, 1) := by decide +kernel
theorem dX0_countByPosts_30 : decode cX0_countByPosts 30 = .ok (.iconst 1, 1) := by decide +kernel
theorem dX0_countByPosts_31 : decode cX0_countByPosts 31 = .ok (.iadd, 1) := by decide +kernel
theorem dX0_countByPosts_32 : decode cX0_countByPosts 32 = .ok (.istore 4, 2) := by decide +kernel
theorem dX0_countByPosts_34 : decode cX0_countByPosts 34 = .ok (.iload 4, 2) := by decide +kernel
theorem dX0_countByPosts_36 : decode cX0_countByPosts 36 = .ok (.aload_n 1, 1) := by decide +kernel
theorem dX0_countByPosts_37 : decode cX0_countByPosts 37 = .ok (.getfield 45, 3) := by decide +kernel
theorem dX0_countByPosts_40 : decode cX0_countByPosts 40 = .ok (.if_icmp .ge 44, 3) := by decide +kernel
theorem dX0_countByPosts_43 : decode cX0_countByPosts 43 = .ok (.aload_n 1, 1) := by decide +kernel
theorem dX0_countByPosts_44 : decode cX0_countByPosts 44 = .ok (.iload_n 2, 1) := by decide +kernel
theorem dX0_countByPosts_45 : decode cX0_countByPosts 45 = .ok (.iload_n 3, 1) := by decide +kernel
theorem dX0_countByPosts_46 : decode cX0_countByPosts 46 = .ok (.iload 4, 2) := by decide +kernel
theorem dX0_countByPosts_48 : decode cX0_countByPosts 48 = .ok (.invokevirtual 54, 3) := by decide +kernel
theorem dX0_countByPosts_51 : decode cX0_countByPosts 51 = .ok (.istore 5, 2) := by decide +kernel
theorem dX0_countByPosts_53 : decode cX0_countByPosts 53 = .ok (.aload_n 0, 1) := by decide +kernel
theorem dX0_countByPosts_54 : decode cX0_countByPosts 54 = .ok (.iload_n 2, 1) := by decide +kernel
theorem dX0_countByPosts_55 : decode cX0_countByPosts 55 = .ok (.iload 5, 2) := by decide +kernel
theorem dX0_countByPosts_57 : decode cX0_countByPosts 57 = .ok (.iconst 0, 1) := by decide +kernel
theorem dX0_countByPosts_58 : decode cX0_countByPosts 58 = .ok (.invokevirtual 58, 3) := by decide +kernel
theorem dX0_countByPosts_61 : decode cX0_countByPosts 61 = .ok (.aload_n 0, 1) := by decide +kernel
theorem dX0_countByPosts_62 : decode cX0_countByPosts 62 = .ok (.iload_n 3, 1) := by decide +kernel
theorem dX0_countByPosts_63 : decode cX0_countByPosts 63 = .ok (.iload 5, 2) := by decide +kernel
theorem dX0_countByPosts_65 : decode cX0_countByPosts 65 = .ok (.iconst 1, 1) := by decide +kernel
theorem dX0_countByPosts_66 : decode cX0_countByPosts 66 = .ok (.invokevirtual 58, 3) := by decide +kernel
theorem dX0_countByPosts_69 : decode cX0_countByPosts 69 = .ok (.aload_n 0, 1) := by decide +kernel
theorem dX0_countByPosts_70 : decode cX0_countByPosts 70 = .ok (.iload 4, 2) := by decide +kernel
theorem dX0_countByPosts_72 : decode cX0_countByPosts 72 = .ok (.iload 5, 2) := by decide +kernel
theorem dX0_countByPosts_74 : decode cX0_countByPosts 74 = .ok (.iconst 2, 1) := by decide +kernel
theorem dX0_countByPosts_75 : decode cX0_countByPosts 75 = .ok (.invokevirtual 58, 3) := by decide +kernel
theorem dX0_countByPosts_78 : decode cX0_countByPosts 78 = .ok (.iinc 4 1, 3) := by decide +kernel
theorem dX0_countByPosts_81 : decode cX0_countByPosts 81 = .ok (.goto (-47), 3) := by decide +kernel
theorem dX0_countByPosts_84 : decode cX0_countByPosts 84 = .ok (.iinc 3 1, 3) := by decide +kernel
theorem dX0_countByPosts_87 : decode cX0_countByPosts 87 = .ok (.goto (-66), 3) := by decide +kernel
theorem dX0_countByPosts_90 : decode cX0_countByPosts 90 = .ok (.iinc 2 1, 3) := by decide +kernel
theorem dX0_countByPosts_93 : decode cX0_countByPosts 93 = .ok (.goto (-84), 3) := by decide +kernel
theorem dX0_countByPosts_96 : decode cX0_countByPosts 96 = .ok (.return_, 1) := by decide +kernel
theorem dX0_addToPost_0 : decode cX0_addToPost 0 = .ok (.aload_n 0, 1) := by decide +kernel
theorem dX0_addToPost_1 : decode cX0_addToPost 1 = .ok (.getfield 11, 3) := by decide +kernel
theorem dX0_addToPost_4 : decode cX0_addToPost 4 = .ok (.iload_n 1, 1) := by decide +kernel
theorem dX0_addToPost_5 : decode cX0_addToPost 5 = .ok (.aload_n 0, 1) := by decide +kernel
theorem dX0_addToPost_6 : decode cX0_addToPost 6 = .ok (.getfield 21, 3) := by decide +kernel
theorem dX0_addToPost_9 : decode cX0_addToPost 9 = .ok (.getfield 49, 3) := by decide +kernel
theorem dX0_addToPost_12 : decode cX0_addToPost 12 = .ok (.iload_n 2, 1) := by decide +kernel
theorem dX0_addToPost_13 : decode cX0_addToPost 13 = .ok (.iaload, 1) := by decide +kernel
theorem dX0_addToPost_14 : decode cX0_addToPost 14 = .ok (.aload_n 0, 1) := by decide +kernel
theorem dX0_addToPost_15 : decode cX0_addToPost 15 = .ok (.getfield 21, 3) := by decide +kernel
theorem dX0_addToPost_18 : decode cX0_addToPost 18 = .ok (.iload_n 2, 1) := by decide +kernel
theorem dX0_addToPost_19 : decode cX0_addToPost 19 = .ok (.iload_n 3, 1) := by decide +kernel
theorem dX0_addToPost_20 : decode cX0_addToPost 20 = .ok (.invokevirtual 62, 3) := by decide +kernel
theorem dX0_addToPost_23 : decode cX0_addToPost 23 = .ok (.invokestatic 66, 3) := by decide +kernel
theorem dX0_addToPost_26 : decode cX0_addToPost 26 = .ok (.dup2, 1) := by decide +kernel
theorem dX0_addToPost_27 : decode cX0_addToPost 27 = .ok (.iaload, 1) := by decide +kernel
theorem dX0_addToPost_28 : decode cX0_addToPost 28 = .ok (.iconst 1, 1) := by decide +kernel
theorem dX0_addToPost_29 : decode cX0_addToPost 29 = .ok (.iadd, 1) := by decide +kernel
theorem dX0_addToPost_30 : decode cX0_addToPost 30 = .ok (.iastore, 1) := by decide +kernel
theorem dX0_addToPost_31 : decode cX0_addToPost 31 = .ok (.return_, 1) := by decide +kernel
theorem dX0_postCount_0 : decode cX0_postCount 0 = .ok (.aload_n 0, 1) := by decide +kernel
theorem dX0_postCount_1 : decode cX0_postCount 1 = .ok (.getfield 11, 3) := by decide +kernel
theorem dX0_postCount_4 : decode cX0_postCount 4 = .ok (.iload_n 1, 1) := by decide +kernel
theorem dX0_postCount_5 : decode cX0_postCount 5 = .ok (.iload_n 2, 1) := by decide +kernel
theorem dX0_postCount_6 : decode cX0_postCount 6 = .ok (.iload_n 3, 1) := by decide +kernel
theorem dX0_postCount_7 : decode cX0_postCount 7 = .ok (.invokestatic 66, 3) := by decide +kernel
theorem dX0_postCount_10 : decode cX0_postCount 10 = .ok (.iaload, 1) := by decide +kernel
theorem dX0_postCount_11 : decode cX0_postCount 11 = .ok (.ireturn, 1) := by decide +kernel
theorem dX0_countIndex_0 : decode cX0_countIndex 0 = .ok (.iload_n 0, 1) := by decide +kernel
theorem dX0_countIndex_1 : decode cX0_countIndex 1 = .ok (.bipush 48, 2) := by decide +kernel
theorem dX0_countIndex_3 : decode cX0_countIndex 3 = .ok (.imul, 1) := by decide +kernel
theorem dX0_countIndex_4 : decode cX0_countIndex 4 = .ok (.iload_n 1, 1) := by decide +kernel
theorem dX0_countIndex_5 : decode cX0_countIndex 5 = .ok (.iconst 3, 1) := by decide +kernel
theorem dX0_countIndex_6 : decode cX0_countIndex 6 = .ok (.imul, 1) := by decide +kernel
theorem dX0_countIndex_7 : decode cX0_countIndex 7 = .ok (.iadd, 1) := by decide +kernel
theorem dX0_countIndex_8 : decode cX0_countIndex 8 = .ok (.iload_n 2, 1) := by decide +kernel
theorem dX0_countIndex_9 : decode cX0_countIndex 9 = .ok (.iadd, 1) := by decide +kernel
theorem dX0_countIndex_10 : decode cX0_countIndex 10 = .ok (.ireturn, 1) := by decide +kernel
theorem dX0_findRoles_0 : decode cX0_findRoles 0 = .ok (.aload_n 0, 1) := by decide +kernel
theorem dX0_findRoles_1 : decode cX0_findRoles 1 = .ok (.aload_n 1, 1) := by decide +kernel
theorem dX0_findRoles_2 : decode cX0_findRoles 2 = .ok (.invokevirtual 69, 3) := by decide +kernel
theorem dX0_findRoles_5 : decode cX0_findRoles 5 = .ok (.iconst 0, 1) := by decide +kernel
theorem dX0_findRoles_6 : decode cX0_findRoles 6 = .ok (.istore_n 2, 1) := by decide +kernel
theorem dX0_findRoles_7 : decode cX0_findRoles 7 = .ok (.iconst 0, 1) := by decide +kernel
theorem dX0_findRoles_8 : decode cX0_findRoles 8 = .ok (.istore_n 3, 1) := by decide +kernel
theorem dX0_findRoles_9 : decode cX0_findRoles 9 = .ok (.iload_n 3, 1) := by decide +kernel
theorem dX0_findRoles_10 : decode cX0_findRoles 10 = .ok (.aload_n 1, 1) := by decide +kernel
theorem dX0_findRoles_11 : decode cX0_findRoles 11 = .ok (.getfield 45, 3) := by decide +kernel
theorem dX0_findRoles_14 : decode cX0_findRoles 14 = .ok (.if_icmp .ge 48, 3) := by decide +kernel
theorem dX0_findRoles_17 : decode cX0_findRoles 17 = .ok (.aload_n 0, 1) := by decide +kernel
theorem dX0_findRoles_18 : decode cX0_findRoles 18 = .ok (.iload_n 3, 1) := by decide +kernel
theorem dX0_findRoles_19 : decode cX0_findRoles 19 = .ok (.invokevirtual 73, 3) := by decide +kernel
theorem dX0_findRoles_22 : decode cX0_findRoles 22 = .ok (.istore 4, 2) := by decide +kernel
theorem dX0_findRoles_24 : decode cX0_findRoles 24 = .ok (.iload 4, 2) := by decide +kernel
theorem dX0_findRoles_26 : decode cX0_findRoles 26 = .ok (.iload_n 3, 1) := by decide +kernel
theorem dX0_findRoles_27 : decode cX0_findRoles 27 = .ok (.if_icmp .ne 16, 3) := by decide +kernel
theorem dX0_findRoles_30 : decode cX0_findRoles 30 = .ok (.aload_n 0, 1) := by decide +kernel
theorem dX0_findRoles_31 : decode cX0_findRoles 31 = .ok (.getfield 15, 3) := by decide +kernel
theorem dX0_findRoles_34 : decode cX0_findRoles 34 = .ok (.iload_n 3, 1) := by decide +kernel
theorem dX0_findRoles_35 : decode cX0_findRoles 35 = .ok (.iload_n 2, 1) := by decide +kernel
theorem dX0_findRoles_36 : decode cX0_findRoles 36 = .ok (.iastore, 1) := by decide +kernel
theorem dX0_findRoles_37 : decode cX0_findRoles 37 = .ok (.iinc 2 1, 3) := by decide +kernel
theorem dX0_findRoles_40 : decode cX0_findRoles 40 = .ok (.goto 16, 3) := by decide +kernel
theorem dX0_findRoles_43 : decode cX0_findRoles 43 = .ok (.aload_n 0, 1) := by decide +kernel
theorem dX0_findRoles_44 : decode cX0_findRoles 44 = .ok (.getfield 15, 3) := by decide +kernel
theorem dX0_findRoles_47 : decode cX0_findRoles 47 = .ok (.iload_n 3, 1) := by decide +kernel
theorem dX0_findRoles_48 : decode cX0_findRoles 48 = .ok (.aload_n 0, 1) := by decide +kernel
theorem dX0_findRoles_49 : decode cX0_findRoles 49 = .ok (.getfield 15, 3) := by decide +kernel
theorem dX0_findRoles_52 : decode cX0_findRoles 52 = .ok (.iload 4, 2) := by decide +kernel
theorem dX0_findRoles_54 : decode cX0_findRoles 54 = .ok (.iaload, 1) := by decide +kernel
theorem dX0_findRoles_55 : decode cX0_findRoles 55 = .ok (.iastore, 1) := by decide +kernel
theorem dX0_findRoles_56 : decode cX0_findRoles 56 = .ok (.iinc 3 1, 3) := by decide +kernel
theorem dX0_findRoles_59 : decode cX0_findRoles 59 = .ok (.goto (-50), 3) := by decide +kernel
theorem dX0_findRoles_62 : decode cX0_findRoles 62 = .ok (.iload_n 2, 1) := by decide +kernel
theorem dX0_findRoles_63 : decode cX0_findRoles 63 = .ok (.ireturn, 1) := by decide +kernel
theorem dX0_firstAlike_0 : decode cX0_firstAlike 0 = .ok (.iconst 0, 1) := by decide +kernel
theorem dX0_firstAlike_1 : decode cX0_firstAlike 1 = .ok (.istore_n 2, 1) := by decide +kernel
theorem dX0_firstAlike_2 : decode cX0_firstAlike 2 = .ok (.iload_n 2, 1) := by decide +kernel
theorem dX0_firstAlike_3 : decode cX0_firstAlike 3 = .ok (.iload_n 1, 1) := by decide +kernel
theorem dX0_firstAlike_4 : decode cX0_firstAlike 4 = .ok (.if_icmp .ge 20, 3) := by decide +kernel
theorem dX0_firstAlike_7 : decode cX0_firstAlike 7 = .ok (.aload_n 0, 1) := by decide +kernel
theorem dX0_firstAlike_8 : decode cX0_firstAlike 8 = .ok (.iload_n 2, 1) := by decide +kernel
theorem dX0_firstAlike_9 : decode cX0_firstAlike 9 = .ok (.iload_n 1, 1) := by decide +kernel
theorem dX0_firstAlike_10 : decode cX0_firstAlike 10 = .ok (.invokevirtual 76, 3) := by decide +kernel
theorem dX0_firstAlike_13 : decode cX0_firstAlike 13 = .ok (.ifCond .eq 5, 3) := by decide +kernel
theorem dX0_firstAlike_16 : decode cX0_firstAlike 16 = .ok (.iload_n 2, 1) := by decide +kernel
theorem dX0_firstAlike_17 : decode cX0_firstAlike 17 = .ok (.ireturn, 1) := by decide +kernel
theorem dX0_firstAlike_18 : decode cX0_firstAlike 18 = .ok (.iinc 2 1, 3) := by decide +kernel
theorem dX0_firstAlike_21 : decode cX0_firstAlike 21 = .ok (.goto (-19), 3) := by decide +kernel
theorem dX0_firstAlike_24 : decode cX0_firstAlike 24 = .ok (.iload_n 1, 1) := by decide +kernel
theorem dX0_firstAlike_25 : decode cX0_firstAlike 25 = .ok (.ireturn, 1) := by decide +kernel
theorem dX0_alike_0 : decode cX0_alike 0 = .ok (.iconst 0, 1) := by decide +kernel
theorem dX0_alike_1 : decode cX0_alike 1 = .ok (.istore_n 3, 1) := by decide +kernel
theorem dX0_alike_2 : decode cX0_alike 2 = .ok (.iload_n 3, 1) := by decide +kernel
theorem dX0_alike_3 : decode cX0_alike 3 = .ok (.bipush 48, 2) := by decide +kernel
theorem dX0_alike_5 : decode cX0_alike 5 = .ok (.if_icmp .ge 36, 3) := by decide +kernel
theorem dX0_alike_8 : decode cX0_alike 8 = .ok (.aload_n 0, 1) := by decide +kernel
theorem dX0_alike_9 : decode cX0_alike 9 = .ok (.getfield 11, 3) := by decide +kernel
theorem dX0_alike_12 : decode cX0_alike 12 = .ok (.iload_n 1, 1) := by decide +kernel
theorem dX0_alike_13 : decode cX0_alike 13 = .ok (.bipush 48, 2) := by decide +kernel
theorem dX0_alike_15 : decode cX0_alike 15 = .ok (.imul, 1) := by decide +kernel
theorem dX0_alike_16 : decode cX0_alike 16 = .ok (.iload_n 3, 1) := by decide +kernel
theorem dX0_alike_17 : decode cX0_alike 17 = .ok (.iadd, 1) := by decide +kernel
theorem dX0_alike_18 : decode cX0_alike 18 = .ok (.iaload, 1) := by decide +kernel
theorem dX0_alike_19 : decode cX0_alike 19 = .ok (.aload_n 0, 1) := by decide +kernel
theorem dX0_alike_20 : decode cX0_alike 20 = .ok (.getfield 11, 3) := by decide +kernel
theorem dX0_alike_23 : decode cX0_alike 23 = .ok (.iload_n 2, 1) := by decide +kernel
theorem dX0_alike_24 : decode cX0_alike 24 = .ok (.bipush 48, 2) := by decide +kernel
theorem dX0_alike_26 : decode cX0_alike 26 = .ok (.imul, 1) := by decide +kernel
theorem dX0_alike_27 : decode cX0_alike 27 = .ok (.iload_n 3, 1) := by decide +kernel
theorem dX0_alike_28 : decode cX0_alike 28 = .ok (.iadd, 1) := by decide +kernel
theorem dX0_alike_29 : decode cX0_alike 29 = .ok (.iaload, 1) := by decide +kernel
theorem dX0_alike_30 : decode cX0_alike 30 = .ok (.if_icmp .eq 5, 3) := by decide +kernel
theorem dX0_alike_33 : decode cX0_alike 33 = .ok (.iconst 0, 1) := by decide +kernel
theorem dX0_alike_34 : decode cX0_alike 34 = .ok (.ireturn, 1) := by decide +kernel
theorem dX0_alike_35 : decode cX0_alike 35 = .ok (.iinc 3 1, 3) := by decide +kernel
theorem dX0_alike_38 : decode cX0_alike 38 = .ok (.goto (-36), 3) := by decide +kernel
theorem dX0_alike_41 : decode cX0_alike 41 = .ok (.iconst 1, 1) := by decide +kernel
theorem dX0_alike_42 : decode cX0_alike 42 = .ok (.ireturn, 1) := by decide +kernel
theorem dX0_clear_0 : decode cX0_clear 0 = .ok (.iconst 0, 1) := by decide +kernel
theorem dX0_clear_1 : decode cX0_clear 1 = .ok (.istore_n 1, 1) := by decide +kernel
theorem dX0_clear_2 : decode cX0_clear 2 = .ok (.iload_n 1, 1) := by decide +kernel
theorem dX0_clear_3 : decode cX0_clear 3 = .ok (.aload_n 0, 1) := by decide +kernel
theorem dX0_clear_4 : decode cX0_clear 4 = .ok (.arraylength, 1) := by decide +kernel
theorem dX0_clear_5 : decode cX0_clear 5 = .ok (.if_icmp .ge 13, 3) := by decide +kernel
theorem dX0_clear_8 : decode cX0_clear 8 = .ok (.aload_n 0, 1) := by decide +kernel
theorem dX0_clear_9 : decode cX0_clear 9 = .ok (.iload_n 1, 1) := by decide +kernel
theorem dX0_clear_10 : decode cX0_clear 10 = .ok (.iconst 0, 1) := by decide +kernel
theorem dX0_clear_11 : decode cX0_clear 11 = .ok (.iastore, 1) := by decide +kernel
theorem dX0_clear_12 : decode cX0_clear 12 = .ok (.iinc 1 1, 3) := by decide +kernel
theorem dX0_clear_15 : decode cX0_clear 15 = .ok (.goto (-13), 3) := by decide +kernel
theorem dX0_clear_18 : decode cX0_clear 18 = .ok (.return_, 1) := by decide +kernel
theorem dX1_ofKind_0 : decode cX1_ofKind 0 = .ok (.iconst 0, 1) := by decide +kernel
theorem dX1_ofKind_1 : decode cX1_ofKind 1 = .ok (.istore_n 2, 1) := by decide +kernel
theorem dX1_ofKind_2 : decode cX1_ofKind 2 = .ok (.iconst 0, 1) := by decide +kernel
theorem dX1_ofKind_3 : decode cX1_ofKind 3 = .ok (.istore_n 3, 1) := by decide +kernel
theorem dX1_ofKind_4 : decode cX1_ofKind 4 = .ok (.iload_n 3, 1) := by decide +kernel
theorem dX1_ofKind_5 : decode cX1_ofKind 5 = .ok (.aload_n 0, 1) := by decide +kernel
theorem dX1_ofKind_6 : decode cX1_ofKind 6 = .ok (.getfield 7, 3) := by decide +kernel
theorem dX1_ofKind_9 : decode cX1_ofKind 9 = .ok (.if_icmp .ge 40, 3) := by decide +kernel
theorem dX1_ofKind_12 : decode cX1_ofKind 12 = .ok (.iload_n 3, 1) := by decide +kernel
theorem dX1_ofKind_13 : decode cX1_ofKind 13 = .ok (.iconst 1, 1) := by decide +kernel
theorem dX1_ofKind_14 : decode cX1_ofKind 14 = .ok (.iadd, 1) := by decide +kernel
theorem dX1_ofKind_15 : decode cX1_ofKind 15 = .ok (.istore 4, 2) := by decide +kernel
theorem dX1_ofKind_17 : decode cX1_ofKind 17 = .ok (.iload 4, 2) := by decide +kernel
theorem dX1_ofKind_19 : decode cX1_ofKind 19 = .ok (.aload_n 0, 1) := by decide +kernel
theorem dX1_ofKind_20 : decode cX1_ofKind 20 = .ok (.getfield 7, 3) := by decide +kernel
theorem dX1_ofKind_23 : decode cX1_ofKind 23 = .ok (.if_icmp .ge 20, 3) := by decide +kernel
theorem dX1_ofKind_26 : decode cX1_ofKind 26 = .ok (.iload_n 2, 1) := by decide +kernel
theorem dX1_ofKind_27 : decode cX1_ofKind 27 = .ok (.aload_n 0, 1) := by decide +kernel
theorem dX1_ofKind_28 : decode cX1_ofKind 28 = .ok (.iload_n 3, 1) := by decide +kernel
theorem dX1_ofKind_29 : decode cX1_ofKind 29 = .ok (.iload 4, 2) := by decide +kernel
theorem dX1_ofKind_31 : decode cX1_ofKind 31 = .ok (.iload_n 1, 1) := by decide +kernel
theorem dX1_ofKind_32 : decode cX1_ofKind 32 = .ok (.invokestatic 13, 3) := by decide +kernel
theorem dX1_ofKind_35 : decode cX1_ofKind 35 = .ok (.iadd, 1) := by decide +kernel
theorem dX1_ofKind_36 : decode cX1_ofKind 36 = .ok (.istore_n 2, 1) := by decide +kernel
theorem dX1_ofKind_37 : decode cX1_ofKind 37 = .ok (.iinc 4 1, 3) := by decide +kernel
theorem dX1_ofKind_40 : decode cX1_ofKind 40 = .ok (.goto (-23), 3) := by decide +kernel
theorem dX1_ofKind_43 : decode cX1_ofKind 43 = .ok (.iinc 3 1, 3) := by decide +kernel
theorem dX1_ofKind_46 : decode cX1_ofKind 46 = .ok (.goto (-42), 3) := by decide +kernel
theorem dX1_ofKind_49 : decode cX1_ofKind 49 = .ok (.iload_n 2, 1) := by decide +kernel
theorem dX1_ofKind_50 : decode cX1_ofKind 50 = .ok (.ireturn, 1) := by decide +kernel
theorem dX1_withTwo_0 : decode cX1_withTwo 0 = .ok (.iconst 0, 1) := by decide +kernel
theorem dX1_withTwo_1 : decode cX1_withTwo 1 = .ok (.istore 4, 2) := by decide +kernel
theorem dX1_withTwo_3 : decode cX1_withTwo 3 = .ok (.iload_n 2, 1) := by decide +kernel
theorem dX1_withTwo_4 : decode cX1_withTwo 4 = .ok (.iconst 1, 1) := by decide +kernel
theorem dX1_withTwo_5 : decode cX1_withTwo 5 = .ok (.iadd, 1) := by decide +kernel
theorem dX1_withTwo_6 : decode cX1_withTwo 6 = .ok (.istore 5, 2) := by decide +kernel
theorem dX1_withTwo_8 : decode cX1_withTwo 8 = .ok (.iload 5, 2) := by decide +kernel
theorem dX1_withTwo_10 : decode cX1_withTwo 10 = .ok (.aload_n 0, 1) := by decide +kernel
theorem dX1_withTwo_11 : decode cX1_withTwo 11 = .ok (.getfield 7, 3) := by decide +kernel
theorem dX1_withTwo_14 : decode cX1_withTwo 14 = .ok (.if_icmp .ge 47, 3) := by decide +kernel
theorem dX1_withTwo_17 : decode cX1_withTwo 17 = .ok (.iload 5, 2) := by decide +kernel
theorem dX1_withTwo_19 : decode cX1_withTwo 19 = .ok (.iconst 1, 1) := by decide +kernel
theorem dX1_withTwo_20 : decode cX1_withTwo 20 = .ok (.iadd, 1) := by decide +kernel
theorem dX1_withTwo_21 : decode cX1_withTwo 21 = .ok (.istore 6, 2) := by decide +kernel
theorem dX1_withTwo_23 : decode cX1_withTwo 23 = .ok (.iload 6, 2) := by decide +kernel
theorem dX1_withTwo_25 : decode cX1_withTwo 25 = .ok (.aload_n 0, 1) := by decide +kernel
theorem dX1_withTwo_26 : decode cX1_withTwo 26 = .ok (.getfield 7, 3) := by decide +kernel
theorem dX1_withTwo_29 : decode cX1_withTwo 29 = .ok (.if_icmp .ge 26, 3) := by decide +kernel
theorem dX1_withTwo_32 : decode cX1_withTwo 32 = .ok (.aload_n 0, 1) := by decide +kernel
theorem dX1_withTwo_33 : decode cX1_withTwo 33 = .ok (.iload_n 1, 1) := by decide +kernel
theorem dX1_withTwo_34 : decode cX1_withTwo 34 = .ok (.iload_n 2, 1) := by decide +kernel
theorem dX1_withTwo_35 : decode cX1_withTwo 35 = .ok (.iload 5, 2) := by decide +kernel
theorem dX1_withTwo_37 : decode cX1_withTwo 37 = .ok (.iload 6, 2) := by decide +kernel
theorem dX1_withTwo_39 : decode cX1_withTwo 39 = .ok (.invokestatic 19, 3) := by decide +kernel
theorem dX1_withTwo_42 : decode cX1_withTwo 42 = .ok (.iload_n 3, 1) := by decide +kernel
theorem dX1_withTwo_43 : decode cX1_withTwo 43 = .ok (.if_icmp .ne 6, 3) := by decide +kernel
theorem dX1_withTwo_46 : decode cX1_withTwo 46 = .ok (.iinc 4 1, 3) := by decide +kernel
theorem dX1_withTwo_49 : decode cX1_withTwo 49 = .ok (.iinc 6 1, 3) := by decide +kernel
theorem dX1_withTwo_52 : decode cX1_withTwo 52 = .ok (.goto (-29), 3) := by decide +kernel
theorem dX1_withTwo_55 : decode cX1_withTwo 55 = .ok (.iinc 5 1, 3) := by decide +kernel
theorem dX1_withTwo_58 : decode cX1_withTwo 58 = .ok (.goto (-50), 3) := by decide +kernel
theorem dX1_withTwo_61 : decode cX1_withTwo 61 = .ok (.iload 4, 2) := by decide +kernel
theorem dX1_withTwo_63 : decode cX1_withTwo 63 = .ok (.ireturn, 1) := by decide +kernel
theorem dX1_kindOfFour_0 : decode cX1_kindOfFour 0 = .ok (.aload_n 0, 1) := by decide +kernel
theorem dX1_kindOfFour_1 : decode cX1_kindOfFour 1 = .ok (.iload_n 1, 1) := by decide +kernel
theorem dX1_kindOfFour_2 : decode cX1_kindOfFour 2 = .ok (.iload_n 2, 1) := by decide +kernel
theorem dX1_kindOfFour_3 : decode cX1_kindOfFour 3 = .ok (.invokevirtual 23, 3) := by decide +kernel
theorem dX1_kindOfFour_6 : decode cX1_kindOfFour 6 = .ok (.istore 5, 2) := by decide +kernel
theorem dX1_kindOfFour_8 : decode cX1_kindOfFour 8 = .ok (.aload_n 0, 1) := by decide +kernel
theorem dX1_kindOfFour_9 : decode cX1_kindOfFour 9 = .ok (.iload_n 1, 1) := by decide +kernel
theorem dX1_kindOfFour_10 : decode cX1_kindOfFour 10 = .ok (.iload_n 3, 1) := by decide +kernel
theorem dX1_kindOfFour_11 : decode cX1_kindOfFour 11 = .ok (.invokevirtual 23, 3) := by decide +kernel
theorem dX1_kindOfFour_14 : decode cX1_kindOfFour 14 = .ok (.istore 6, 2) := by decide +kernel
theorem dX1_kindOfFour_16 : decode cX1_kindOfFour 16 = .ok (.aload_n 0, 1) := by decide +kernel
theorem dX1_kindOfFour_17 : decode cX1_kindOfFour 17 = .ok (.iload_n 1, 1) := by decide +kernel
theorem dX1_kindOfFour_18 : decode cX1_kindOfFour 18 = .ok (.iload 4, 2) := by decide +kernel
theorem dX1_kindOfFour_20 : decode cX1_kindOfFour 20 = .ok (.invokevirtual 23, 3) := by decide +kernel
theorem dX1_kindOfFour_23 : decode cX1_kindOfFour 23 = .ok (.istore 7, 2) := by decide +kernel
theorem dX1_kindOfFour_25 : decode cX1_kindOfFour 25 = .ok (.aload_n 0, 1) := by decide +kernel
theorem dX1_kindOfFour_26 : decode cX1_kindOfFour 26 = .ok (.iload_n 2, 1) := by decide +kernel
theorem dX1_kindOfFour_27 : decode cX1_kindOfFour 27 = .ok (.iload_n 3, 1) := by decide +kernel
theorem dX1_kindOfFour_28 : decode cX1_kindOfFour 28 = .ok (.invokevirtual 23, 3) := by decide +kernel
theorem dX1_kindOfFour_31 : decode cX1_kindOfFour 31 = .ok (.istore 8, 2) := by decide +kernel
theorem dX1_kindOfFour_33 : decode cX1_kindOfFour 33 = .ok (.aload_n 0, 1) := by decide +kernel
theorem dX1_kindOfFour_34 : decode cX1_kindOfFour 34 = .ok (.iload_n 2, 1) := by decide +kernel
theorem dX1_kindOfFour_35 : decode cX1_kindOfFour 35 = .ok (.iload 4, 2) := by decide +kernel
theorem dX1_kindOfFour_37 : decode cX1_kindOfFour 37 = .ok (.invokevirtual 23, 3) := by decide +kernel
theorem dX1_kindOfFour_40 : decode cX1_kindOfFour 40 = .ok (.istore 9, 2) := by decide +kernel
theorem dX1_kindOfFour_42 : decode cX1_kindOfFour 42 = .ok (.aload_n 0, 1) := by decide +kernel
theorem dX1_kindOfFour_43 : decode cX1_kindOfFour 43 = .ok (.iload_n 3, 1) := by decide +kernel
theorem dX1_kindOfFour_44 : decode cX1_kindOfFour 44 = .ok (.iload 4, 2) := by decide +kernel
theorem dX1_kindOfFour_46 : decode cX1_kindOfFour 46 = .ok (.invokevirtual 23, 3) := by decide +kernel
theorem dX1_kindOfFour_49 : decode cX1_kindOfFour 49 = .ok (.istore 10, 2) := by decide +kernel
theorem dX1_kindOfFour_51 : decode cX1_kindOfFour 51 = .ok (.iload 5, 2) := by decide +kernel
theorem dX1_kindOfFour_53 : decode cX1_kindOfFour 53 = .ok (.iload 6, 2) := by decide +kernel
theorem dX1_kindOfFour_55 : decode cX1_kindOfFour 55 = .ok (.iadd, 1) := by decide +kernel
theorem dX1_kindOfFour_56 : decode cX1_kindOfFour 56 = .ok (.iload 7, 2) := by decide +kernel
theorem dX1_kindOfFour_58 : decode cX1_kindOfFour 58 = .ok (.iadd, 1) := by decide +kernel
theorem dX1_kindOfFour_59 : decode cX1_kindOfFour 59 = .ok (.istore 11, 2) := by decide +kernel
theorem dX1_kindOfFour_61 : decode cX1_kindOfFour 61 = .ok (.iload 5, 2) := by decide +kernel
theorem dX1_kindOfFour_63 : decode cX1_kindOfFour 63 = .ok (.iload 8, 2) := by decide +kernel
theorem dX1_kindOfFour_65 : decode cX1_kindOfFour 65 = .ok (.iadd, 1) := by decide +kernel
theorem dX1_kindOfFour_66 : decode cX1_kindOfFour 66 = .ok (.iload 9, 2) := by decide +kernel
theorem dX1_kindOfFour_68 : decode cX1_kindOfFour 68 = .ok (.iadd, 1) := by decide +kernel
theorem dX1_kindOfFour_69 : decode cX1_kindOfFour 69 = .ok (.istore 12, 2) := by decide +kernel
theorem dX1_kindOfFour_71 : decode cX1_kindOfFour 71 = .ok (.iload 6, 2) := by decide +kernel
theorem dX1_kindOfFour_73 : decode cX1_kindOfFour 73 = .ok (.iload 8, 2) := by decide +kernel
theorem dX1_kindOfFour_75 : decode cX1_kindOfFour 75 = .ok (.iadd, 1) := by decide +kernel
theorem dX1_kindOfFour_76 : decode cX1_kindOfFour 76 = .ok (.iload 10, 2) := by decide +kernel
theorem dX1_kindOfFour_78 : decode cX1_kindOfFour 78 = .ok (.iadd, 1) := by decide +kernel
theorem dX1_kindOfFour_79 : decode cX1_kindOfFour 79 = .ok (.istore 13, 2) := by decide +kernel
theorem dX1_kindOfFour_81 : decode cX1_kindOfFour 81 = .ok (.iload 7, 2) := by decide +kernel
theorem dX1_kindOfFour_83 : decode cX1_kindOfFour 83 = .ok (.iload 9, 2) := by decide +kernel
theorem dX1_kindOfFour_85 : decode cX1_kindOfFour 85 = .ok (.iadd, 1) := by decide +kernel
theorem dX1_kindOfFour_86 : decode cX1_kindOfFour 86 = .ok (.iload 10, 2) := by decide +kernel
theorem dX1_kindOfFour_88 : decode cX1_kindOfFour 88 = .ok (.iadd, 1) := by decide +kernel
theorem dX1_kindOfFour_89 : decode cX1_kindOfFour 89 = .ok (.istore 14, 2) := by decide +kernel
theorem dX1_kindOfFour_91 : decode cX1_kindOfFour 91 = .ok (.iload 11, 2) := by decide +kernel
theorem dX1_kindOfFour_93 : decode cX1_kindOfFour 93 = .ok (.iload 12, 2) := by decide +kernel
theorem dX1_kindOfFour_95 : decode cX1_kindOfFour 95 = .ok (.invokestatic 27, 3) := by decide +kernel
theorem dX1_kindOfFour_98 : decode cX1_kindOfFour 98 = .ok (.iload 13, 2) := by decide +kernel
theorem dX1_kindOfFour_100 : decode cX1_kindOfFour 100 = .ok (.iload 14, 2) := by decide +kernel
theorem dX1_kindOfFour_102 : decode cX1_kindOfFour 102 = .ok (.invokestatic 27, 3) := by decide +kernel
theorem dX1_kindOfFour_105 : decode cX1_kindOfFour 105 = .ok (.invokestatic 27, 3) := by decide +kernel
theorem dX1_kindOfFour_108 : decode cX1_kindOfFour 108 = .ok (.istore 15, 2) := by decide +kernel
theorem dX1_kindOfFour_110 : decode cX1_kindOfFour 110 = .ok (.iload 11, 2) := by decide +kernel
theorem dX1_kindOfFour_112 : decode cX1_kindOfFour 112 = .ok (.iload 12, 2) := by decide +kernel
theorem dX1_kindOfFour_114 : decode cX1_kindOfFour 114 = .ok (.invokestatic 32, 3) := by decide +kernel
theorem dX1_kindOfFour_117 : decode cX1_kindOfFour 117 = .ok (.iload 13, 2) := by decide +kernel
theorem dX1_kindOfFour_119 : decode cX1_kindOfFour 119 = .ok (.iload 14, 2) := by decide +kernel
theorem dX1_kindOfFour_121 : decode cX1_kindOfFour 121 = .ok (.invokestatic 32, 3) := by decide +kernel
theorem dX1_kindOfFour_124 : decode cX1_kindOfFour 124 = .ok (.invokestatic 32, 3) := by decide +kernel
theorem dX1_kindOfFour_127 : decode cX1_kindOfFour 127 = .ok (.istore 16, 2) := by decide +kernel
theorem dX1_kindOfFour_129 : decode cX1_kindOfFour 129 = .ok (.iload 11, 2) := by decide +kernel
theorem dX1_kindOfFour_131 : decode cX1_kindOfFour 131 = .ok (.iload 12, 2) := by decide +kernel
theorem dX1_kindOfFour_133 : decode cX1_kindOfFour 133 = .ok (.iadd, 1) := by decide +kernel
theorem dX1_kindOfFour_134 : decode cX1_kindOfFour 134 = .ok (.iload 13, 2) := by decide +kernel
theorem dX1_kindOfFour_136 : decode cX1_kindOfFour 136 = .ok (.iadd, 1) := by decide +kernel
theorem dX1_kindOfFour_137 : decode cX1_kindOfFour 137 = .ok (.iload 14, 2) := by decide +kernel
theorem dX1_kindOfFour_139 : decode cX1_kindOfFour 139 = .ok (.iadd, 1) := by decide +kernel
theorem dX1_kindOfFour_140 : decode cX1_kindOfFour 140 = .ok (.iconst 2, 1) := by decide +kernel
theorem dX1_kindOfFour_141 : decode cX1_kindOfFour 141 = .ok (.idiv, 1) := by decide +kernel
theorem dX1_kindOfFour_142 : decode cX1_kindOfFour 142 = .ok (.iload 15, 2) := by decide +kernel
theorem dX1_kindOfFour_144 : decode cX1_kindOfFour 144 = .ok (.iload 16, 2) := by decide +kernel
theorem dX1_kindOfFour_146 : decode cX1_kindOfFour 146 = .ok (.invokestatic 35, 3) := by decide +kernel
theorem dX1_kindOfFour_149 : decode cX1_kindOfFour 149 = .ok (.ireturn, 1) := by decide +kernel
theorem dX1_kindBy_0 : decode cX1_kindBy 0 = .ok (.iload_n 0, 1) := by decide +kernel
theorem dX1_kindBy_1 : decode cX1_kindBy 1 = .ok (.tableswitch 63 3 6 #[31, 48, 59, 61], 31) := by decide +kernel
theorem dX1_kindBy_32 : decode cX1_kindBy 32 = .ok (.iload_n 2, 1) := by decide +kernel
theorem dX1_kindBy_33 : decode cX1_kindBy 33 = .ok (.ifCond .ne 5, 3) := by decide +kernel
theorem dX1_kindBy_36 : decode cX1_kindBy 36 = .ok (.iconst (-1), 1) := by decide +kernel
theorem dX1_kindBy_37 : decode cX1_kindBy 37 = .ok (.ireturn, 1) := by decide +kernel
theorem dX1_kindBy_38 : decode cX1_kindBy 38 = .ok (.iload_n 1, 1) := by decide +kernel
theorem dX1_kindBy_39 : decode cX1_kindBy 39 = .ok (.iconst 3, 1) := by decide +kernel
theorem dX1_kindBy_40 : decode cX1_kindBy 40 = .ok (.if_icmp .ne 7, 3) := by decide +kernel
theorem dX1_kindBy_43 : decode cX1_kindBy 43 = .ok (.iconst 1, 1) := by decide +kernel
theorem dX1_kindBy_44 : decode cX1_kindBy 44 = .ok (.goto 4, 3) := by decide +kernel
theorem dX1_kindBy_47 : decode cX1_kindBy 47 = .ok (.iconst 0, 1) := by decide +kernel
theorem dX1_kindBy_48 : decode cX1_kindBy 48 = .ok (.ireturn, 1) := by decide +kernel
theorem dX1_kindBy_49 : decode cX1_kindBy 49 = .ok (.iload_n 1, 1) := by decide +kernel
theorem dX1_kindBy_50 : decode cX1_kindBy 50 = .ok (.iconst 3, 1) := by decide +kernel
theorem dX1_kindBy_51 : decode cX1_kindBy 51 = .ok (.if_icmp .ne 7, 3) := by decide +kernel
theorem dX1_kindBy_54 : decode cX1_kindBy 54 = .ok (.iconst 3, 1) := by decide +kernel
theorem dX1_kindBy_55 : decode cX1_kindBy 55 = .ok (.goto 4, 3) := by decide +kernel
theorem dX1_kindBy_58 : decode cX1_kindBy 58 = .ok (.iconst 2, 1) := by decide +kernel
theorem dX1_kindBy_59 : decode cX1_kindBy 59 = .ok (.ireturn, 1) := by decide +kernel
theorem dX1_kindBy_60 : decode cX1_kindBy 60 = .ok (.iconst 4, 1) := by decide +kernel
theorem dX1_kindBy_61 : decode cX1_kindBy 61 = .ok (.ireturn, 1) := by decide +kernel
theorem dX1_kindBy_62 : decode cX1_kindBy 62 = .ok (.iconst 5, 1) := by decide +kernel
theorem dX1_kindBy_63 : decode cX1_kindBy 63 = .ok (.ireturn, 1) := by decide +kernel
theorem dX1_kindBy_64 : decode cX1_kindBy 64 = .ok (.iconst (-1), 1) := by decide +kernel
theorem dX1_kindBy_65 : decode cX1_kindBy 65 = .ok (.ireturn, 1) := by decide +kernel
theorem dX2_init_0 : decode cX2_init 0 = .ok (.aload_n 0, 1) := by decide +kernel
theorem dX2_init_1 : decode cX2_init 1 = .ok (.invokespecial 1, 3) := by decide +kernel
theorem dX2_init_4 : decode cX2_init 4 = .ok (.aload_n 0, 1) := by decide +kernel
theorem dX2_init_5 : decode cX2_init 5 = .ok (.lconst 0, 1) := by decide +kernel
theorem dX2_init_6 : decode cX2_init 6 = .ok (.putfield 7, 3) := by decide +kernel
theorem dX2_init_9 : decode cX2_init 9 = .ok (.aload_n 0, 1) := by decide +kernel
theorem dX2_init_10 : decode cX2_init 10 = .ok (.lconst 1, 1) := by decide +kernel
theorem dX2_init_11 : decode cX2_init 11 = .ok (.putfield 13, 3) := by decide +kernel
theorem dX2_init_14 : decode cX2_init 14 = .ok (.return_, 1) := by decide +kernel
theorem dX2_become_0 : decode cX2_become 0 = .ok (.lload_n 1, 1) := by decide +kernel
theorem dX2_become_1 : decode cX2_become 1 = .ok (.lload_n 3, 1) := by decide +kernel
theorem dX2_become_2 : decode cX2_become 2 = .ok (.invokestatic 16, 3) := by decide +kernel
theorem dX2_become_5 : decode cX2_become 5 = .ok (.lstore 5, 2) := by decide +kernel
theorem dX2_become_7 : decode cX2_become 7 = .ok (.lload_n 3, 1) := by decide +kernel
theorem dX2_become_8 : decode cX2_become 8 = .ok (.lconst 0, 1) := by decide +kernel
theorem dX2_become_9 : decode cX2_become 9 = .ok (.lcmp, 1) := by decide +kernel
theorem dX2_become_10 : decode cX2_become 10 = .ok (.ifCond .le 10, 3) := by decide +kernel
theorem dX2_become_13 : decode cX2_become 13 = .ok (.lload 5, 2) := by decide +kernel
theorem dX2_become_15 : decode cX2_become 15 = .ok (.lconst 0, 1) := by decide +kernel
theorem dX2_become_16 : decode cX2_become 16 = .ok (.lcmp, 1) := by decide +kernel
theorem dX2_become_17 : decode cX2_become 17 = .ok (.ifCond .gt 14, 3) := by decide +kernel
theorem dX2_become_20 : decode cX2_become 20 = .ok (.aload_n 0, 1) := by decide +kernel
theorem dX2_become_21 : decode cX2_become 21 = .ok (.lconst 0, 1) := by decide +kernel
theorem dX2_become_22 : decode cX2_become 22 = .ok (.putfield 7, 3) := by decide +kernel
theorem dX2_become_25 : decode cX2_become 25 = .ok (.aload_n 0, 1) := by decide +kernel
theorem dX2_become_26 : decode cX2_become 26 = .ok (.lconst 1, 1) := by decide +kernel
theorem dX2_become_27 : decode cX2_become 27 = .ok (.putfield 13, 3) := by decide +kernel
theorem dX2_become_30 : decode cX2_become 30 = .ok (.return_, 1) := by decide +kernel
theorem dX2_become_31 : decode cX2_become 31 = .ok (.aload_n 0, 1) := by decide +kernel
theorem dX2_become_32 : decode cX2_become 32 = .ok (.lload_n 1, 1) := by decide +kernel
theorem dX2_become_33 : decode cX2_become 33 = .ok (.lload 5, 2) := by decide +kernel
theorem dX2_become_35 : decode cX2_become 35 = .ok (.ldiv, 1) := by decide +kernel
theorem dX2_become_36 : decode cX2_become 36 = .ok (.putfield 7, 3) := by decide +kernel
theorem dX2_become_39 : decode cX2_become 39 = .ok (.aload_n 0, 1) := by decide +kernel
theorem dX2_become_40 : decode cX2_become 40 = .ok (.lload_n 3, 1) := by decide +kernel
theorem dX2_become_41 : decode cX2_become 41 = .ok (.lload 5, 2) := by decide +kernel
theorem dX2_become_43 : decode cX2_become 43 = .ok (.ldiv, 1) := by decide +kernel
theorem dX2_become_44 : decode cX2_become 44 = .ok (.putfield 13, 3) := by decide +kernel
theorem dX2_become_47 : decode cX2_become 47 = .ok (.return_, 1) := by decide +kernel
theorem dX2_commonDivisor_0 : decode cX2_commonDivisor 0 = .ok (.lload_n 0, 1) := by decide +kernel
theorem dX2_commonDivisor_1 : decode cX2_commonDivisor 1 = .ok (.lstore 4, 2) := by decide +kernel
theorem dX2_commonDivisor_3 : decode cX2_commonDivisor 3 = .ok (.lload_n 2, 1) := by decide +kernel
theorem dX2_commonDivisor_4 : decode cX2_commonDivisor 4 = .ok (.lstore 6, 2) := by decide +kernel
theorem dX2_commonDivisor_6 : decode cX2_commonDivisor 6 = .ok (.iconst 0, 1) := by decide +kernel
theorem dX2_commonDivisor_7 : decode cX2_commonDivisor 7 = .ok (.istore 8, 2) := by decide +kernel
theorem dX2_commonDivisor_9 : decode cX2_commonDivisor 9 = .ok (.iload 8, 2) := by decide +kernel
theorem dX2_commonDivisor_11 : decode cX2_commonDivisor 11 = .ok (.sipush 200, 3) := by decide +kernel
theorem dX2_commonDivisor_14 : decode cX2_commonDivisor 14 = .ok (.if_icmp .ge 31, 3) := by decide +kernel
theorem dX2_commonDivisor_17 : decode cX2_commonDivisor 17 = .ok (.lload 6, 2) := by decide +kernel
theorem dX2_commonDivisor_19 : decode cX2_commonDivisor 19 = .ok (.lconst 0, 1) := by decide +kernel
theorem dX2_commonDivisor_20 : decode cX2_commonDivisor 20 = .ok (.lcmp, 1) := by decide +kernel
theorem dX2_commonDivisor_21 : decode cX2_commonDivisor 21 = .ok (.ifCond .eq 24, 3) := by decide +kernel
theorem dX2_commonDivisor_24 : decode cX2_commonDivisor 24 = .ok (.lload 4, 2) := by decide +kernel
theorem dX2_commonDivisor_26 : decode cX2_commonDivisor 26 = .ok (.lload 6, 2) := by decide +kernel
theorem dX2_commonDivisor_28 : decode cX2_commonDivisor 28 = .ok (.lrem, 1) := by decide +kernel
theorem dX2_commonDivisor_29 : decode cX2_commonDivisor 29 = .ok (.lstore 9, 2) := by decide +kernel
theorem dX2_commonDivisor_31 : decode cX2_commonDivisor 31 = .ok (.lload 6, 2) := by decide +kernel
theorem dX2_commonDivisor_33 : decode cX2_commonDivisor 33 = .ok (.lstore 4, 2) := by decide +kernel
theorem dX2_commonDivisor_35 : decode cX2_commonDivisor 35 = .ok (.lload 9, 2) := by decide +kernel
theorem dX2_commonDivisor_37 : decode cX2_commonDivisor 37 = .ok (.lstore 6, 2) := by decide +kernel
theorem dX2_commonDivisor_39 : decode cX2_commonDivisor 39 = .ok (.iinc 8 1, 3) := by decide +kernel
theorem dX2_commonDivisor_42 : decode cX2_commonDivisor 42 = .ok (.goto (-33), 3) := by decide +kernel
theorem dX2_commonDivisor_45 : decode cX2_commonDivisor 45 = .ok (.lload 4, 2) := by decide +kernel
theorem dX2_commonDivisor_47 : decode cX2_commonDivisor 47 = .ok (.lreturn, 1) := by decide +kernel
theorem dX3_init_0 : decode cX3_init 0 = .ok (.aload_n 0, 1) := by decide +kernel
theorem dX3_init_1 : decode cX3_init 1 = .ok (.invokespecial 1, 3) := by decide +kernel
theorem dX3_init_4 : decode cX3_init 4 = .ok (.aload_n 0, 1) := by decide +kernel
theorem dX3_init_5 : decode cX3_init 5 = .ok (.iconst 1, 1) := by decide +kernel
theorem dX3_init_6 : decode cX3_init 6 = .ok (.putfield 7, 3) := by decide +kernel
theorem dX3_init_9 : decode cX3_init 9 = .ok (.return_, 1) := by decide +kernel
theorem dX3_drawBelow_0 : decode cX3_drawBelow 0 = .ok (.aload_n 0, 1) := by decide +kernel
theorem dX3_drawBelow_1 : decode cX3_drawBelow 1 = .ok (.aload_n 0, 1) := by decide +kernel
theorem dX3_drawBelow_2 : decode cX3_drawBelow 2 = .ok (.getfield 7, 3) := by decide +kernel
theorem dX3_drawBelow_5 : decode cX3_drawBelow 5 = .ok (.ldc 13, 2) := by decide +kernel
theorem dX3_drawBelow_7 : decode cX3_drawBelow 7 = .ok (.imul, 1) := by decide +kernel
theorem dX3_drawBelow_8 : decode cX3_drawBelow 8 = .ok (.sipush 12345, 3) := by decide +kernel
theorem dX3_drawBelow_11 : decode cX3_drawBelow 11 = .ok (.iadd, 1) := by decide +kernel
theorem dX3_drawBelow_12 : decode cX3_drawBelow 12 = .ok (.putfield 7, 3) := by decide +kernel
theorem dX3_drawBelow_15 : decode cX3_drawBelow 15 = .ok (.iload_n 1, 1) := by decide +kernel
theorem dX3_drawBelow_16 : decode cX3_drawBelow 16 = .ok (.ifCond .le 15, 3) := by decide +kernel
theorem dX3_drawBelow_19 : decode cX3_drawBelow 19 = .ok (.aload_n 0, 1) := by decide +kernel
theorem dX3_drawBelow_20 : decode cX3_drawBelow 20 = .ok (.getfield 7, 3) := by decide +kernel
theorem dX3_drawBelow_23 : decode cX3_drawBelow 23 = .ok (.bipush 16, 2) := by decide +kernel
theorem dX3_drawBelow_25 : decode cX3_drawBelow 25 = .ok (.iushr, 1) := by decide +kernel
theorem dX3_drawBelow_26 : decode cX3_drawBelow 26 = .ok (.iload_n 1, 1) := by decide +kernel
theorem dX3_drawBelow_27 : decode cX3_drawBelow 27 = .ok (.irem, 1) := by decide +kernel
theorem dX3_drawBelow_28 : decode cX3_drawBelow 28 = .ok (.goto 4, 3) := by decide +kernel
theorem dX3_drawBelow_31 : decode cX3_drawBelow 31 = .ok (.iconst 0, 1) := by decide +kernel
theorem dX3_drawBelow_32 : decode cX3_drawBelow 32 = .ok (.ireturn, 1) := by decide +kernel
theorem dX3_mixLinks_0 : decode cX3_mixLinks 0 = .ok (.iconst 0, 1) := by decide +kernel
theorem dX3_mixLinks_1 : decode cX3_mixLinks 1 = .ok (.istore_n 3, 1) := by decide +kernel
theorem dX3_mixLinks_2 : decode cX3_mixLinks 2 = .ok (.aload_n 1, 1) := by decide +kernel
theorem dX3_mixLinks_3 : decode cX3_mixLinks 3 = .ok (.invokevirtual 14, 3) := by decide +kernel
theorem dX3_mixLinks_6 : decode cX3_mixLinks 6 = .ok (.istore 4, 2) := by decide +kernel
theorem dX3_mixLinks_8 : decode cX3_mixLinks 8 = .ok (.iconst 0, 1) := by decide +kernel
theorem dX3_mixLinks_9 : decode cX3_mixLinks 9 = .ok (.istore 5, 2) := by decide +kernel
theorem dX3_mixLinks_11 : decode cX3_mixLinks 11 = .ok (.iload 5, 2) := by decide +kernel
theorem dX3_mixLinks_13 : decode cX3_mixLinks 13 = .ok (.iload_n 2, 1) := by decide +kernel
theorem dX3_mixLinks_14 : decode cX3_mixLinks 14 = .ok (.if_icmp .ge 47, 3) := by decide +kernel
theorem dX3_mixLinks_17 : decode cX3_mixLinks 17 = .ok (.aload_n 0, 1) := by decide +kernel
theorem dX3_mixLinks_18 : decode cX3_mixLinks 18 = .ok (.iload 4, 2) := by decide +kernel
theorem dX3_mixLinks_20 : decode cX3_mixLinks 20 = .ok (.invokevirtual 20, 3) := by decide +kernel
theorem dX3_mixLinks_23 : decode cX3_mixLinks 23 = .ok (.istore 6, 2) := by decide +kernel
theorem dX3_mixLinks_25 : decode cX3_mixLinks 25 = .ok (.aload_n 0, 1) := by decide +kernel
theorem dX3_mixLinks_26 : decode cX3_mixLinks 26 = .ok (.iload 4, 2) := by decide +kernel
theorem dX3_mixLinks_28 : decode cX3_mixLinks 28 = .ok (.invokevirtual 20, 3) := by decide +kernel
theorem dX3_mixLinks_31 : decode cX3_mixLinks 31 = .ok (.istore 7, 2) := by decide +kernel
theorem dX3_mixLinks_33 : decode cX3_mixLinks 33 = .ok (.aload_n 1, 1) := by decide +kernel
theorem dX3_mixLinks_34 : decode cX3_mixLinks 34 = .ok (.aload_n 1, 1) := by decide +kernel
theorem dX3_mixLinks_35 : decode cX3_mixLinks 35 = .ok (.iload 6, 2) := by decide +kernel
theorem dX3_mixLinks_37 : decode cX3_mixLinks 37 = .ok (.invokevirtual 24, 3) := by decide +kernel
theorem dX3_mixLinks_40 : decode cX3_mixLinks 40 = .ok (.aload_n 1, 1) := by decide +kernel
theorem dX3_mixLinks_41 : decode cX3_mixLinks 41 = .ok (.iload 7, 2) := by decide +kernel
theorem dX3_mixLinks_43 : decode cX3_mixLinks 43 = .ok (.invokevirtual 24, 3) := by decide +kernel
theorem dX3_mixLinks_46 : decode cX3_mixLinks 46 = .ok (.invokevirtual 27, 3) := by decide +kernel
theorem dX3_mixLinks_49 : decode cX3_mixLinks 49 = .ok (.ifCond .eq 6, 3) := by decide +kernel
theorem dX3_mixLinks_52 : decode cX3_mixLinks 52 = .ok (.iinc 3 1, 3) := by decide +kernel
theorem dX3_mixLinks_55 : decode cX3_mixLinks 55 = .ok (.iinc 5 1, 3) := by decide +kernel
theorem dX3_mixLinks_58 : decode cX3_mixLinks 58 = .ok (.goto (-47), 3) := by decide +kernel
theorem dX3_mixLinks_61 : decode cX3_mixLinks 61 = .ok (.iload_n 3, 1) := by decide +kernel
theorem dX3_mixLinks_62 : decode cX3_mixLinks 62 = .ok (.ireturn, 1) := by decide +kernel
theorem dX4_init_0 : decode cX4_init 0 = .ok (.aload_n 0, 1) := by decide +kernel
theorem dX4_init_1 : decode cX4_init 1 = .ok (.invokespecial 3, 3) := by decide +kernel
theorem dX4_init_4 : decode cX4_init 4 = .ok (.aload_n 0, 1) := by decide +kernel
theorem dX4_init_5 : decode cX4_init 5 = .ok (.bipush 16, 2) := by decide +kernel
theorem dX4_init_7 : decode cX4_init 7 = .ok (.newarray .int, 2) := by decide +kernel
theorem dX4_init_9 : decode cX4_init 9 = .ok (.putfield 9, 3) := by decide +kernel
theorem dX4_init_12 : decode cX4_init 12 = .ok (.aload_n 0, 1) := by decide +kernel
theorem dX4_init_13 : decode cX4_init 13 = .ok (.bipush 16, 2) := by decide +kernel
theorem dX4_init_15 : decode cX4_init 15 = .ok (.newarray .int, 2) := by decide +kernel
theorem dX4_init_17 : decode cX4_init 17 = .ok (.putfield 15, 3) := by decide +kernel
theorem dX4_init_20 : decode cX4_init 20 = .ok (.aload_n 0, 1) := by decide +kernel
theorem dX4_init_21 : decode cX4_init 21 = .ok (.sipush 256, 3) := by decide +kernel
theorem dX4_init_24 : decode cX4_init 24 = .ok (.newarray .int, 2) := by decide +kernel
theorem dX4_init_26 : decode cX4_init 26 = .ok (.putfield 18, 3) := by decide +kernel
theorem dX4_init_29 : decode cX4_init 29 = .ok (.aload_n 0, 1) := by decide +kernel
theorem dX4_init_30 : decode cX4_init 30 = .ok (.iload_n 1, 1) := by decide +kernel
theorem dX4_init_31 : decode cX4_init 31 = .ok (.putfield 21, 3) := by decide +kernel
theorem dX4_init_34 : decode cX4_init 34 = .ok (.return_, 1) := by decide +kernel
theorem dX4_spot_0 : decode cX4_spot 0 = .ok (.iload_n 0, 1) := by decide +kernel
theorem dX4_spot_1 : decode cX4_spot 1 = .ok (.bipush 16, 2) := by decide +kernel
theorem dX4_spot_3 : decode cX4_spot 3 = .ok (.imul, 1) := by decide +kernel
theorem dX4_spot_4 : decode cX4_spot 4 = .ok (.iload_n 1, 1) := by decide +kernel
theorem dX4_spot_5 : decode cX4_spot 5 = .ok (.iadd, 1) := by decide +kernel
theorem dX4_spot_6 : decode cX4_spot 6 = .ok (.ireturn, 1) := by decide +kernel
theorem dX4_fromOf_0 : decode cX4_fromOf 0 = .ok (.iload_n 0, 1) := by decide +kernel
theorem dX4_fromOf_1 : decode cX4_fromOf 1 = .ok (.bipush 16, 2) := by decide +kernel
theorem dX4_fromOf_3 : decode cX4_fromOf 3 = .ok (.idiv, 1) := by decide +kernel
theorem dX4_fromOf_4 : decode cX4_fromOf 4 = .ok (.ireturn, 1) := by decide +kernel
theorem dX4_toOf_0 : decode cX4_toOf 0 = .ok (.iload_n 0, 1) := by decide +kernel
theorem dX4_toOf_1 : decode cX4_toOf 1 = .ok (.bipush 16, 2) := by decide +kernel
theorem dX4_toOf_3 : decode cX4_toOf 3 = .ok (.irem, 1) := by decide +kernel
theorem dX4_toOf_4 : decode cX4_toOf 4 = .ok (.ireturn, 1) := by decide +kernel
theorem dX4_startAnew_0 : decode cX4_startAnew 0 = .ok (.aload_n 0, 1) := by decide +kernel
theorem dX4_startAnew_1 : decode cX4_startAnew 1 = .ok (.iload_n 1, 1) := by decide +kernel
theorem dX4_startAnew_2 : decode cX4_startAnew 2 = .ok (.putfield 21, 3) := by decide +kernel
theorem dX4_startAnew_5 : decode cX4_startAnew 5 = .ok (.iconst 0, 1) := by decide +kernel
theorem dX4_startAnew_6 : decode cX4_startAnew 6 = .ok (.istore_n 2, 1) := by decide +kernel
theorem dX4_startAnew_7 : decode cX4_startAnew 7 = .ok (.iload_n 2, 1) := by decide +kernel
theorem dX4_startAnew_8 : decode cX4_startAnew 8 = .ok (.bipush 16, 2) := by decide +kernel
theorem dX4_startAnew_10 : decode cX4_startAnew 10 = .ok (.if_icmp .ge 23, 3) := by decide +kernel
theorem dX4_startAnew_13 : decode cX4_startAnew 13 = .ok (.aload_n 0, 1) := by decide +kernel
theorem dX4_startAnew_14 : decode cX4_startAnew 14 = .ok (.getfield 9, 3) := by decide +kernel
theorem dX4_startAnew_17 : decode cX4_startAnew 17 = .ok (.iload_n 2, 1) := by decide +kernel
theorem dX4_startAnew_18 : decode cX4_startAnew 18 = .ok (.iconst 0, 1) := by decide +kernel
theorem dX4_startAnew_19 : decode cX4_startAnew 19 = .ok (.iastore, 1) := by decide +kernel
theorem dX4_startAnew_20 : decode cX4_startAnew 20 = .ok (.aload_n 0, 1) := by decide +kernel
theorem dX4_startAnew_21 : decode cX4_startAnew 21 = .ok (.getfield 15, 3) := by decide +kernel
theorem dX4_startAnew_24 : decode cX4_startAnew 24 = .ok (.iload_n 2, 1) := by decide +kernel
theorem dX4_startAnew_25 : decode cX4_startAnew 25 = .ok (.iconst 0, 1) := by decide +kernel
theorem dX4_startAnew_26 : decode cX4_startAnew 26 = .ok (.iastore, 1) := by decide +kernel
theorem dX4_startAnew_27 : decode cX4_startAnew 27 = .ok (.iinc 2 1, 3) := by decide +kernel
theorem dX4_startAnew_30 : decode cX4_startAnew 30 = .ok (.goto (-23), 3) := by decide +kernel
theorem dX4_startAnew_33 : decode cX4_startAnew 33 = .ok (.return_, 1) := by decide +kernel
theorem dX4_becomeLike_0 : decode cX4_becomeLike 0 = .ok (.aload_n 0, 1) := by decide +kernel
theorem dX4_becomeLike_1 : decode cX4_becomeLike 1 = .ok (.aload_n 1, 1) := by decide +kernel
theorem dX4_becomeLike_2 : decode cX4_becomeLike 2 = .ok (.getfield 21, 3) := by decide +kernel
theorem dX4_becomeLike_5 : decode cX4_becomeLike 5 = .ok (.putfield 21, 3) := by decide +kernel
theorem dX4_becomeLike_8 : decode cX4_becomeLike 8 = .ok (.aload_n 1, 1) := by decide +kernel
theorem dX4_becomeLike_9 : decode cX4_becomeLike 9 = .ok (.getfield 9, 3) := by decide +kernel
theorem dX4_becomeLike_12 : decode cX4_becomeLike 12 = .ok (.iconst 0, 1) := by decide +kernel
theorem dX4_becomeLike_13 : decode cX4_becomeLike 13 = .ok (.aload_n 0, 1) := by decide +kernel
theorem dX4_becomeLike_14 : decode cX4_becomeLike 14 = .ok (.getfield 9, 3) := by decide +kernel
theorem dX4_becomeLike_17 : decode cX4_becomeLike 17 = .ok (.iconst 0, 1) := by decide +kernel
theorem dX4_becomeLike_18 : decode cX4_becomeLike 18 = .ok (.bipush 16, 2) := by decide +kernel
theorem dX4_becomeLike_20 : decode cX4_becomeLike 20 = .ok (.invokestatic 25, 3) := by decide +kernel
theorem dX4_becomeLike_23 : decode cX4_becomeLike 23 = .ok (.aload_n 1, 1) := by decide +kernel
theorem dX4_becomeLike_24 : decode cX4_becomeLike 24 = .ok (.getfield 15, 3) := by decide +kernel
theorem dX4_becomeLike_27 : decode cX4_becomeLike 27 = .ok (.iconst 0, 1) := by decide +kernel
theorem dX4_becomeLike_28 : decode cX4_becomeLike 28 = .ok (.aload_n 0, 1) := by decide +kernel
theorem dX4_becomeLike_29 : decode cX4_becomeLike 29 = .ok (.getfield 15, 3) := by decide +kernel
theorem dX4_becomeLike_32 : decode cX4_becomeLike 32 = .ok (.iconst 0, 1) := by decide +kernel
theorem dX4_becomeLike_33 : decode cX4_becomeLike 33 = .ok (.bipush 16, 2) := by decide +kernel
theorem dX4_becomeLike_35 : decode cX4_becomeLike 35 = .ok (.invokestatic 25, 3) := by decide +kernel
theorem dX4_becomeLike_38 : decode cX4_becomeLike 38 = .ok (.aload_n 1, 1) := by decide +kernel
theorem dX4_becomeLike_39 : decode cX4_becomeLike 39 = .ok (.getfield 18, 3) := by decide +kernel
theorem dX4_becomeLike_42 : decode cX4_becomeLike 42 = .ok (.iconst 0, 1) := by decide +kernel
theorem dX4_becomeLike_43 : decode cX4_becomeLike 43 = .ok (.aload_n 0, 1) := by decide +kernel
theorem dX4_becomeLike_44 : decode cX4_becomeLike 44 = .ok (.getfield 18, 3) := by decide +kernel
theorem dX4_becomeLike_47 : decode cX4_becomeLike 47 = .ok (.iconst 0, 1) := by decide +kernel
theorem dX4_becomeLike_48 : decode cX4_becomeLike 48 = .ok (.sipush 256, 3) := by decide +kernel
theorem dX4_becomeLike_51 : decode cX4_becomeLike 51 = .ok (.invokestatic 25, 3) := by decide +kernel
theorem dX4_becomeLike_54 : decode cX4_becomeLike 54 = .ok (.return_, 1) := by decide +kernel
theorem dX4_bit_0 : decode cX4_bit 0 = .ok (.aload_n 0, 1) := by decide +kernel
theorem dX4_bit_1 : decode cX4_bit 1 = .ok (.getfield 9, 3) := by decide +kernel
theorem dX4_bit_4 : decode cX4_bit 4 = .ok (.iload_n 1, 1) := by decide +kernel
theorem dX4_bit_5 : decode cX4_bit 5 = .ok (.iaload, 1) := by decide +kernel
theorem dX4_bit_6 : decode cX4_bit 6 = .ok (.iload_n 2, 1) := by decide +kernel
theorem dX4_bit_7 : decode cX4_bit 7 = .ok (.ishr, 1) := by decide +kernel
theorem dX4_bit_8 : decode cX4_bit 8 = .ok (.iconst 1, 1) := by decide +kernel
theorem dX4_bit_9 : decode cX4_bit 9 = .ok (.iand, 1) := by decide +kernel
theorem dX4_bit_10 : decode cX4_bit 10 = .ok (.ireturn, 1) := by decide +kernel
theorem dX4_has_0 : decode cX4_has 0 = .ok (.aload_n 0, 1) := by decide +kernel
theorem dX4_has_1 : decode cX4_has 1 = .ok (.iload_n 1, 1) := by decide +kernel
theorem dX4_has_2 : decode cX4_has 2 = .ok (.iload_n 2, 1) := by decide +kernel
theorem dX4_has_3 : decode cX4_has 3 = .ok (.invokevirtual 31, 3) := by decide +kernel
theorem dX4_has_6 : decode cX4_has 6 = .ok (.iconst 1, 1) := by decide +kernel
theorem dX4_has_7 : decode cX4_has 7 = .ok (.if_icmp .ne 7, 3) := by decide +kernel
theorem dX4_has_10 : decode cX4_has 10 = .ok (.iconst 1, 1) := by decide +kernel
theorem dX4_has_11 : decode cX4_has 11 = .ok (.goto 4, 3) := by decide +kernel
theorem dX4_has_14 : decode cX4_has 14 = .ok (.iconst 0, 1) := by decide +kernel
theorem dX4_has_15 : decode cX4_has 15 = .ok (.ireturn, 1) := by decide +kernel
theorem dX4_kindOf_0 : decode cX4_kindOf 0 = .ok (.aload_n 0, 1) := by decide +kernel
theorem dX4_kindOf_1 : decode cX4_kindOf 1 = .ok (.getfield 15, 3) := by decide +kernel
theorem dX4_kindOf_4 : decode cX4_kindOf 4 = .ok (.iload_n 1, 1) := by decide +kernel
theorem dX4_kindOf_5 : decode cX4_kindOf 5 = .ok (.iaload, 1) := by decide +kernel
theorem dX4_kindOf_6 : decode cX4_kindOf 6 = .ok (.iload_n 2, 1) := by decide +kernel
theorem dX4_kindOf_7 : decode cX4_kindOf 7 = .ok (.ishr, 1) := by decide +kernel
theorem dX4_kindOf_8 : decode cX4_kindOf 8 = .ok (.iconst 1, 1) := by decide +kernel
theorem dX4_kindOf_9 : decode cX4_kindOf 9 = .ok (.iand, 1) := by decide +kernel
theorem dX4_kindOf_10 : decode cX4_kindOf 10 = .ok (.ireturn, 1) := by decide +kernel
theorem dX4_timeOf_0 : decode cX4_timeOf 0 = .ok (.aload_n 0, 1) := by decide +kernel
theorem dX4_timeOf_1 : decode cX4_timeOf 1 = .ok (.iload_n 1, 1) := by decide +kernel
theorem dX4_timeOf_2 : decode cX4_timeOf 2 = .ok (.iload_n 2, 1) := by decide +kernel
theorem dX4_timeOf_3 : decode cX4_timeOf 3 = .ok (.invokevirtual 35, 3) := by decide +kernel
theorem dX4_timeOf_6 : decode cX4_timeOf 6 = .ok (.ifCond .eq 16, 3) := by decide +kernel
theorem dX4_timeOf_9 : decode cX4_timeOf 9 = .ok (.aload_n 0, 1) := by decide +kernel
theorem dX4_timeOf_10 : decode cX4_timeOf 10 = .ok (.getfield 18, 3) := by decide +kernel
theorem dX4_timeOf_13 : decode cX4_timeOf 13 = .ok (.iload_n 1, 1) := by decide +kernel
theorem dX4_timeOf_14 : decode cX4_timeOf 14 = .ok (.iload_n 2, 1) := by decide +kernel
theorem dX4_timeOf_15 : decode cX4_timeOf 15 = .ok (.invokestatic 39, 3) := by decide +kernel
theorem dX4_timeOf_18 : decode cX4_timeOf 18 = .ok (.iaload, 1) := by decide +kernel
theorem dX4_timeOf_19 : decode cX4_timeOf 19 = .ok (.goto 4, 3) := by decide +kernel
theorem dX4_timeOf_22 : decode cX4_timeOf 22 = .ok (.iconst 0, 1) := by decide +kernel
theorem dX4_timeOf_23 : decode cX4_timeOf 23 = .ok (.ireturn, 1) := by decide +kernel
theorem dX4_put_0 : decode cX4_put 0 = .ok (.aload_n 0, 1) := by decide +kernel
theorem dX4_put_1 : decode cX4_put 1 = .ok (.iload_n 1, 1) := by decide +kernel
theorem dX4_put_2 : decode cX4_put 2 = .ok (.iload_n 2, 1) := by decide +kernel
theorem dX4_put_3 : decode cX4_put 3 = .ok (.invokevirtual 42, 3) := by decide +kernel
theorem dX4_put_6 : decode cX4_put 6 = .ok (.aload_n 0, 1) := by decide +kernel
theorem dX4_put_7 : decode cX4_put 7 = .ok (.getfield 9, 3) := by decide +kernel
theorem dX4_put_10 : decode cX4_put 10 = .ok (.iload_n 1, 1) := by decide +kernel
theorem dX4_put_11 : decode cX4_put 11 = .ok (.dup2, 1) := by decide +kernel
theorem dX4_put_12 : decode cX4_put 12 = .ok (.iaload, 1) := by decide +kernel
theorem dX4_put_13 : decode cX4_put 13 = .ok (.iconst 1, 1) := by decide +kernel
theorem dX4_put_14 : decode cX4_put 14 = .ok (.iload_n 2, 1) := by decide +kernel
theorem dX4_put_15 : decode cX4_put 15 = .ok (.ishl, 1) := by decide +kernel
theorem dX4_put_16 : decode cX4_put 16 = .ok (.ior, 1) := by decide +kernel
theorem dX4_put_17 : decode cX4_put 17 = .ok (.iastore, 1) := by decide +kernel
theorem dX4_put_18 : decode cX4_put 18 = .ok (.aload_n 0, 1) := by decide +kernel
theorem dX4_put_19 : decode cX4_put 19 = .ok (.getfield 15, 3) := by decide +kernel
theorem dX4_put_22 : decode cX4_put 22 = .ok (.iload_n 1, 1) := by decide +kernel
theorem dX4_put_23 : decode cX4_put 23 = .ok (.dup2, 1) := by decide +kernel
theorem dX4_put_24 : decode cX4_put 24 = .ok (.iaload, 1) := by decide +kernel
theorem dX4_put_25 : decode cX4_put 25 = .ok (.iload_n 3, 1) := by decide +kernel
theorem dX4_put_26 : decode cX4_put 26 = .ok (.iload_n 2, 1) := by decide +kernel
theorem dX4_put_27 : decode cX4_put 27 = .ok (.ishl, 1) := by decide +kernel
theorem dX4_put_28 : decode cX4_put 28 = .ok (.ior, 1) := by decide +kernel
theorem dX4_put_29 : decode cX4_put 29 = .ok (.iastore, 1) := by decide +kernel
theorem dX4_put_30 : decode cX4_put 30 = .ok (.aload_n 0, 1) := by decide +kernel
theorem dX4_put_31 : decode cX4_put 31 = .ok (.getfield 18, 3) := by decide +kernel
theorem dX4_put_34 : decode cX4_put 34 = .ok (.iload_n 1, 1) := by decide +kernel
theorem dX4_put_35 : decode cX4_put 35 = .ok (.iload_n 2, 1) := by decide +kernel
theorem dX4_put_36 : decode cX4_put 36 = .ok (.invokestatic 39, 3) := by decide +kernel
theorem dX4_put_39 : decode cX4_put 39 = .ok (.iload 4, 2) := by decide +kernel
theorem dX4_put_41 : decode cX4_put 41 = .ok (.iastore, 1) := by decide +kernel
theorem dX4_put_42 : decode cX4_put 42 = .ok (.return_, 1) := by decide +kernel
theorem dX4_drop_0 : decode cX4_drop 0 = .ok (.aload_n 0, 1) := by decide +kernel
theorem dX4_drop_1 : decode cX4_drop 1 = .ok (.getfield 9, 3) := by decide +kernel
theorem dX4_drop_4 : decode cX4_drop 4 = .ok (.iload_n 1, 1) := by decide +kernel
theorem dX4_drop_5 : decode cX4_drop 5 = .ok (.dup2, 1) := by decide +kernel
theorem dX4_drop_6 : decode cX4_drop 6 = .ok (.iaload, 1) := by decide +kernel
theorem dX4_drop_7 : decode cX4_drop 7 = .ok (.iconst 1, 1) := by decide +kernel
theorem dX4_drop_8 : decode cX4_drop 8 = .ok (.iload_n 2, 1) := by decide +kernel
theorem dX4_drop_9 : decode cX4_drop 9 = .ok (.ishl, 1) := by decide +kernel
theorem dX4_drop_10 : decode cX4_drop 10 = .ok (.iconst (-1), 1) := by decide +kernel
theorem dX4_drop_11 : decode cX4_drop 11 = .ok (.ixor, 1) := by decide +kernel
theorem dX4_drop_12 : decode cX4_drop 12 = .ok (.iand, 1) := by decide +kernel
theorem dX4_drop_13 : decode cX4_drop 13 = .ok (.iastore, 1) := by decide +kernel
theorem dX4_drop_14 : decode cX4_drop 14 = .ok (.aload_n 0, 1) := by decide +kernel
theorem dX4_drop_15 : decode cX4_drop 15 = .ok (.getfield 15, 3) := by decide +kernel
theorem dX4_drop_18 : decode cX4_drop 18 = .ok (.iload_n 1, 1) := by decide +kernel
theorem dX4_drop_19 : decode cX4_drop 19 = .ok (.dup2, 1) := by decide +kernel
theorem dX4_drop_20 : decode cX4_drop 20 = .ok (.iaload, 1) := by decide +kernel
theorem dX4_drop_21 : decode cX4_drop 21 = .ok (.iconst 1, 1) := by decide +kernel
theorem dX4_drop_22 : decode cX4_drop 22 = .ok (.iload_n 2, 1) := by decide +kernel
theorem dX4_drop_23 : decode cX4_drop 23 = .ok (.ishl, 1) := by decide +kernel
theorem dX4_drop_24 : decode cX4_drop 24 = .ok (.iconst (-1), 1) := by decide +kernel
theorem dX4_drop_25 : decode cX4_drop 25 = .ok (.ixor, 1) := by decide +kernel
theorem dX4_drop_26 : decode cX4_drop 26 = .ok (.iand, 1) := by decide +kernel
theorem dX4_drop_27 : decode cX4_drop 27 = .ok (.iastore, 1) := by decide +kernel
theorem dX4_drop_28 : decode cX4_drop 28 = .ok (.return_, 1) := by decide +kernel
theorem dX4_everyPost_0 : decode cX4_everyPost 0 = .ok (.iconst 1, 1) := by decide +kernel
theorem dX4_everyPost_1 : decode cX4_everyPost 1 = .ok (.aload_n 0, 1) := by decide +kernel
theorem dX4_everyPost_2 : decode cX4_everyPost 2 = .ok (.getfield 21, 3) := by decide +kernel
theorem dX4_everyPost_5 : decode cX4_everyPost 5 = .ok (.ishl, 1) := by decide +kernel
theorem dX4_everyPost_6 : decode cX4_everyPost 6 = .ok (.iconst 1, 1) := by decide +kernel
theorem dX4_everyPost_7 : decode cX4_everyPost 7 = .ok (.isub, 1) := by decide +kernel
theorem dX4_everyPost_8 : decode cX4_everyPost 8 = .ok (.ireturn, 1) := by decide +kernel
theorem dX4_into_0 : decode cX4_into 0 = .ok (.iconst 0, 1) := by decide +kernel
theorem dX4_into_1 : decode cX4_into 1 = .ok (.istore_n 2, 1) := by decide +kernel
theorem dX4_into_2 : decode cX4_into 2 = .ok (.iconst 0, 1) := by decide +kernel
theorem dX4_into_3 : decode cX4_into 3 = .ok (.istore_n 3, 1) := by decide +kernel
theorem dX4_into_4 : decode cX4_into 4 = .ok (.iload_n 3, 1) := by decide +kernel
theorem dX4_into_5 : decode cX4_into 5 = .ok (.aload_n 0, 1) := by decide +kernel
theorem dX4_into_6 : decode cX4_into 6 = .ok (.getfield 21, 3) := by decide +kernel
theorem dX4_into_9 : decode cX4_into 9 = .ok (.if_icmp .ge 20, 3) := by decide +kernel
theorem dX4_into_12 : decode cX4_into 12 = .ok (.iload_n 2, 1) := by decide +kernel
theorem dX4_into_13 : decode cX4_into 13 = .ok (.aload_n 0, 1) := by decide +kernel
theorem dX4_into_14 : decode cX4_into 14 = .ok (.iload_n 3, 1) := by decide +kernel
theorem dX4_into_15 : decode cX4_into 15 = .ok (.iload_n 1, 1) := by decide +kernel
theorem dX4_into_16 : decode cX4_into 16 = .ok (.invokevirtual 31, 3) := by decide +kernel
theorem dX4_into_19 : decode cX4_into 19 = .ok (.iload_n 3, 1) := by decide +kernel
theorem dX4_into_20 : decode cX4_into 20 = .ok (.ishl, 1) := by decide +kernel
theorem dX4_into_21 : decode cX4_into 21 = .ok (.ior, 1) := by decide +kernel
theorem dX4_into_22 : decode cX4_into 22 = .ok (.istore_n 2, 1) := by decide +kernel
theorem dX4_into_23 : decode cX4_into 23 = .ok (.iinc 3 1, 3) := by decide +kernel
theorem dX4_into_26 : decode cX4_into 26 = .ok (.goto (-22), 3) := by decide +kernel
theorem dX4_into_29 : decode cX4_into 29 = .ok (.iload_n 2, 1) := by decide +kernel
theorem dX4_into_30 : decode cX4_into 30 = .ok (.ireturn, 1) := by decide +kernel
theorem dX4_beside_0 : decode cX4_beside 0 = .ok (.aload_n 0, 1) := by decide +kernel
theorem dX4_beside_1 : decode cX4_beside 1 = .ok (.getfield 9, 3) := by decide +kernel
theorem dX4_beside_4 : decode cX4_beside 4 = .ok (.iload_n 1, 1) := by decide +kernel
theorem dX4_beside_5 : decode cX4_beside 5 = .ok (.iaload, 1) := by decide +kernel
theorem dX4_beside_6 : decode cX4_beside 6 = .ok (.aload_n 0, 1) := by decide +kernel
theorem dX4_beside_7 : decode cX4_beside 7 = .ok (.iload_n 1, 1) := by decide +kernel
theorem dX4_beside_8 : decode cX4_beside 8 = .ok (.invokevirtual 46, 3) := by decide +kernel
theorem dX4_beside_11 : decode cX4_beside 11 = .ok (.ior, 1) := by decide +kernel
theorem dX4_beside_12 : decode cX4_beside 12 = .ok (.ireturn, 1) := by decide +kernel
theorem dX4_opposed_0 : decode cX4_opposed 0 = .ok (.aload_n 0, 1) := by decide +kernel
theorem dX4_opposed_1 : decode cX4_opposed 1 = .ok (.getfield 15, 3) := by decide +kernel
theorem dX4_opposed_4 : decode cX4_opposed 4 = .ok (.iload_n 1, 1) := by decide +kernel
theorem dX4_opposed_5 : decode cX4_opposed 5 = .ok (.iaload, 1) := by decide +kernel
theorem dX4_opposed_6 : decode cX4_opposed 6 = .ok (.istore_n 2, 1) := by decide +kernel
theorem dX4_opposed_7 : decode cX4_opposed 7 = .ok (.iconst 0, 1) := by decide +kernel
theorem dX4_opposed_8 : decode cX4_opposed 8 = .ok (.istore_n 3, 1) := by decide +kernel
theorem dX4_opposed_9 : decode cX4_opposed 9 = .ok (.iload_n 3, 1) := by decide +kernel
theorem dX4_opposed_10 : decode cX4_opposed 10 = .ok (.aload_n 0, 1) := by decide +kernel
theorem dX4_opposed_11 : decode cX4_opposed 11 = .ok (.getfield 21, 3) := by decide +kernel
theorem dX4_opposed_14 : decode cX4_opposed 14 = .ok (.if_icmp .ge 20, 3) := by decide +kernel
theorem dX4_opposed_17 : decode cX4_opposed 17 = .ok (.iload_n 2, 1) := by decide +kernel
theorem dX4_opposed_18 : decode cX4_opposed 18 = .ok (.aload_n 0, 1) := by decide +kernel
theorem dX4_opposed_19 : decode cX4_opposed 19 = .ok (.iload_n 3, 1) := by decide +kernel
theorem dX4_opposed_20 : decode cX4_opposed 20 = .ok (.iload_n 1, 1) := by decide +kernel
theorem dX4_opposed_21 : decode cX4_opposed 21 = .ok (.invokevirtual 50, 3) := by decide +kernel
theorem dX4_opposed_24 : decode cX4_opposed 24 = .ok (.iload_n 3, 1) := by decide +kernel
theorem dX4_opposed_25 : decode cX4_opposed 25 = .ok (.ishl, 1) := by decide +kernel
theorem dX4_opposed_26 : decode cX4_opposed 26 = .ok (.ior, 1) := by decide +kernel
theorem dX4_opposed_27 : decode cX4_opposed 27 = .ok (.istore_n 2, 1) := by decide +kernel
theorem dX4_opposed_28 : decode cX4_opposed 28 = .ok (.iinc 3 1, 3) := by decide +kernel
theorem dX4_opposed_31 : decode cX4_opposed 31 = .ok (.goto (-22), 3) := by decide +kernel
theorem dX4_opposed_34 : decode cX4_opposed 34 = .ok (.iload_n 2, 1) := by decide +kernel
theorem dX4_opposed_35 : decode cX4_opposed 35 = .ok (.ireturn, 1) := by decide +kernel
theorem dX4_besideBit_0 : decode cX4_besideBit 0 = .ok (.aload_n 0, 1) := by decide +kernel
theorem dX4_besideBit_1 : decode cX4_besideBit 1 = .ok (.iload_n 1, 1) := by decide +kernel
theorem dX4_besideBit_2 : decode cX4_besideBit 2 = .ok (.iload_n 2, 1) := by decide +kernel
theorem dX4_besideBit_3 : decode cX4_besideBit 3 = .ok (.invokevirtual 31, 3) := by decide +kernel
theorem dX4_besideBit_6 : decode cX4_besideBit 6 = .ok (.aload_n 0, 1) := by decide +kernel
theorem dX4_besideBit_7 : decode cX4_besideBit 7 = .ok (.iload_n 2, 1) := by decide +kernel
theorem dX4_besideBit_8 : decode cX4_besideBit 8 = .ok (.iload_n 1, 1) := by decide +kernel
theorem dX4_besideBit_9 : decode cX4_besideBit 9 = .ok (.invokevirtual 31, 3) := by decide +kernel
theorem dX4_besideBit_12 : decode cX4_besideBit 12 = .ok (.ior, 1) := by decide +kernel
theorem dX4_besideBit_13 : decode cX4_besideBit 13 = .ok (.ireturn, 1) := by decide +kernel
theorem dX4_opposedBit_0 : decode cX4_opposedBit 0 = .ok (.aload_n 0, 1) := by decide +kernel
theorem dX4_opposedBit_1 : decode cX4_opposedBit 1 = .ok (.iload_n 1, 1) := by decide +kernel
theorem dX4_opposedBit_2 : decode cX4_opposedBit 2 = .ok (.iload_n 2, 1) := by decide +kernel
theorem dX4_opposedBit_3 : decode cX4_opposedBit 3 = .ok (.invokevirtual 50, 3) := by decide +kernel
theorem dX4_opposedBit_6 : decode cX4_opposedBit 6 = .ok (.aload_n 0, 1) := by decide +kernel
theorem dX4_opposedBit_7 : decode cX4_opposedBit 7 = .ok (.iload_n 2, 1) := by decide +kernel
theorem dX4_opposedBit_8 : decode cX4_opposedBit 8 = .ok (.iload_n 1, 1) := by decide +kernel
theorem dX4_opposedBit_9 : decode cX4_opposedBit 9 = .ok (.invokevirtual 50, 3) := by decide +kernel
theorem dX4_opposedBit_12 : decode cX4_opposedBit 12 = .ok (.ior, 1) := by decide +kernel
theorem dX4_opposedBit_13 : decode cX4_opposedBit 13 = .ok (.ireturn, 1) := by decide +kernel
theorem dX4_linkCount_0 : decode cX4_linkCount 0 = .ok (.iconst 0, 1) := by decide +kernel
theorem dX4_linkCount_1 : decode cX4_linkCount 1 = .ok (.istore_n 1, 1) := by decide +kernel
theorem dX4_linkCount_2 : decode cX4_linkCount 2 = .ok (.iconst 0, 1) := by decide +kernel
theorem dX4_linkCount_3 : decode cX4_linkCount 3 = .ok (.istore_n 2, 1) := by decide +kernel
theorem dX4_linkCount_4 : decode cX4_linkCount 4 = .ok (.iload_n 2, 1) := by decide +kernel
theorem dX4_linkCount_5 : decode cX4_linkCount 5 = .ok (.aload_n 0, 1) := by decide +kernel
theorem dX4_linkCount_6 : decode cX4_linkCount 6 = .ok (.getfield 21, 3) := by decide +kernel
theorem dX4_linkCount_9 : decode cX4_linkCount 9 = .ok (.if_icmp .ge 21, 3) := by decide +kernel
theorem dX4_linkCount_12 : decode cX4_linkCount 12 = .ok (.iload_n 1, 1) := by decide +kernel
theorem dX4_linkCount_13 : decode cX4_linkCount 13 = .ok (.aload_n 0, 1) := by decide +kernel
theorem dX4_linkCount_14 : decode cX4_linkCount 14 = .ok (.getfield 9, 3) := by decide +kernel
theorem dX4_linkCount_17 : decode cX4_linkCount 17 = .ok (.iload_n 2, 1) := by decide +kernel
theorem dX4_linkCount_18 : decode cX4_linkCount 18 = .ok (.iaload, 1) := by decide +kernel
theorem dX4_linkCount_19 : decode cX4_linkCount 19 = .ok (.invokestatic 53, 3) := by decide +kernel
theorem dX4_linkCount_22 : decode cX4_linkCount 22 = .ok (.iadd, 1) := by decide +kernel
theorem dX4_linkCount_23 : decode cX4_linkCount 23 = .ok (.istore_n 1, 1) := by decide +kernel
theorem dX4_linkCount_24 : decode cX4_linkCount 24 = .ok (.iinc 2 1, 3) := by decide +kernel
theorem dX4_linkCount_27 : decode cX4_linkCount 27 = .ok (.goto (-23), 3) := by decide +kernel
theorem dX4_linkCount_30 : decode cX4_linkCount 30 = .ok (.iload_n 1, 1) := by decide +kernel
theorem dX4_linkCount_31 : decode cX4_linkCount 31 = .ok (.ireturn, 1) := by decide +kernel
theorem dX4_againstCount_0 : decode cX4_againstCount 0 = .ok (.iconst 0, 1) := by decide +kernel
theorem dX4_againstCount_1 : decode cX4_againstCount 1 = .ok (.istore_n 1, 1) := by decide +kernel
theorem dX4_againstCount_2 : decode cX4_againstCount 2 = .ok (.iconst 0, 1) := by decide +kernel
theorem dX4_againstCount_3 : decode cX4_againstCount 3 = .ok (.istore_n 2, 1) := by decide +kernel
theorem dX4_againstCount_4 : decode cX4_againstCount 4 = .ok (.iload_n 2, 1) := by decide +kernel
theorem dX4_againstCount_5 : decode cX4_againstCount 5 = .ok (.aload_n 0, 1) := by decide +kernel
theorem dX4_againstCount_6 : decode cX4_againstCount 6 = .ok (.getfield 21, 3) := by decide +kernel
theorem dX4_againstCount_9 : decode cX4_againstCount 9 = .ok (.if_icmp .ge 21, 3) := by decide +kernel
theorem dX4_againstCount_12 : decode cX4_againstCount 12 = .ok (.iload_n 1, 1) := by decide +kernel
theorem dX4_againstCount_13 : decode cX4_againstCount 13 = .ok (.aload_n 0, 1) := by decide +kernel
theorem dX4_againstCount_14 : decode cX4_againstCount 14 = .ok (.getfield 15, 3) := by decide +kernel
theorem dX4_againstCount_17 : decode cX4_againstCount 17 = .ok (.iload_n 2, 1) := by decide +kernel
theorem dX4_againstCount_18 : decode cX4_againstCount 18 = .ok (.iaload, 1) := by decide +kernel
theorem dX4_againstCount_19 : decode cX4_againstCount 19 = .ok (.invokestatic 53, 3) := by decide +kernel
theorem dX4_againstCount_22 : decode cX4_againstCount 22 = .ok (.iadd, 1) := by decide +kernel
theorem dX4_againstCount_23 : decode cX4_againstCount 23 = .ok (.istore_n 1, 1) := by decide +kernel
theorem dX4_againstCount_24 : decode cX4_againstCount 24 = .ok (.iinc 2 1, 3) := by decide +kernel
theorem dX4_againstCount_27 : decode cX4_againstCount 27 = .ok (.goto (-23), 3) := by decide +kernel
theorem dX4_againstCount_30 : decode cX4_againstCount 30 = .ok (.iload_n 1, 1) := by decide +kernel
theorem dX4_againstCount_31 : decode cX4_againstCount 31 = .ok (.ireturn, 1) := by decide +kernel
theorem dX4_besideCount_0 : decode cX4_besideCount 0 = .ok (.iconst 0, 1) := by decide +kernel
theorem dX4_besideCount_1 : decode cX4_besideCount 1 = .ok (.istore_n 1, 1) := by decide +kernel
theorem dX4_besideCount_2 : decode cX4_besideCount 2 = .ok (.iconst 0, 1) := by decide +kernel
theorem dX4_besideCount_3 : decode cX4_besideCount 3 = .ok (.istore_n 2, 1) := by decide +kernel
theorem dX4_besideCount_4 : decode cX4_besideCount 4 = .ok (.iload_n 2, 1) := by decide +kernel
theorem dX4_besideCount_5 : decode cX4_besideCount 5 = .ok (.aload_n 0, 1) := by decide +kernel
theorem dX4_besideCount_6 : decode cX4_besideCount 6 = .ok (.getfield 21, 3) := by decide +kernel
theorem dX4_besideCount_9 : decode cX4_besideCount 9 = .ok (.if_icmp .ge 36, 3) := by decide +kernel
theorem dX4_besideCount_12 : decode cX4_besideCount 12 = .ok (.iload_n 2, 1) := by decide +kernel
theorem dX4_besideCount_13 : decode cX4_besideCount 13 = .ok (.iconst 1, 1) := by decide +kernel
theorem dX4_besideCount_14 : decode cX4_besideCount 14 = .ok (.iadd, 1) := by decide +kernel
theorem dX4_besideCount_15 : decode cX4_besideCount 15 = .ok (.istore_n 3, 1) := by decide +kernel
theorem dX4_besideCount_16 : decode cX4_besideCount 16 = .ok (.iload_n 3, 1) := by decide +kernel
theorem dX4_besideCount_17 : decode cX4_besideCount 17 = .ok (.aload_n 0, 1) := by decide +kernel
theorem dX4_besideCount_18 : decode cX4_besideCount 18 = .ok (.getfield 21, 3) := by decide +kernel
theorem dX4_besideCount_21 : decode cX4_besideCount 21 = .ok (.if_icmp .ge 18, 3) := by decide +kernel
theorem dX4_besideCount_24 : decode cX4_besideCount 24 = .ok (.iload_n 1, 1) := by decide +kernel
theorem dX4_besideCount_25 : decode cX4_besideCount 25 = .ok (.aload_n 0, 1) := by decide +kernel
theorem dX4_besideCount_26 : decode cX4_besideCount 26 = .ok (.iload_n 2, 1) := by decide +kernel
theorem dX4_besideCount_27 : decode cX4_besideCount 27 = .ok (.iload_n 3, 1) := by decide +kernel
theorem dX4_besideCount_28 : decode cX4_besideCount 28 = .ok (.invokevirtual 58, 3) := by decide +kernel
theorem dX4_besideCount_31 : decode cX4_besideCount 31 = .ok (.iadd, 1) := by decide +kernel
theorem dX4_besideCount_32 : decode cX4_besideCount 32 = .ok (.istore_n 1, 1) := by decide +kernel
theorem dX4_besideCount_33 : decode cX4_besideCount 33 = .ok (.iinc 3 1, 3) := by decide +kernel
theorem dX4_besideCount_36 : decode cX4_besideCount 36 = .ok (.goto (-20), 3) := by decide +kernel
theorem dX4_besideCount_39 : decode cX4_besideCount 39 = .ok (.iinc 2 1, 3) := by decide +kernel
theorem dX4_besideCount_42 : decode cX4_besideCount 42 = .ok (.goto (-38), 3) := by decide +kernel
theorem dX4_besideCount_45 : decode cX4_besideCount 45 = .ok (.iload_n 1, 1) := by decide +kernel
theorem dX4_besideCount_46 : decode cX4_besideCount 46 = .ok (.ireturn, 1) := by decide +kernel
theorem dX4_codeOf_0 : decode cX4_codeOf 0 = .ok (.aload_n 0, 1) := by decide +kernel
theorem dX4_codeOf_1 : decode cX4_codeOf 1 = .ok (.iload_n 1, 1) := by decide +kernel
theorem dX4_codeOf_2 : decode cX4_codeOf 2 = .ok (.iload_n 2, 1) := by decide +kernel
theorem dX4_codeOf_3 : decode cX4_codeOf 3 = .ok (.invokevirtual 31, 3) := by decide +kernel
theorem dX4_codeOf_6 : decode cX4_codeOf 6 = .ok (.aload_n 0, 1) := by decide +kernel
theorem dX4_codeOf_7 : decode cX4_codeOf 7 = .ok (.iload_n 1, 1) := by decide +kernel
theorem dX4_codeOf_8 : decode cX4_codeOf 8 = .ok (.iload_n 3, 1) := by decide +kernel
theorem dX4_codeOf_9 : decode cX4_codeOf 9 = .ok (.invokevirtual 31, 3) := by decide +kernel
theorem dX4_codeOf_12 : decode cX4_codeOf 12 = .ok (.iconst 1, 1) := by decide +kernel
theorem dX4_codeOf_13 : decode cX4_codeOf 13 = .ok (.ishl, 1) := by decide +kernel
theorem dX4_codeOf_14 : decode cX4_codeOf 14 = .ok (.ior, 1) := by decide +kernel
theorem dX4_codeOf_15 : decode cX4_codeOf 15 = .ok (.aload_n 0, 1) := by decide +kernel
theorem dX4_codeOf_16 : decode cX4_codeOf 16 = .ok (.iload_n 2, 1) := by decide +kernel
theorem dX4_codeOf_17 : decode cX4_codeOf 17 = .ok (.iload_n 1, 1) := by decide +kernel
theorem dX4_codeOf_18 : decode cX4_codeOf 18 = .ok (.invokevirtual 31, 3) := by decide +kernel
theorem dX4_codeOf_21 : decode cX4_codeOf 21 = .ok (.iconst 2, 1) := by decide +kernel
theorem dX4_codeOf_22 : decode cX4_codeOf 22 = .ok (.ishl, 1) := by decide +kernel
theorem dX4_codeOf_23 : decode cX4_codeOf 23 = .ok (.ior, 1) := by decide +kernel
theorem dX4_codeOf_24 : decode cX4_codeOf 24 = .ok (.aload_n 0, 1) := by decide +kernel
theorem dX4_codeOf_25 : decode cX4_codeOf 25 = .ok (.iload_n 2, 1) := by decide +kernel
theorem dX4_codeOf_26 : decode cX4_codeOf 26 = .ok (.iload_n 3, 1) := by decide +kernel
theorem dX4_codeOf_27 : decode cX4_codeOf 27 = .ok (.invokevirtual 31, 3) := by decide +kernel
theorem dX4_codeOf_30 : decode cX4_codeOf 30 = .ok (.iconst 3, 1) := by decide +kernel
theorem dX4_codeOf_31 : decode cX4_codeOf 31 = .ok (.ishl, 1) := by decide +kernel
theorem dX4_codeOf_32 : decode cX4_codeOf 32 = .ok (.ior, 1) := by decide +kernel
theorem dX4_codeOf_33 : decode cX4_codeOf 33 = .ok (.aload_n 0, 1) := by decide +kernel
theorem dX4_codeOf_34 : decode cX4_codeOf 34 = .ok (.iload_n 3, 1) := by decide +kernel
theorem dX4_codeOf_35 : decode cX4_codeOf 35 = .ok (.iload_n 1, 1) := by decide +kernel
theorem dX4_codeOf_36 : decode cX4_codeOf 36 = .ok (.invokevirtual 31, 3) := by decide +kernel
theorem dX4_codeOf_39 : decode cX4_codeOf 39 = .ok (.iconst 4, 1) := by decide +kernel
theorem dX4_codeOf_40 : decode cX4_codeOf 40 = .ok (.ishl, 1) := by decide +kernel
theorem dX4_codeOf_41 : decode cX4_codeOf 41 = .ok (.ior, 1) := by decide +kernel
theorem dX4_codeOf_42 : decode cX4_codeOf 42 = .ok (.aload_n 0, 1) := by decide +kernel
theorem dX4_codeOf_43 : decode cX4_codeOf 43 = .ok (.iload_n 3, 1) := by decide +kernel
theorem dX4_codeOf_44 : decode cX4_codeOf 44 = .ok (.iload_n 2, 1) := by decide +kernel
theorem dX4_codeOf_45 : decode cX4_codeOf 45 = .ok (.invokevirtual 31, 3) := by decide +kernel
theorem dX4_codeOf_48 : decode cX4_codeOf 48 = .ok (.iconst 5, 1) := by decide +kernel
theorem dX4_codeOf_49 : decode cX4_codeOf 49 = .ok (.ishl, 1) := by decide +kernel
theorem dX4_codeOf_50 : decode cX4_codeOf 50 = .ok (.ior, 1) := by decide +kernel
theorem dX4_codeOf_51 : decode cX4_codeOf 51 = .ok (.ireturn, 1) := by decide +kernel
theorem dX4_spotOf_0 : decode cX4_spotOf 0 = .ok (.iload_n 1, 1) := by decide +kernel
theorem dX4_spotOf_1 : decode cX4_spotOf 1 = .ok (.istore_n 2, 1) := by decide +kernel
theorem dX4_spotOf_2 : decode cX4_spotOf 2 = .ok (.iconst 0, 1) := by decide +kernel
theorem dX4_spotOf_3 : decode cX4_spotOf 3 = .ok (.istore_n 3, 1) := by decide +kernel
theorem dX4_spotOf_4 : decode cX4_spotOf 4 = .ok (.iload_n 3, 1) := by decide +kernel
theorem dX4_spotOf_5 : decode cX4_spotOf 5 = .ok (.aload_n 0, 1) := by decide +kernel
theorem dX4_spotOf_6 : decode cX4_spotOf 6 = .ok (.getfield 21, 3) := by decide +kernel
theorem dX4_spotOf_9 : decode cX4_spotOf 9 = .ok (.if_icmp .ge 46, 3) := by decide +kernel
theorem dX4_spotOf_12 : decode cX4_spotOf 12 = .ok (.aload_n 0, 1) := by decide +kernel
theorem dX4_spotOf_13 : decode cX4_spotOf 13 = .ok (.getfield 9, 3) := by decide +kernel
theorem dX4_spotOf_16 : decode cX4_spotOf 16 = .ok (.iload_n 3, 1) := by decide +kernel
theorem dX4_spotOf_17 : decode cX4_spotOf 17 = .ok (.iaload, 1) := by decide +kernel
theorem dX4_spotOf_18 : decode cX4_spotOf 18 = .ok (.invokestatic 53, 3) := by decide +kernel
theorem dX4_spotOf_21 : decode cX4_spotOf 21 = .ok (.istore 4, 2) := by decide +kernel
theorem dX4_spotOf_23 : decode cX4_spotOf 23 = .ok (.iload_n 2, 1) := by decide +kernel
theorem dX4_spotOf_24 : decode cX4_spotOf 24 = .ok (.iload 4, 2) := by decide +kernel
theorem dX4_spotOf_26 : decode cX4_spotOf 26 = .ok (.if_icmp .ge 18, 3) := by decide +kernel
theorem dX4_spotOf_29 : decode cX4_spotOf 29 = .ok (.iload_n 3, 1) := by decide +kernel
theorem dX4_spotOf_30 : decode cX4_spotOf 30 = .ok (.aload_n 0, 1) := by decide +kernel
theorem dX4_spotOf_31 : decode cX4_spotOf 31 = .ok (.getfield 9, 3) := by decide +kernel
theorem dX4_spotOf_34 : decode cX4_spotOf 34 = .ok (.iload_n 3, 1) := by decide +kernel
theorem dX4_spotOf_35 : decode cX4_spotOf 35 = .ok (.iaload, 1) := by decide +kernel
theorem dX4_spotOf_36 : decode cX4_spotOf 36 = .ok (.iload_n 2, 1) := by decide +kernel
theorem dX4_spotOf_37 : decode cX4_spotOf 37 = .ok (.invokestatic 61, 3) := by decide +kernel
theorem dX4_spotOf_40 : decode cX4_spotOf 40 = .ok (.invokestatic 39, 3) := by decide +kernel
theorem dX4_spotOf_43 : decode cX4_spotOf 43 = .ok (.ireturn, 1) := by decide +kernel
theorem dX4_spotOf_44 : decode cX4_spotOf 44 = .ok (.iload_n 2, 1) := by decide +kernel
theorem dX4_spotOf_45 : decode cX4_spotOf 45 = .ok (.iload 4, 2) := by decide +kernel
theorem dX4_spotOf_47 : decode cX4_spotOf 47 = .ok (.isub, 1) := by decide +kernel
theorem dX4_spotOf_48 : decode cX4_spotOf 48 = .ok (.istore_n 2, 1) := by decide +kernel
theorem dX4_spotOf_49 : decode cX4_spotOf 49 = .ok (.iinc 3 1, 3) := by decide +kernel
theorem dX4_spotOf_52 : decode cX4_spotOf 52 = .ok (.goto (-48), 3) := by decide +kernel
theorem dX4_spotOf_55 : decode cX4_spotOf 55 = .ok (.iconst 0, 1) := by decide +kernel
theorem dX4_spotOf_56 : decode cX4_spotOf 56 = .ok (.ireturn, 1) := by decide +kernel
theorem dX4_setBit_0 : decode cX4_setBit 0 = .ok (.iload_n 1, 1) := by decide +kernel
theorem dX4_setBit_1 : decode cX4_setBit 1 = .ok (.istore_n 2, 1) := by decide +kernel
theorem dX4_setBit_2 : decode cX4_setBit 2 = .ok (.iconst 0, 1) := by decide +kernel
theorem dX4_setBit_3 : decode cX4_setBit 3 = .ok (.istore_n 3, 1) := by decide +kernel
theorem dX4_setBit_4 : decode cX4_setBit 4 = .ok (.iload_n 3, 1) := by decide +kernel
theorem dX4_setBit_5 : decode cX4_setBit 5 = .ok (.bipush 16, 2) := by decide +kernel
theorem dX4_setBit_7 : decode cX4_setBit 7 = .ok (.if_icmp .ge 27, 3) := by decide +kernel
theorem dX4_setBit_10 : decode cX4_setBit 10 = .ok (.iload_n 0, 1) := by decide +kernel
theorem dX4_setBit_11 : decode cX4_setBit 11 = .ok (.iload_n 3, 1) := by decide +kernel
theorem dX4_setBit_12 : decode cX4_setBit 12 = .ok (.ishr, 1) := by decide +kernel
theorem dX4_setBit_13 : decode cX4_setBit 13 = .ok (.iconst 1, 1) := by decide +kernel
theorem dX4_setBit_14 : decode cX4_setBit 14 = .ok (.iand, 1) := by decide +kernel
theorem dX4_setBit_15 : decode cX4_setBit 15 = .ok (.iconst 1, 1) := by decide +kernel
theorem dX4_setBit_16 : decode cX4_setBit 16 = .ok (.if_icmp .ne 12, 3) := by decide +kernel
theorem dX4_setBit_19 : decode cX4_setBit 19 = .ok (.iload_n 2, 1) := by decide +kernel
theorem dX4_setBit_20 : decode cX4_setBit 20 = .ok (.ifCond .ne 5, 3) := by decide +kernel
theorem dX4_setBit_23 : decode cX4_setBit 23 = .ok (.iload_n 3, 1) := by decide +kernel
theorem dX4_setBit_24 : decode cX4_setBit 24 = .ok (.ireturn, 1) := by decide +kernel
theorem dX4_setBit_25 : decode cX4_setBit 25 = .ok (.iinc 2 (-1), 3) := by decide +kernel
theorem dX4_setBit_28 : decode cX4_setBit 28 = .ok (.iinc 3 1, 3) := by decide +kernel
theorem dX4_setBit_31 : decode cX4_setBit 31 = .ok (.goto (-27), 3) := by decide +kernel
theorem dX4_setBit_34 : decode cX4_setBit 34 = .ok (.iconst 0, 1) := by decide +kernel
theorem dX4_setBit_35 : decode cX4_setBit 35 = .ok (.ireturn, 1) := by decide +kernel
theorem dX4_exchange_0 : decode cX4_exchange 0 = .ok (.iload_n 1, 1) := by decide +kernel
theorem dX4_exchange_1 : decode cX4_exchange 1 = .ok (.invokestatic 64, 3) := by decide +kernel
theorem dX4_exchange_4 : decode cX4_exchange 4 = .ok (.istore_n 3, 1) := by decide +kernel
theorem dX4_exchange_5 : decode cX4_exchange 5 = .ok (.iload_n 1, 1) := by decide +kernel
theorem dX4_exchange_6 : decode cX4_exchange 6 = .ok (.invokestatic 67, 3) := by decide +kernel
theorem dX4_exchange_9 : decode cX4_exchange 9 = .ok (.istore 4, 2) := by decide +kernel
theorem dX4_exchange_11 : decode cX4_exchange 11 = .ok (.iload_n 2, 1) := by decide +kernel
theorem dX4_exchange_12 : decode cX4_exchange 12 = .ok (.invokestatic 64, 3) := by decide +kernel
theorem dX4_exchange_15 : decode cX4_exchange 15 = .ok (.istore 5, 2) := by decide +kernel
theorem dX4_exchange_17 : decode cX4_exchange 17 = .ok (.iload_n 2, 1) := by decide +kernel
theorem dX4_exchange_18 : decode cX4_exchange 18 = .ok (.invokestatic 67, 3) := by decide +kernel
theorem dX4_exchange_21 : decode cX4_exchange 21 = .ok (.istore 6, 2) := by decide +kernel
theorem dX4_exchange_23 : decode cX4_exchange 23 = .ok (.iload_n 3, 1) := by decide +kernel
theorem dX4_exchange_24 : decode cX4_exchange 24 = .ok (.iload 5, 2) := by decide +kernel
theorem dX4_exchange_26 : decode cX4_exchange 26 = .ok (.if_icmp .eq 44, 3) := by decide +kernel
theorem dX4_exchange_29 : decode cX4_exchange 29 = .ok (.iload 4, 2) := by decide +kernel
theorem dX4_exchange_31 : decode cX4_exchange 31 = .ok (.iload 6, 2) := by decide +kernel
theorem dX4_exchange_33 : decode cX4_exchange 33 = .ok (.if_icmp .eq 37, 3) := by decide +kernel
theorem dX4_exchange_36 : decode cX4_exchange 36 = .ok (.iload_n 3, 1) := by decide +kernel
theorem dX4_exchange_37 : decode cX4_exchange 37 = .ok (.iload 6, 2) := by decide +kernel
theorem dX4_exchange_39 : decode cX4_exchange 39 = .ok (.if_icmp .eq 31, 3) := by decide +kernel
theorem dX4_exchange_42 : decode cX4_exchange 42 = .ok (.iload 5, 2) := by decide +kernel
theorem dX4_exchange_44 : decode cX4_exchange 44 = .ok (.iload 4, 2) := by decide +kernel
theorem dX4_exchange_46 : decode cX4_exchange 46 = .ok (.if_icmp .eq 24, 3) := by decide +kernel
theorem dX4_exchange_49 : decode cX4_exchange 49 = .ok (.aload_n 0, 1) := by decide +kernel
theorem dX4_exchange_50 : decode cX4_exchange 50 = .ok (.iload_n 3, 1) := by decide +kernel
theorem dX4_exchange_51 : decode cX4_exchange 51 = .ok (.iload 6, 2) := by decide +kernel
theorem dX4_exchange_53 : decode cX4_exchange 53 = .ok (.invokevirtual 35, 3) := by decide +kernel
theorem dX4_exchange_56 : decode cX4_exchange 56 = .ok (.ifCond .ne 14, 3) := by decide +kernel
theorem dX4_exchange_59 : decode cX4_exchange 59 = .ok (.aload_n 0, 1) := by decide +kernel
theorem dX4_exchange_60 : decode cX4_exchange 60 = .ok (.iload 5, 2) := by decide +kernel
theorem dX4_exchange_62 : decode cX4_exchange 62 = .ok (.iload 4, 2) := by decide +kernel
theorem dX4_exchange_64 : decode cX4_exchange 64 = .ok (.invokevirtual 35, 3) := by decide +kernel
theorem dX4_exchange_67 : decode cX4_exchange 67 = .ok (.ifCond .eq 5, 3) := by decide +kernel
theorem dX4_exchange_70 : decode cX4_exchange 70 = .ok (.iconst 0, 1) := by decide +kernel
theorem dX4_exchange_71 : decode cX4_exchange 71 = .ok (.ireturn, 1) := by decide +kernel
theorem dX4_exchange_72 : decode cX4_exchange 72 = .ok (.aload_n 0, 1) := by decide +kernel
theorem dX4_exchange_73 : decode cX4_exchange 73 = .ok (.iload_n 3, 1) := by decide +kernel
theorem dX4_exchange_74 : decode cX4_exchange 74 = .ok (.iload 6, 2) := by decide +kernel
theorem dX4_exchange_76 : decode cX4_exchange 76 = .ok (.aload_n 0, 1) := by decide +kernel
theorem dX4_exchange_77 : decode cX4_exchange 77 = .ok (.iload_n 3, 1) := by decide +kernel
theorem dX4_exchange_78 : decode cX4_exchange 78 = .ok (.iload 4, 2) := by decide +kernel
theorem dX4_exchange_80 : decode cX4_exchange 80 = .ok (.invokevirtual 50, 3) := by decide +kernel
theorem dX4_exchange_83 : decode cX4_exchange 83 = .ok (.aload_n 0, 1) := by decide +kernel
theorem dX4_exchange_84 : decode cX4_exchange 84 = .ok (.iload_n 3, 1) := by decide +kernel
theorem dX4_exchange_85 : decode cX4_exchange 85 = .ok (.iload 4, 2) := by decide +kernel
theorem dX4_exchange_87 : decode cX4_exchange 87 = .ok (.invokevirtual 70, 3) := by decide +kernel
theorem dX4_exchange_90 : decode cX4_exchange 90 = .ok (.invokevirtual 73, 3) := by decide +kernel
theorem dX4_exchange_93 : decode cX4_exchange 93 = .ok (.aload_n 0, 1) := by decide +kernel
theorem dX4_exchange_94 : decode cX4_exchange 94 = .ok (.iload 5, 2) := by decide +kernel
theorem dX4_exchange_96 : decode cX4_exchange 96 = .ok (.iload 4, 2) := by decide +kernel
theorem dX4_exchange_98 : decode cX4_exchange 98 = .ok (.aload_n 0, 1) := by decide +kernel
theorem dX4_exchange_99 : decode cX4_exchange 99 = .ok (.iload 5, 2) := by decide +kernel
theorem dX4_exchange_101 : decode cX4_exchange 101 = .ok (.iload 6, 2) := by decide +kernel
theorem dX4_exchange_103 : decode cX4_exchange 103 = .ok (.invokevirtual 50, 3) := by decide +kernel
theorem dX4_exchange_106 : decode cX4_exchange 106 = .ok (.aload_n 0, 1) := by decide +kernel
theorem dX4_exchange_107 : decode cX4_exchange 107 = .ok (.iload 5, 2) := by decide +kernel
theorem dX4_exchange_109 : decode cX4_exchange 109 = .ok (.iload 6, 2) := by decide +kernel
theorem dX4_exchange_111 : decode cX4_exchange 111 = .ok (.invokevirtual 70, 3) := by decide +kernel
theorem dX4_exchange_114 : decode cX4_exchange 114 = .ok (.invokevirtual 73, 3) := by decide +kernel
theorem dX4_exchange_117 : decode cX4_exchange 117 = .ok (.aload_n 0, 1) := by decide +kernel
theorem dX4_exchange_118 : decode cX4_exchange 118 = .ok (.iload_n 3, 1) := by decide +kernel
theorem dX4_exchange_119 : decode cX4_exchange 119 = .ok (.iload 4, 2) := by decide +kernel
theorem dX4_exchange_121 : decode cX4_exchange 121 = .ok (.invokevirtual 42, 3) := by decide +kernel
theorem dX4_exchange_124 : decode cX4_exchange 124 = .ok (.aload_n 0, 1) := by decide +kernel
theorem dX4_exchange_125 : decode cX4_exchange 125 = .ok (.iload 5, 2) := by decide +kernel
theorem dX4_exchange_127 : decode cX4_exchange 127 = .ok (.iload 6, 2) := by decide +kernel
theorem dX4_exchange_129 : decode cX4_exchange 129 = .ok (.invokevirtual 42, 3) := by decide +kernel
theorem dX4_exchange_132 : decode cX4_exchange 132 = .ok (.iconst 1, 1) := by decide +kernel
theorem dX4_exchange_133 : decode cX4_exchange 133 = .ok (.ireturn, 1) := by decide +kernel
theorem dX5_init_0 : decode cX5_init 0 = .ok (.aload_n 0, 1) := by decide +kernel
theorem dX5_init_1 : decode cX5_init 1 = .ok (.invokespecial 3, 3) := by decide +kernel
theorem dX5_init_4 : decode cX5_init 4 = .ok (.aload_n 0, 1) := by decide +kernel
theorem dX5_init_5 : decode cX5_init 5 = .ok (.bipush 64, 2) := by decide +kernel
theorem dX5_init_7 : decode cX5_init 7 = .ok (.newarray .int, 2) := by decide +kernel
theorem dX5_init_9 : decode cX5_init 9 = .ok (.putfield 11, 3) := by decide +kernel
theorem dX5_init_12 : decode cX5_init 12 = .ok (.aload_n 0, 1) := by decide +kernel
theorem dX5_init_13 : decode cX5_init 13 = .ok (.bipush 16, 2) := by decide +kernel
theorem dX5_init_15 : decode cX5_init 15 = .ok (.newarray .int, 2) := by decide +kernel
theorem dX5_init_17 : decode cX5_init 17 = .ok (.putfield 15, 3) := by decide +kernel
theorem dX5_init_20 : decode cX5_init 20 = .ok (.aload_n 0, 1) := by decide +kernel
theorem dX5_init_21 : decode cX5_init 21 = .ok (.bipush 16, 2) := by decide +kernel
theorem dX5_init_23 : decode cX5_init 23 = .ok (.newarray .int, 2) := by decide +kernel
theorem dX5_init_25 : decode cX5_init 25 = .ok (.putfield 18, 3) := by decide +kernel
theorem dX5_init_28 : decode cX5_init 28 = .ok (.aload_n 0, 1) := by decide +kernel
theorem dX5_init_29 : decode cX5_init 29 = .ok (.bipush 16, 2) := by decide +kernel
theorem dX5_init_31 : decode cX5_init 31 = .ok (.newarray .int, 2) := by decide +kernel
theorem dX5_init_33 : decode cX5_init 33 = .ok (.putfield 21, 3) := by decide +kernel
theorem dX5_init_36 : decode cX5_init 36 = .ok (.aload_n 0, 1) := by decide +kernel
theorem dX5_init_37 : decode cX5_init 37 = .ok (.sipush 192, 3) := by decide +kernel
theorem dX5_init_40 : decode cX5_init 40 = .ok (.newarray .int, 2) := by decide +kernel
theorem dX5_init_42 : decode cX5_init 42 = .ok (.putfield 24, 3) := by decide +kernel
theorem dX5_init_45 : decode cX5_init 45 = .ok (.iconst 0, 1) := by decide +kernel
theorem dX5_init_46 : decode cX5_init 46 = .ok (.istore_n 1, 1) := by decide +kernel
theorem dX5_init_47 : decode cX5_init 47 = .ok (.iconst 0, 1) := by decide +kernel
theorem dX5_init_48 : decode cX5_init 48 = .ok (.istore_n 2, 1) := by decide +kernel
theorem dX5_init_49 : decode cX5_init 49 = .ok (.iload_n 2, 1) := by decide +kernel
theorem dX5_init_50 : decode cX5_init 50 = .ok (.bipush 64, 2) := by decide +kernel
theorem dX5_init_52 : decode cX5_init 52 = .ok (.if_icmp .ge 75, 3) := by decide +kernel
theorem dX5_init_55 : decode cX5_init 55 = .ok (.iload_n 2, 1) := by decide +kernel
theorem dX5_init_56 : decode cX5_init 56 = .ok (.invokestatic 27, 3) := by decide +kernel
theorem dX5_init_59 : decode cX5_init 59 = .ok (.istore_n 3, 1) := by decide +kernel
theorem dX5_init_60 : decode cX5_init 60 = .ok (.iload_n 3, 1) := by decide +kernel
theorem dX5_init_61 : decode cX5_init 61 = .ok (.iload_n 2, 1) := by decide +kernel
theorem dX5_init_62 : decode cX5_init 62 = .ok (.if_icmp .ne 26, 3) := by decide +kernel
theorem dX5_init_65 : decode cX5_init 65 = .ok (.iload_n 1, 1) := by decide +kernel
theorem dX5_init_66 : decode cX5_init 66 = .ok (.bipush 16, 2) := by decide +kernel
theorem dX5_init_68 : decode cX5_init 68 = .ok (.if_icmp .ge 20, 3) := by decide +kernel
theorem dX5_init_71 : decode cX5_init 71 = .ok (.aload_n 0, 1) := by decide +kernel
theorem dX5_init_72 : decode cX5_init 72 = .ok (.getfield 15, 3) := by decide +kernel
theorem dX5_init_75 : decode cX5_init 75 = .ok (.iload_n 1, 1) := by decide +kernel
theorem dX5_init_76 : decode cX5_init 76 = .ok (.iload_n 2, 1) := by decide +kernel
theorem dX5_init_77 : decode cX5_init 77 = .ok (.iastore, 1) := by decide +kernel
theorem dX5_init_78 : decode cX5_init 78 = .ok (.aload_n 0, 1) := by decide +kernel
theorem dX5_init_79 : decode cX5_init 79 = .ok (.getfield 11, 3) := by decide +kernel
theorem dX5_init_82 : decode cX5_init 82 = .ok (.iload_n 2, 1) := by decide +kernel
theorem dX5_init_83 : decode cX5_init 83 = .ok (.iload_n 1, 1) := by decide +kernel
theorem dX5_init_84 : decode cX5_init 84 = .ok (.iastore, 1) := by decide +kernel
theorem dX5_init_85 : decode cX5_init 85 = .ok (.iinc 1 1, 3) := by decide +kernel
theorem dX5_init_88 : decode cX5_init 88 = .ok (.aload_n 0, 1) := by decide +kernel
theorem dX5_init_89 : decode cX5_init 89 = .ok (.getfield 11, 3) := by decide +kernel
theorem dX5_init_92 : decode cX5_init 92 = .ok (.iload_n 3, 1) := by decide +kernel
theorem dX5_init_93 : decode cX5_init 93 = .ok (.iaload, 1) := by decide +kernel
theorem dX5_init_94 : decode cX5_init 94 = .ok (.istore 4, 2) := by decide +kernel
theorem dX5_init_96 : decode cX5_init 96 = .ok (.aload_n 0, 1) := by decide +kernel
theorem dX5_init_97 : decode cX5_init 97 = .ok (.getfield 11, 3) := by decide +kernel
theorem dX5_init_100 : decode cX5_init 100 = .ok (.iload_n 2, 1) := by decide +kernel
theorem dX5_init_101 : decode cX5_init 101 = .ok (.iload 4, 2) := by decide +kernel
theorem dX5_init_103 : decode cX5_init 103 = .ok (.iastore, 1) := by decide +kernel
theorem dX5_init_104 : decode cX5_init 104 = .ok (.aload_n 0, 1) := by decide +kernel
theorem dX5_init_105 : decode cX5_init 105 = .ok (.getfield 18, 3) := by decide +kernel
theorem dX5_init_108 : decode cX5_init 108 = .ok (.iload 4, 2) := by decide +kernel
theorem dX5_init_110 : decode cX5_init 110 = .ok (.dup2, 1) := by decide +kernel
theorem dX5_init_111 : decode cX5_init 111 = .ok (.iaload, 1) := by decide +kernel
theorem dX5_init_112 : decode cX5_init 112 = .ok (.iconst 1, 1) := by decide +kernel
theorem dX5_init_113 : decode cX5_init 113 = .ok (.iadd, 1) := by decide +kernel
theorem dX5_init_114 : decode cX5_init 114 = .ok (.iastore, 1) := by decide +kernel
theorem dX5_init_115 : decode cX5_init 115 = .ok (.aload_n 0, 1) := by decide +kernel
theorem dX5_init_116 : decode cX5_init 116 = .ok (.iload_n 2, 1) := by decide +kernel
theorem dX5_init_117 : decode cX5_init 117 = .ok (.iload_n 3, 1) := by decide +kernel
theorem dX5_init_118 : decode cX5_init 118 = .ok (.invokevirtual 31, 3) := by decide +kernel
theorem dX5_init_121 : decode cX5_init 121 = .ok (.iinc 2 1, 3) := by decide +kernel
theorem dX5_init_124 : decode cX5_init 124 = .ok (.goto (-75), 3) := by decide +kernel
theorem dX5_init_127 : decode cX5_init 127 = .ok (.iconst 0, 1) := by decide +kernel
theorem dX5_init_128 : decode cX5_init 128 = .ok (.istore_n 2, 1) := by decide +kernel
theorem dX5_init_129 : decode cX5_init 129 = .ok (.iload_n 2, 1) := by decide +kernel
theorem dX5_init_130 : decode cX5_init 130 = .ok (.bipush 16, 2) := by decide +kernel
theorem dX5_init_132 : decode cX5_init 132 = .ok (.if_icmp .ge 25, 3) := by decide +kernel
theorem dX5_init_135 : decode cX5_init 135 = .ok (.aload_n 0, 1) := by decide +kernel
theorem dX5_init_136 : decode cX5_init 136 = .ok (.getfield 21, 3) := by decide +kernel
theorem dX5_init_139 : decode cX5_init 139 = .ok (.iload_n 2, 1) := by decide +kernel
theorem dX5_init_140 : decode cX5_init 140 = .ok (.aload_n 0, 1) := by decide +kernel
theorem dX5_init_141 : decode cX5_init 141 = .ok (.aload_n 0, 1) := by decide +kernel
theorem dX5_init_142 : decode cX5_init 142 = .ok (.getfield 15, 3) := by decide +kernel
theorem dX5_init_145 : decode cX5_init 145 = .ok (.iload_n 2, 1) := by decide +kernel
theorem dX5_init_146 : decode cX5_init 146 = .ok (.iaload, 1) := by decide +kernel
theorem dX5_init_147 : decode cX5_init 147 = .ok (.invokevirtual 35, 3) := by decide +kernel
theorem dX5_init_150 : decode cX5_init 150 = .ok (.iastore, 1) := by decide +kernel
theorem dX5_init_151 : decode cX5_init 151 = .ok (.iinc 2 1, 3) := by decide +kernel
theorem dX5_init_154 : decode cX5_init 154 = .ok (.goto (-25), 3) := by decide +kernel
theorem dX5_init_157 : decode cX5_init 157 = .ok (.return_, 1) := by decide +kernel
theorem dX5_linkCount_0 : decode cX5_linkCount 0 = .ok (.aload_n 0, 1) := by decide +kernel
theorem dX5_linkCount_1 : decode cX5_linkCount 1 = .ok (.getfield 15, 3) := by decide +kernel
theorem dX5_linkCount_4 : decode cX5_linkCount 4 = .ok (.iload_n 1, 1) := by decide +kernel
theorem dX5_linkCount_5 : decode cX5_linkCount 5 = .ok (.iaload, 1) := by decide +kernel
theorem dX5_linkCount_6 : decode cX5_linkCount 6 = .ok (.invokestatic 38, 3) := by decide +kernel
theorem dX5_linkCount_9 : decode cX5_linkCount 9 = .ok (.ireturn, 1) := by decide +kernel
end
section
theorem dX5_placeOf_0 : decode cX5_placeOf 0 = .ok (.aload_n 0, 1) := by decide +kernel
theorem dX5_placeOf_1 : decode cX5_placeOf 1 = .ok (.getfield 24, 3) := by decide +kernel
theorem dX5_placeOf_4 : decode cX5_placeOf 4 = .ok (.iload_n 1, 1) := by decide +kernel
theorem dX5_placeOf_5 : decode cX5_placeOf 5 = .ok (.iconst 3, 1) := by decide +kernel
theorem dX5_placeOf_6 : decode cX5_placeOf 6 = .ok (.imul, 1) := by decide +kernel
theorem dX5_placeOf_7 : decode cX5_placeOf 7 = .ok (.iload_n 2, 1) := by decide +kernel
theorem dX5_placeOf_8 : decode cX5_placeOf 8 = .ok (.iadd, 1) := by decide +kernel
theorem dX5_placeOf_9 : decode cX5_placeOf 9 = .ok (.iaload, 1) := by decide +kernel
theorem dX5_placeOf_10 : decode cX5_placeOf 10 = .ok (.ireturn, 1) := by decide +kernel
theorem dX5_leastOf_0 : decode cX5_leastOf 0 = .ok (.iload_n 0, 1) := by decide +kernel
theorem dX5_leastOf_1 : decode cX5_leastOf 1 = .ok (.istore_n 1, 1) := by decide +kernel
theorem dX5_leastOf_2 : decode cX5_leastOf 2 = .ok (.iconst 0, 1) := by decide +kernel
theorem dX5_leastOf_3 : decode cX5_leastOf 3 = .ok (.istore_n 2, 1) := by decide +kernel
theorem dX5_leastOf_4 : decode cX5_leastOf 4 = .ok (.iload_n 2, 1) := by decide +kernel
theorem dX5_leastOf_5 : decode cX5_leastOf 5 = .ok (.getstatic 43, 3) := by decide +kernel
theorem dX5_leastOf_8 : decode cX5_leastOf 8 = .ok (.arraylength, 1) := by decide +kernel
theorem dX5_leastOf_9 : decode cX5_leastOf 9 = .ok (.if_icmp .ge 19, 3) := by decide +kernel
theorem dX5_leastOf_12 : decode cX5_leastOf 12 = .ok (.iload_n 1, 1) := by decide +kernel
theorem dX5_leastOf_13 : decode cX5_leastOf 13 = .ok (.iload_n 0, 1) := by decide +kernel
theorem dX5_leastOf_14 : decode cX5_leastOf 14 = .ok (.iload_n 2, 1) := by decide +kernel
theorem dX5_leastOf_15 : decode cX5_leastOf 15 = .ok (.invokestatic 46, 3) := by decide +kernel
theorem dX5_leastOf_18 : decode cX5_leastOf 18 = .ok (.invokestatic 50, 3) := by decide +kernel
theorem dX5_leastOf_21 : decode cX5_leastOf 21 = .ok (.istore_n 1, 1) := by decide +kernel
theorem dX5_leastOf_22 : decode cX5_leastOf 22 = .ok (.iinc 2 3, 3) := by decide +kernel
theorem dX5_leastOf_25 : decode cX5_leastOf 25 = .ok (.goto (-21), 3) := by decide +kernel
theorem dX5_leastOf_28 : decode cX5_leastOf 28 = .ok (.iload_n 1, 1) := by decide +kernel
theorem dX5_leastOf_29 : decode cX5_leastOf 29 = .ok (.ireturn, 1) := by decide +kernel
theorem dX5_setPlaces_0 : decode cX5_setPlaces 0 = .ok (.iconst 0, 1) := by decide +kernel
theorem dX5_setPlaces_1 : decode cX5_setPlaces 1 = .ok (.istore_n 3, 1) := by decide +kernel
theorem dX5_setPlaces_2 : decode cX5_setPlaces 2 = .ok (.iload_n 3, 1) := by decide +kernel
theorem dX5_setPlaces_3 : decode cX5_setPlaces 3 = .ok (.iconst 3, 1) := by decide +kernel
theorem dX5_setPlaces_4 : decode cX5_setPlaces 4 = .ok (.if_icmp .ge 20, 3) := by decide +kernel
theorem dX5_setPlaces_7 : decode cX5_setPlaces 7 = .ok (.aload_n 0, 1) := by decide +kernel
theorem dX5_setPlaces_8 : decode cX5_setPlaces 8 = .ok (.getfield 24, 3) := by decide +kernel
theorem dX5_setPlaces_11 : decode cX5_setPlaces 11 = .ok (.iload_n 1, 1) := by decide +kernel
theorem dX5_setPlaces_12 : decode cX5_setPlaces 12 = .ok (.iconst 3, 1) := by decide +kernel
theorem dX5_setPlaces_13 : decode cX5_setPlaces 13 = .ok (.imul, 1) := by decide +kernel
theorem dX5_setPlaces_14 : decode cX5_setPlaces 14 = .ok (.iload_n 3, 1) := by decide +kernel
theorem dX5_setPlaces_15 : decode cX5_setPlaces 15 = .ok (.iadd, 1) := by decide +kernel
theorem dX5_setPlaces_16 : decode cX5_setPlaces 16 = .ok (.iconst 2, 1) := by decide +kernel
theorem dX5_setPlaces_17 : decode cX5_setPlaces 17 = .ok (.iastore, 1) := by decide +kernel
theorem dX5_setPlaces_18 : decode cX5_setPlaces 18 = .ok (.iinc 3 1, 3) := by decide +kernel
theorem dX5_setPlaces_21 : decode cX5_setPlaces 21 = .ok (.goto (-19), 3) := by decide +kernel
theorem dX5_setPlaces_24 : decode cX5_setPlaces 24 = .ok (.iconst 0, 1) := by decide +kernel
theorem dX5_setPlaces_25 : decode cX5_setPlaces 25 = .ok (.istore_n 3, 1) := by decide +kernel
theorem dX5_setPlaces_26 : decode cX5_setPlaces 26 = .ok (.iload_n 3, 1) := by decide +kernel
theorem dX5_setPlaces_27 : decode cX5_setPlaces 27 = .ok (.getstatic 43, 3) := by decide +kernel
theorem dX5_setPlaces_30 : decode cX5_setPlaces 30 = .ok (.arraylength, 1) := by decide +kernel
theorem dX5_setPlaces_31 : decode cX5_setPlaces 31 = .ok (.if_icmp .ge 66, 3) := by decide +kernel
theorem dX5_setPlaces_34 : decode cX5_setPlaces 34 = .ok (.iload_n 1, 1) := by decide +kernel
theorem dX5_setPlaces_35 : decode cX5_setPlaces 35 = .ok (.iload_n 3, 1) := by decide +kernel
theorem dX5_setPlaces_36 : decode cX5_setPlaces 36 = .ok (.invokestatic 46, 3) := by decide +kernel
theorem dX5_setPlaces_39 : decode cX5_setPlaces 39 = .ok (.iload_n 2, 1) := by decide +kernel
theorem dX5_setPlaces_40 : decode cX5_setPlaces 40 = .ok (.if_icmp .ne 51, 3) := by decide +kernel
theorem dX5_setPlaces_43 : decode cX5_setPlaces 43 = .ok (.iconst 0, 1) := by decide +kernel
theorem dX5_setPlaces_44 : decode cX5_setPlaces 44 = .ok (.istore 4, 2) := by decide +kernel
theorem dX5_setPlaces_46 : decode cX5_setPlaces 46 = .ok (.iload 4, 2) := by decide +kernel
theorem dX5_setPlaces_48 : decode cX5_setPlaces 48 = .ok (.iconst 3, 1) := by decide +kernel
theorem dX5_setPlaces_49 : decode cX5_setPlaces 49 = .ok (.if_icmp .ge 42, 3) := by decide +kernel
theorem dX5_setPlaces_52 : decode cX5_setPlaces 52 = .ok (.iload_n 1, 1) := by decide +kernel
theorem dX5_setPlaces_53 : decode cX5_setPlaces 53 = .ok (.iconst 3, 1) := by decide +kernel
theorem dX5_setPlaces_54 : decode cX5_setPlaces 54 = .ok (.imul, 1) := by decide +kernel
theorem dX5_setPlaces_55 : decode cX5_setPlaces 55 = .ok (.getstatic 43, 3) := by decide +kernel
theorem dX5_setPlaces_58 : decode cX5_setPlaces 58 = .ok (.iload_n 3, 1) := by decide +kernel
theorem dX5_setPlaces_59 : decode cX5_setPlaces 59 = .ok (.iload 4, 2) := by decide +kernel
theorem dX5_setPlaces_61 : decode cX5_setPlaces 61 = .ok (.iadd, 1) := by decide +kernel
theorem dX5_setPlaces_62 : decode cX5_setPlaces 62 = .ok (.iaload, 1) := by decide +kernel
theorem dX5_setPlaces_63 : decode cX5_setPlaces 63 = .ok (.iadd, 1) := by decide +kernel
theorem dX5_setPlaces_64 : decode cX5_setPlaces 64 = .ok (.istore 5, 2) := by decide +kernel
theorem dX5_setPlaces_66 : decode cX5_setPlaces 66 = .ok (.aload_n 0, 1) := by decide +kernel
theorem dX5_setPlaces_67 : decode cX5_setPlaces 67 = .ok (.getfield 24, 3) := by decide +kernel
theorem dX5_setPlaces_70 : decode cX5_setPlaces 70 = .ok (.iload 5, 2) := by decide +kernel
theorem dX5_setPlaces_72 : decode cX5_setPlaces 72 = .ok (.aload_n 0, 1) := by decide +kernel
theorem dX5_setPlaces_73 : decode cX5_setPlaces 73 = .ok (.getfield 24, 3) := by decide +kernel
theorem dX5_setPlaces_76 : decode cX5_setPlaces 76 = .ok (.iload 5, 2) := by decide +kernel
theorem dX5_setPlaces_78 : decode cX5_setPlaces 78 = .ok (.iaload, 1) := by decide +kernel
theorem dX5_setPlaces_79 : decode cX5_setPlaces 79 = .ok (.iload 4, 2) := by decide +kernel
theorem dX5_setPlaces_81 : decode cX5_setPlaces 81 = .ok (.invokestatic 50, 3) := by decide +kernel
theorem dX5_setPlaces_84 : decode cX5_setPlaces 84 = .ok (.iastore, 1) := by decide +kernel
theorem dX5_setPlaces_85 : decode cX5_setPlaces 85 = .ok (.iinc 4 1, 3) := by decide +kernel
theorem dX5_setPlaces_88 : decode cX5_setPlaces 88 = .ok (.goto (-42), 3) := by decide +kernel
theorem dX5_setPlaces_91 : decode cX5_setPlaces 91 = .ok (.iinc 3 3, 3) := by decide +kernel
theorem dX5_setPlaces_94 : decode cX5_setPlaces 94 = .ok (.goto (-68), 3) := by decide +kernel
theorem dX5_setPlaces_97 : decode cX5_setPlaces 97 = .ok (.return_, 1) := by decide +kernel
theorem dX5_placesIn_0 : decode cX5_placesIn 0 = .ok (.iconst 0, 1) := by decide +kernel
theorem dX5_placesIn_1 : decode cX5_placesIn 1 = .ok (.istore_n 2, 1) := by decide +kernel
theorem dX5_placesIn_2 : decode cX5_placesIn 2 = .ok (.iconst 0, 1) := by decide +kernel
theorem dX5_placesIn_3 : decode cX5_placesIn 3 = .ok (.istore_n 3, 1) := by decide +kernel
theorem dX5_placesIn_4 : decode cX5_placesIn 4 = .ok (.iload_n 3, 1) := by decide +kernel
theorem dX5_placesIn_5 : decode cX5_placesIn 5 = .ok (.iconst 3, 1) := by decide +kernel
theorem dX5_placesIn_6 : decode cX5_placesIn 6 = .ok (.if_icmp .ge 22, 3) := by decide +kernel
theorem dX5_placesIn_9 : decode cX5_placesIn 9 = .ok (.aload_n 0, 1) := by decide +kernel
theorem dX5_placesIn_10 : decode cX5_placesIn 10 = .ok (.iload_n 1, 1) := by decide +kernel
theorem dX5_placesIn_11 : decode cX5_placesIn 11 = .ok (.iload_n 3, 1) := by decide +kernel
theorem dX5_placesIn_12 : decode cX5_placesIn 12 = .ok (.invokevirtual 55, 3) := by decide +kernel
theorem dX5_placesIn_15 : decode cX5_placesIn 15 = .ok (.iload_n 3, 1) := by decide +kernel
theorem dX5_placesIn_16 : decode cX5_placesIn 16 = .ok (.if_icmp .ne 6, 3) := by decide +kernel
theorem dX5_placesIn_19 : decode cX5_placesIn 19 = .ok (.iinc 2 1, 3) := by decide +kernel
theorem dX5_placesIn_22 : decode cX5_placesIn 22 = .ok (.iinc 3 1, 3) := by decide +kernel
theorem dX5_placesIn_25 : decode cX5_placesIn 25 = .ok (.goto (-21), 3) := by decide +kernel
theorem dX5_placesIn_28 : decode cX5_placesIn 28 = .ok (.iload_n 2, 1) := by decide +kernel
theorem dX5_placesIn_29 : decode cX5_placesIn 29 = .ok (.ireturn, 1) := by decide +kernel
theorem dX5_reordered_0 : decode cX5_reordered 0 = .ok (.iconst 0, 1) := by decide +kernel
theorem dX5_reordered_1 : decode cX5_reordered 1 = .ok (.istore_n 2, 1) := by decide +kernel
theorem dX5_reordered_2 : decode cX5_reordered 2 = .ok (.iconst 0, 1) := by decide +kernel
theorem dX5_reordered_3 : decode cX5_reordered 3 = .ok (.istore_n 3, 1) := by decide +kernel
theorem dX5_reordered_4 : decode cX5_reordered 4 = .ok (.iload_n 3, 1) := by decide +kernel
theorem dX5_reordered_5 : decode cX5_reordered 5 = .ok (.iconst 3, 1) := by decide +kernel
theorem dX5_reordered_6 : decode cX5_reordered 6 = .ok (.if_icmp .ge 67, 3) := by decide +kernel
theorem dX5_reordered_9 : decode cX5_reordered 9 = .ok (.iconst 0, 1) := by decide +kernel
theorem dX5_reordered_10 : decode cX5_reordered 10 = .ok (.istore 4, 2) := by decide +kernel
theorem dX5_reordered_12 : decode cX5_reordered 12 = .ok (.iload 4, 2) := by decide +kernel
theorem dX5_reordered_14 : decode cX5_reordered 14 = .ok (.iconst 3, 1) := by decide +kernel
theorem dX5_reordered_15 : decode cX5_reordered 15 = .ok (.if_icmp .ge 52, 3) := by decide +kernel
theorem dX5_reordered_18 : decode cX5_reordered 18 = .ok (.iload_n 3, 1) := by decide +kernel
theorem dX5_reordered_19 : decode cX5_reordered 19 = .ok (.iload 4, 2) := by decide +kernel
theorem dX5_reordered_21 : decode cX5_reordered 21 = .ok (.if_icmp .eq 40, 3) := by decide +kernel
theorem dX5_reordered_24 : decode cX5_reordered 24 = .ok (.iload_n 0, 1) := by decide +kernel
theorem dX5_reordered_25 : decode cX5_reordered 25 = .ok (.getstatic 43, 3) := by decide +kernel
theorem dX5_reordered_28 : decode cX5_reordered 28 = .ok (.iload_n 1, 1) := by decide +kernel
theorem dX5_reordered_29 : decode cX5_reordered 29 = .ok (.iload_n 3, 1) := by decide +kernel
theorem dX5_reordered_30 : decode cX5_reordered 30 = .ok (.iadd, 1) := by decide +kernel
theorem dX5_reordered_31 : decode cX5_reordered 31 = .ok (.iaload, 1) := by decide +kernel
theorem dX5_reordered_32 : decode cX5_reordered 32 = .ok (.getstatic 43, 3) := by decide +kernel
theorem dX5_reordered_35 : decode cX5_reordered 35 = .ok (.iload_n 1, 1) := by decide +kernel
theorem dX5_reordered_36 : decode cX5_reordered 36 = .ok (.iload 4, 2) := by decide +kernel
theorem dX5_reordered_38 : decode cX5_reordered 38 = .ok (.iadd, 1) := by decide +kernel
theorem dX5_reordered_39 : decode cX5_reordered 39 = .ok (.iaload, 1) := by decide +kernel
theorem dX5_reordered_40 : decode cX5_reordered 40 = .ok (.invokestatic 58, 3) := by decide +kernel
theorem dX5_reordered_43 : decode cX5_reordered 43 = .ok (.ishr, 1) := by decide +kernel
theorem dX5_reordered_44 : decode cX5_reordered 44 = .ok (.iconst 1, 1) := by decide +kernel
theorem dX5_reordered_45 : decode cX5_reordered 45 = .ok (.iand, 1) := by decide +kernel
theorem dX5_reordered_46 : decode cX5_reordered 46 = .ok (.iconst 1, 1) := by decide +kernel
theorem dX5_reordered_47 : decode cX5_reordered 47 = .ok (.if_icmp .ne 14, 3) := by decide +kernel
theorem dX5_reordered_50 : decode cX5_reordered 50 = .ok (.iload_n 2, 1) := by decide +kernel
theorem dX5_reordered_51 : decode cX5_reordered 51 = .ok (.iconst 1, 1) := by decide +kernel
theorem dX5_reordered_52 : decode cX5_reordered 52 = .ok (.iload_n 3, 1) := by decide +kernel
theorem dX5_reordered_53 : decode cX5_reordered 53 = .ok (.iload 4, 2) := by decide +kernel
theorem dX5_reordered_55 : decode cX5_reordered 55 = .ok (.invokestatic 58, 3) := by decide +kernel
theorem dX5_reordered_58 : decode cX5_reordered 58 = .ok (.ishl, 1) := by decide +kernel
theorem dX5_reordered_59 : decode cX5_reordered 59 = .ok (.ior, 1) := by decide +kernel
theorem dX5_reordered_60 : decode cX5_reordered 60 = .ok (.istore_n 2, 1) := by decide +kernel
theorem dX5_reordered_61 : decode cX5_reordered 61 = .ok (.iinc 4 1, 3) := by decide +kernel
theorem dX5_reordered_64 : decode cX5_reordered 64 = .ok (.goto (-52), 3) := by decide +kernel
theorem dX5_reordered_67 : decode cX5_reordered 67 = .ok (.iinc 3 1, 3) := by decide +kernel
theorem dX5_reordered_70 : decode cX5_reordered 70 = .ok (.goto (-66), 3) := by decide +kernel
theorem dX5_reordered_73 : decode cX5_reordered 73 = .ok (.iload_n 2, 1) := by decide +kernel
theorem dX5_reordered_74 : decode cX5_reordered 74 = .ok (.ireturn, 1) := by decide +kernel
theorem dX5_codeBit_0 : decode cX5_codeBit 0 = .ok (.iload_n 0, 1) := by decide +kernel
theorem dX5_codeBit_1 : decode cX5_codeBit 1 = .ok (.iconst 2, 1) := by decide +kernel
theorem dX5_codeBit_2 : decode cX5_codeBit 2 = .ok (.imul, 1) := by decide +kernel
theorem dX5_codeBit_3 : decode cX5_codeBit 3 = .ok (.iload_n 1, 1) := by decide +kernel
theorem dX5_codeBit_4 : decode cX5_codeBit 4 = .ok (.iload_n 0, 1) := by decide +kernel
theorem dX5_codeBit_5 : decode cX5_codeBit 5 = .ok (.if_icmp .le 9, 3) := by decide +kernel
theorem dX5_codeBit_8 : decode cX5_codeBit 8 = .ok (.iload_n 1, 1) := by decide +kernel
theorem dX5_codeBit_9 : decode cX5_codeBit 9 = .ok (.iconst 1, 1) := by decide +kernel
theorem dX5_codeBit_10 : decode cX5_codeBit 10 = .ok (.isub, 1) := by decide +kernel
theorem dX5_codeBit_11 : decode cX5_codeBit 11 = .ok (.goto 4, 3) := by decide +kernel
theorem dX5_codeBit_14 : decode cX5_codeBit 14 = .ok (.iload_n 1, 1) := by decide +kernel
theorem dX5_codeBit_15 : decode cX5_codeBit 15 = .ok (.iadd, 1) := by decide +kernel
theorem dX5_codeBit_16 : decode cX5_codeBit 16 = .ok (.ireturn, 1) := by decide +kernel
theorem dX6_init_0 : decode cX6_init 0 = .ok (.aload_n 0, 1) := by decide +kernel
theorem dX6_init_1 : decode cX6_init 1 = .ok (.invokespecial 3, 3) := by decide +kernel
theorem dX6_init_4 : decode cX6_init 4 = .ok (.aload_n 0, 1) := by decide +kernel
theorem dX6_init_5 : decode cX6_init 5 = .ok (.bipush 16, 2) := by decide +kernel
theorem dX6_init_7 : decode cX6_init 7 = .ok (.newarray .int, 2) := by decide +kernel
theorem dX6_init_9 : decode cX6_init 9 = .ok (.putfield 9, 3) := by decide +kernel
theorem dX6_init_12 : decode cX6_init 12 = .ok (.aload_n 0, 1) := by decide +kernel
theorem dX6_init_13 : decode cX6_init 13 = .ok (.bipush 16, 2) := by decide +kernel
theorem dX6_init_15 : decode cX6_init 15 = .ok (.newarray .int, 2) := by decide +kernel
theorem dX6_init_17 : decode cX6_init 17 = .ok (.putfield 15, 3) := by decide +kernel
theorem dX6_init_20 : decode cX6_init 20 = .ok (.aload_n 0, 1) := by decide +kernel
theorem dX6_init_21 : decode cX6_init 21 = .ok (.iconst 0, 1) := by decide +kernel
theorem dX6_init_22 : decode cX6_init 22 = .ok (.putfield 18, 3) := by decide +kernel
theorem dX6_init_25 : decode cX6_init 25 = .ok (.aload_n 0, 1) := by decide +kernel
theorem dX6_init_26 : decode cX6_init 26 = .ok (.iconst 0, 1) := by decide +kernel
theorem dX6_init_27 : decode cX6_init 27 = .ok (.putfield 22, 3) := by decide +kernel
theorem dX6_init_30 : decode cX6_init 30 = .ok (.return_, 1) := by decide +kernel
theorem dX6_tryAll_0 : decode cX6_tryAll 0 = .ok (.aload_n 0, 1) := by decide +kernel
theorem dX6_tryAll_1 : decode cX6_tryAll 1 = .ok (.aload_n 1, 1) := by decide +kernel
theorem dX6_tryAll_2 : decode cX6_tryAll 2 = .ok (.invokevirtual 25, 3) := by decide +kernel
theorem dX6_tryAll_5 : decode cX6_tryAll 5 = .ok (.istore_n 2, 1) := by decide +kernel
theorem dX6_tryAll_6 : decode cX6_tryAll 6 = .ok (.iconst 0, 1) := by decide +kernel
theorem dX6_tryAll_7 : decode cX6_tryAll 7 = .ok (.istore_n 3, 1) := by decide +kernel
theorem dX6_tryAll_8 : decode cX6_tryAll 8 = .ok (.aload_n 0, 1) := by decide +kernel
theorem dX6_tryAll_9 : decode cX6_tryAll 9 = .ok (.iload_n 2, 1) := by decide +kernel
theorem dX6_tryAll_10 : decode cX6_tryAll 10 = .ok (.putfield 18, 3) := by decide +kernel
theorem dX6_tryAll_13 : decode cX6_tryAll 13 = .ok (.aload_n 0, 1) := by decide +kernel
theorem dX6_tryAll_14 : decode cX6_tryAll 14 = .ok (.iload_n 3, 1) := by decide +kernel
theorem dX6_tryAll_15 : decode cX6_tryAll 15 = .ok (.putfield 22, 3) := by decide +kernel
theorem dX6_tryAll_18 : decode cX6_tryAll 18 = .ok (.iconst 1, 1) := by decide +kernel
theorem dX6_tryAll_19 : decode cX6_tryAll 19 = .ok (.aload_n 1, 1) := by decide +kernel
theorem dX6_tryAll_20 : decode cX6_tryAll 20 = .ok (.getfield 29, 3) := by decide +kernel
theorem dX6_tryAll_23 : decode cX6_tryAll 23 = .ok (.iconst 1, 1) := by decide +kernel
theorem dX6_tryAll_24 : decode cX6_tryAll 24 = .ok (.isub, 1) := by decide +kernel
theorem dX6_tryAll_25 : decode cX6_tryAll 25 = .ok (.ishl, 1) := by decide +kernel
theorem dX6_tryAll_26 : decode cX6_tryAll 26 = .ok (.istore 4, 2) := by decide +kernel
theorem dX6_tryAll_28 : decode cX6_tryAll 28 = .ok (.iconst 1, 1) := by decide +kernel
theorem dX6_tryAll_29 : decode cX6_tryAll 29 = .ok (.istore 5, 2) := by decide +kernel
theorem dX6_tryAll_31 : decode cX6_tryAll 31 = .ok (.iload 5, 2) := by decide +kernel
theorem dX6_tryAll_33 : decode cX6_tryAll 33 = .ok (.iload 4, 2) := by decide +kernel
theorem dX6_tryAll_35 : decode cX6_tryAll 35 = .ok (.if_icmp .ge 69, 3) := by decide +kernel
theorem dX6_tryAll_38 : decode cX6_tryAll 38 = .ok (.iconst 1, 1) := by decide +kernel
theorem dX6_tryAll_39 : decode cX6_tryAll 39 = .ok (.iload 5, 2) := by decide +kernel
theorem dX6_tryAll_41 : decode cX6_tryAll 41 = .ok (.invokestatic 34, 3) := by decide +kernel
theorem dX6_tryAll_44 : decode cX6_tryAll 44 = .ok (.iadd, 1) := by decide +kernel
theorem dX6_tryAll_45 : decode cX6_tryAll 45 = .ok (.istore 6, 2) := by decide +kernel
theorem dX6_tryAll_47 : decode cX6_tryAll 47 = .ok (.iload_n 2, 1) := by decide +kernel
theorem dX6_tryAll_48 : decode cX6_tryAll 48 = .ok (.aload_n 0, 1) := by decide +kernel
theorem dX6_tryAll_49 : decode cX6_tryAll 49 = .ok (.iload 6, 2) := by decide +kernel
theorem dX6_tryAll_51 : decode cX6_tryAll 51 = .ok (.iload_n 3, 1) := by decide +kernel
theorem dX6_tryAll_52 : decode cX6_tryAll 52 = .ok (.invokevirtual 38, 3) := by decide +kernel
theorem dX6_tryAll_55 : decode cX6_tryAll 55 = .ok (.iadd, 1) := by decide +kernel
theorem dX6_tryAll_56 : decode cX6_tryAll 56 = .ok (.istore_n 2, 1) := by decide +kernel
theorem dX6_tryAll_57 : decode cX6_tryAll 57 = .ok (.iload_n 3, 1) := by decide +kernel
theorem dX6_tryAll_58 : decode cX6_tryAll 58 = .ok (.iconst 1, 1) := by decide +kernel
theorem dX6_tryAll_59 : decode cX6_tryAll 59 = .ok (.iload 6, 2) := by decide +kernel
theorem dX6_tryAll_61 : decode cX6_tryAll 61 = .ok (.ishl, 1) := by decide +kernel
theorem dX6_tryAll_62 : decode cX6_tryAll 62 = .ok (.ixor, 1) := by decide +kernel
theorem dX6_tryAll_63 : decode cX6_tryAll 63 = .ok (.istore_n 3, 1) := by decide +kernel
theorem dX6_tryAll_64 : decode cX6_tryAll 64 = .ok (.iload_n 2, 1) := by decide +kernel
theorem dX6_tryAll_65 : decode cX6_tryAll 65 = .ok (.aload_n 0, 1) := by decide +kernel
theorem dX6_tryAll_66 : decode cX6_tryAll 66 = .ok (.getfield 18, 3) := by decide +kernel
theorem dX6_tryAll_69 : decode cX6_tryAll 69 = .ok (.if_icmp .lt 19, 3) := by decide +kernel
theorem dX6_tryAll_72 : decode cX6_tryAll 72 = .ok (.iload_n 2, 1) := by decide +kernel
theorem dX6_tryAll_73 : decode cX6_tryAll 73 = .ok (.aload_n 0, 1) := by decide +kernel
theorem dX6_tryAll_74 : decode cX6_tryAll 74 = .ok (.getfield 18, 3) := by decide +kernel
theorem dX6_tryAll_77 : decode cX6_tryAll 77 = .ok (.if_icmp .ne 21, 3) := by decide +kernel
theorem dX6_tryAll_80 : decode cX6_tryAll 80 = .ok (.iload_n 3, 1) := by decide +kernel
theorem dX6_tryAll_81 : decode cX6_tryAll 81 = .ok (.aload_n 0, 1) := by decide +kernel
theorem dX6_tryAll_82 : decode cX6_tryAll 82 = .ok (.getfield 22, 3) := by decide +kernel
theorem dX6_tryAll_85 : decode cX6_tryAll 85 = .ok (.if_icmp .ge 13, 3) := by decide +kernel
theorem dX6_tryAll_88 : decode cX6_tryAll 88 = .ok (.aload_n 0, 1) := by decide +kernel
theorem dX6_tryAll_89 : decode cX6_tryAll 89 = .ok (.iload_n 2, 1) := by decide +kernel
theorem dX6_tryAll_90 : decode cX6_tryAll 90 = .ok (.putfield 18, 3) := by decide +kernel
theorem dX6_tryAll_93 : decode cX6_tryAll 93 = .ok (.aload_n 0, 1) := by decide +kernel
theorem dX6_tryAll_94 : decode cX6_tryAll 94 = .ok (.iload_n 3, 1) := by decide +kernel
theorem dX6_tryAll_95 : decode cX6_tryAll 95 = .ok (.putfield 22, 3) := by decide +kernel
theorem dX6_tryAll_98 : decode cX6_tryAll 98 = .ok (.iinc 5 1, 3) := by decide +kernel
theorem dX6_tryAll_101 : decode cX6_tryAll 101 = .ok (.goto (-70), 3) := by decide +kernel
theorem dX6_tryAll_104 : decode cX6_tryAll 104 = .ok (.return_, 1) := by decide +kernel
theorem dX6_readTwos_0 : decode cX6_readTwos 0 = .ok (.iconst 0, 1) := by decide +kernel
theorem dX6_readTwos_1 : decode cX6_readTwos 1 = .ok (.istore_n 2, 1) := by decide +kernel
theorem dX6_readTwos_2 : decode cX6_readTwos 2 = .ok (.iconst 0, 1) := by decide +kernel
theorem dX6_readTwos_3 : decode cX6_readTwos 3 = .ok (.istore_n 3, 1) := by decide +kernel
theorem dX6_readTwos_4 : decode cX6_readTwos 4 = .ok (.iload_n 3, 1) := by decide +kernel
theorem dX6_readTwos_5 : decode cX6_readTwos 5 = .ok (.aload_n 1, 1) := by decide +kernel
theorem dX6_readTwos_6 : decode cX6_readTwos 6 = .ok (.getfield 29, 3) := by decide +kernel
theorem dX6_readTwos_9 : decode cX6_readTwos 9 = .ok (.if_icmp .ge 43, 3) := by decide +kernel
theorem dX6_readTwos_12 : decode cX6_readTwos 12 = .ok (.aload_n 0, 1) := by decide +kernel
theorem dX6_readTwos_13 : decode cX6_readTwos 13 = .ok (.getfield 9, 3) := by decide +kernel
theorem dX6_readTwos_16 : decode cX6_readTwos 16 = .ok (.iload_n 3, 1) := by decide +kernel
theorem dX6_readTwos_17 : decode cX6_readTwos 17 = .ok (.aload_n 1, 1) := by decide +kernel
theorem dX6_readTwos_18 : decode cX6_readTwos 18 = .ok (.iload_n 3, 1) := by decide +kernel
theorem dX6_readTwos_19 : decode cX6_readTwos 19 = .ok (.invokevirtual 42, 3) := by decide +kernel
theorem dX6_readTwos_22 : decode cX6_readTwos 22 = .ok (.iastore, 1) := by decide +kernel
theorem dX6_readTwos_23 : decode cX6_readTwos 23 = .ok (.aload_n 0, 1) := by decide +kernel
theorem dX6_readTwos_24 : decode cX6_readTwos 24 = .ok (.getfield 15, 3) := by decide +kernel
theorem dX6_readTwos_27 : decode cX6_readTwos 27 = .ok (.iload_n 3, 1) := by decide +kernel
theorem dX6_readTwos_28 : decode cX6_readTwos 28 = .ok (.aload_n 1, 1) := by decide +kernel
theorem dX6_readTwos_29 : decode cX6_readTwos 29 = .ok (.iload_n 3, 1) := by decide +kernel
theorem dX6_readTwos_30 : decode cX6_readTwos 30 = .ok (.invokevirtual 44, 3) := by decide +kernel
theorem dX6_readTwos_33 : decode cX6_readTwos 33 = .ok (.iastore, 1) := by decide +kernel
theorem dX6_readTwos_34 : decode cX6_readTwos 34 = .ok (.iload_n 2, 1) := by decide +kernel
theorem dX6_readTwos_35 : decode cX6_readTwos 35 = .ok (.aload_n 0, 1) := by decide +kernel
theorem dX6_readTwos_36 : decode cX6_readTwos 36 = .ok (.getfield 15, 3) := by decide +kernel
theorem dX6_readTwos_39 : decode cX6_readTwos 39 = .ok (.iload_n 3, 1) := by decide +kernel
theorem dX6_readTwos_40 : decode cX6_readTwos 40 = .ok (.iaload, 1) := by decide +kernel
theorem dX6_readTwos_41 : decode cX6_readTwos 41 = .ok (.invokestatic 46, 3) := by decide +kernel
theorem dX6_readTwos_44 : decode cX6_readTwos 44 = .ok (.iadd, 1) := by decide +kernel
theorem dX6_readTwos_45 : decode cX6_readTwos 45 = .ok (.istore_n 2, 1) := by decide +kernel
theorem dX6_readTwos_46 : decode cX6_readTwos 46 = .ok (.iinc 3 1, 3) := by decide +kernel
theorem dX6_readTwos_49 : decode cX6_readTwos 49 = .ok (.goto (-45), 3) := by decide +kernel
theorem dX6_readTwos_52 : decode cX6_readTwos 52 = .ok (.iload_n 2, 1) := by decide +kernel
theorem dX6_readTwos_53 : decode cX6_readTwos 53 = .ok (.iconst 2, 1) := by decide +kernel
theorem dX6_readTwos_54 : decode cX6_readTwos 54 = .ok (.idiv, 1) := by decide +kernel
theorem dX6_readTwos_55 : decode cX6_readTwos 55 = .ok (.ireturn, 1) := by decide +kernel
theorem dX6_lowestBit_0 : decode cX6_lowestBit 0 = .ok (.iload_n 0, 1) := by decide +kernel
theorem dX6_lowestBit_1 : decode cX6_lowestBit 1 = .ok (.iload_n 0, 1) := by decide +kernel
theorem dX6_lowestBit_2 : decode cX6_lowestBit 2 = .ok (.ineg, 1) := by decide +kernel
theorem dX6_lowestBit_3 : decode cX6_lowestBit 3 = .ok (.iand, 1) := by decide +kernel
theorem dX6_lowestBit_4 : decode cX6_lowestBit 4 = .ok (.iconst 1, 1) := by decide +kernel
theorem dX6_lowestBit_5 : decode cX6_lowestBit 5 = .ok (.isub, 1) := by decide +kernel
theorem dX6_lowestBit_6 : decode cX6_lowestBit 6 = .ok (.invokestatic 46, 3) := by decide +kernel
theorem dX6_lowestBit_9 : decode cX6_lowestBit 9 = .ok (.ireturn, 1) := by decide +kernel
theorem dX6_changeIfMoved_0 : decode cX6_changeIfMoved 0 = .ok (.iload_n 2, 1) := by decide +kernel
theorem dX6_changeIfMoved_1 : decode cX6_changeIfMoved 1 = .ok (.iload_n 1, 1) := by decide +kernel
theorem dX6_changeIfMoved_2 : decode cX6_changeIfMoved 2 = .ok (.ishr, 1) := by decide +kernel
theorem dX6_changeIfMoved_3 : decode cX6_changeIfMoved 3 = .ok (.iconst 1, 1) := by decide +kernel
theorem dX6_changeIfMoved_4 : decode cX6_changeIfMoved 4 = .ok (.iand, 1) := by decide +kernel
theorem dX6_changeIfMoved_5 : decode cX6_changeIfMoved 5 = .ok (.ifCond .ne 7, 3) := by decide +kernel
theorem dX6_changeIfMoved_8 : decode cX6_changeIfMoved 8 = .ok (.iload_n 2, 1) := by decide +kernel
theorem dX6_changeIfMoved_9 : decode cX6_changeIfMoved 9 = .ok (.goto 6, 3) := by decide +kernel
theorem dX6_changeIfMoved_12 : decode cX6_changeIfMoved 12 = .ok (.iload_n 2, 1) := by decide +kernel
theorem dX6_changeIfMoved_13 : decode cX6_changeIfMoved 13 = .ok (.iconst (-1), 1) := by decide +kernel
theorem dX6_changeIfMoved_14 : decode cX6_changeIfMoved 14 = .ok (.ixor, 1) := by decide +kernel
theorem dX6_changeIfMoved_15 : decode cX6_changeIfMoved 15 = .ok (.istore_n 3, 1) := by decide +kernel
theorem dX6_changeIfMoved_16 : decode cX6_changeIfMoved 16 = .ok (.aload_n 0, 1) := by decide +kernel
theorem dX6_changeIfMoved_17 : decode cX6_changeIfMoved 17 = .ok (.getfield 9, 3) := by decide +kernel
theorem dX6_changeIfMoved_20 : decode cX6_changeIfMoved 20 = .ok (.iload_n 1, 1) := by decide +kernel
theorem dX6_changeIfMoved_21 : decode cX6_changeIfMoved 21 = .ok (.iaload, 1) := by decide +kernel
theorem dX6_changeIfMoved_22 : decode cX6_changeIfMoved 22 = .ok (.iload_n 3, 1) := by decide +kernel
theorem dX6_changeIfMoved_23 : decode cX6_changeIfMoved 23 = .ok (.iand, 1) := by decide +kernel
theorem dX6_changeIfMoved_24 : decode cX6_changeIfMoved 24 = .ok (.aload_n 0, 1) := by decide +kernel
theorem dX6_changeIfMoved_25 : decode cX6_changeIfMoved 25 = .ok (.getfield 15, 3) := by decide +kernel
theorem dX6_changeIfMoved_28 : decode cX6_changeIfMoved 28 = .ok (.iload_n 1, 1) := by decide +kernel
theorem dX6_changeIfMoved_29 : decode cX6_changeIfMoved 29 = .ok (.iaload, 1) := by decide +kernel
theorem dX6_changeIfMoved_30 : decode cX6_changeIfMoved 30 = .ok (.ixor, 1) := by decide +kernel
theorem dX6_changeIfMoved_31 : decode cX6_changeIfMoved 31 = .ok (.invokestatic 46, 3) := by decide +kernel
theorem dX6_changeIfMoved_34 : decode cX6_changeIfMoved 34 = .ok (.istore 4, 2) := by decide +kernel
theorem dX6_changeIfMoved_36 : decode cX6_changeIfMoved 36 = .ok (.aload_n 0, 1) := by decide +kernel
theorem dX6_changeIfMoved_37 : decode cX6_changeIfMoved 37 = .ok (.getfield 9, 3) := by decide +kernel
theorem dX6_changeIfMoved_40 : decode cX6_changeIfMoved 40 = .ok (.iload_n 1, 1) := by decide +kernel
theorem dX6_changeIfMoved_41 : decode cX6_changeIfMoved 41 = .ok (.iaload, 1) := by decide +kernel
theorem dX6_changeIfMoved_42 : decode cX6_changeIfMoved 42 = .ok (.invokestatic 46, 3) := by decide +kernel
theorem dX6_changeIfMoved_45 : decode cX6_changeIfMoved 45 = .ok (.iconst 2, 1) := by decide +kernel
theorem dX6_changeIfMoved_46 : decode cX6_changeIfMoved 46 = .ok (.iload 4, 2) := by decide +kernel
theorem dX6_changeIfMoved_48 : decode cX6_changeIfMoved 48 = .ok (.imul, 1) := by decide +kernel
theorem dX6_changeIfMoved_49 : decode cX6_changeIfMoved 49 = .ok (.isub, 1) := by decide +kernel
theorem dX6_changeIfMoved_50 : decode cX6_changeIfMoved 50 = .ok (.ireturn, 1) := by decide +kernel
theorem dX7_closedThrees_0 : decode cX7_closedThrees 0 = .ok (.iconst 0, 1) := by decide +kernel
theorem dX7_closedThrees_1 : decode cX7_closedThrees 1 = .ok (.istore_n 2, 1) := by decide +kernel
theorem dX7_closedThrees_2 : decode cX7_closedThrees 2 = .ok (.iconst 0, 1) := by decide +kernel
theorem dX7_closedThrees_3 : decode cX7_closedThrees 3 = .ok (.istore_n 3, 1) := by decide +kernel
theorem dX7_closedThrees_4 : decode cX7_closedThrees 4 = .ok (.iload_n 3, 1) := by decide +kernel
theorem dX7_closedThrees_5 : decode cX7_closedThrees 5 = .ok (.aload_n 0, 1) := by decide +kernel
theorem dX7_closedThrees_6 : decode cX7_closedThrees 6 = .ok (.getfield 7, 3) := by decide +kernel
theorem dX7_closedThrees_9 : decode cX7_closedThrees 9 = .ok (.if_icmp .ge 78, 3) := by decide +kernel
theorem dX7_closedThrees_12 : decode cX7_closedThrees 12 = .ok (.iload_n 3, 1) := by decide +kernel
theorem dX7_closedThrees_13 : decode cX7_closedThrees 13 = .ok (.iconst 1, 1) := by decide +kernel
theorem dX7_closedThrees_14 : decode cX7_closedThrees 14 = .ok (.iadd, 1) := by decide +kernel
theorem dX7_closedThrees_15 : decode cX7_closedThrees 15 = .ok (.istore 4, 2) := by decide +kernel
theorem dX7_closedThrees_17 : decode cX7_closedThrees 17 = .ok (.iload 4, 2) := by decide +kernel
theorem dX7_closedThrees_19 : decode cX7_closedThrees 19 = .ok (.aload_n 0, 1) := by decide +kernel
theorem dX7_closedThrees_20 : decode cX7_closedThrees 20 = .ok (.getfield 7, 3) := by decide +kernel
theorem dX7_closedThrees_23 : decode cX7_closedThrees 23 = .ok (.if_icmp .ge 58, 3) := by decide +kernel
theorem dX7_closedThrees_26 : decode cX7_closedThrees 26 = .ok (.iload 4, 2) := by decide +kernel
theorem dX7_closedThrees_28 : decode cX7_closedThrees 28 = .ok (.iconst 1, 1) := by decide +kernel
theorem dX7_closedThrees_29 : decode cX7_closedThrees 29 = .ok (.iadd, 1) := by decide +kernel
theorem dX7_closedThrees_30 : decode cX7_closedThrees 30 = .ok (.istore 5, 2) := by decide +kernel
theorem dX7_closedThrees_32 : decode cX7_closedThrees 32 = .ok (.iload 5, 2) := by decide +kernel
theorem dX7_closedThrees_34 : decode cX7_closedThrees 34 = .ok (.aload_n 0, 1) := by decide +kernel
theorem dX7_closedThrees_35 : decode cX7_closedThrees 35 = .ok (.getfield 7, 3) := by decide +kernel
theorem dX7_closedThrees_38 : decode cX7_closedThrees 38 = .ok (.if_icmp .ge 37, 3) := by decide +kernel
theorem dX7_closedThrees_41 : decode cX7_closedThrees 41 = .ok (.aload_n 0, 1) := by decide +kernel
theorem dX7_closedThrees_42 : decode cX7_closedThrees 42 = .ok (.iload_n 3, 1) := by decide +kernel
theorem dX7_closedThrees_43 : decode cX7_closedThrees 43 = .ok (.iload 4, 2) := by decide +kernel
theorem dX7_closedThrees_45 : decode cX7_closedThrees 45 = .ok (.iload 5, 2) := by decide +kernel
theorem dX7_closedThrees_47 : decode cX7_closedThrees 47 = .ok (.invokestatic 13, 3) := by decide +kernel
theorem dX7_closedThrees_50 : decode cX7_closedThrees 50 = .ok (.ifCond .eq 19, 3) := by decide +kernel
theorem dX7_closedThrees_53 : decode cX7_closedThrees 53 = .ok (.aload_n 0, 1) := by decide +kernel
theorem dX7_closedThrees_54 : decode cX7_closedThrees 54 = .ok (.iload_n 3, 1) := by decide +kernel
theorem dX7_closedThrees_55 : decode cX7_closedThrees 55 = .ok (.iload 4, 2) := by decide +kernel
theorem dX7_closedThrees_57 : decode cX7_closedThrees 57 = .ok (.iload 5, 2) := by decide +kernel
theorem dX7_closedThrees_59 : decode cX7_closedThrees 59 = .ok (.invokestatic 19, 3) := by decide +kernel
theorem dX7_closedThrees_62 : decode cX7_closedThrees 62 = .ok (.iload_n 1, 1) := by decide +kernel
theorem dX7_closedThrees_63 : decode cX7_closedThrees 63 = .ok (.if_icmp .ne 6, 3) := by decide +kernel
theorem dX7_closedThrees_66 : decode cX7_closedThrees 66 = .ok (.iinc 2 1, 3) := by decide +kernel
theorem dX7_closedThrees_69 : decode cX7_closedThrees 69 = .ok (.iinc 5 1, 3) := by decide +kernel
theorem dX7_closedThrees_72 : decode cX7_closedThrees 72 = .ok (.goto (-40), 3) := by decide +kernel
theorem dX7_closedThrees_75 : decode cX7_closedThrees 75 = .ok (.iinc 4 1, 3) := by decide +kernel
theorem dX7_closedThrees_78 : decode cX7_closedThrees 78 = .ok (.goto (-61), 3) := by decide +kernel
theorem dX7_closedThrees_81 : decode cX7_closedThrees 81 = .ok (.iinc 3 1, 3) := by decide +kernel
theorem dX7_closedThrees_84 : decode cX7_closedThrees 84 = .ok (.goto (-80), 3) := by decide +kernel
theorem dX7_closedThrees_87 : decode cX7_closedThrees 87 = .ok (.iload_n 2, 1) := by decide +kernel
theorem dX7_closedThrees_88 : decode cX7_closedThrees 88 = .ok (.ireturn, 1) := by decide +kernel
theorem dX7_isClosed_0 : decode cX7_isClosed 0 = .ok (.aload_n 0, 1) := by decide +kernel
theorem dX7_isClosed_1 : decode cX7_isClosed 1 = .ok (.iload_n 1, 1) := by decide +kernel
theorem dX7_isClosed_2 : decode cX7_isClosed 2 = .ok (.iload_n 2, 1) := by decide +kernel
theorem dX7_isClosed_3 : decode cX7_isClosed 3 = .ok (.invokevirtual 22, 3) := by decide +kernel
theorem dX7_isClosed_6 : decode cX7_isClosed 6 = .ok (.aload_n 0, 1) := by decide +kernel
theorem dX7_isClosed_7 : decode cX7_isClosed 7 = .ok (.iload_n 1, 1) := by decide +kernel
theorem dX7_isClosed_8 : decode cX7_isClosed 8 = .ok (.iload_n 3, 1) := by decide +kernel
theorem dX7_isClosed_9 : decode cX7_isClosed 9 = .ok (.invokevirtual 22, 3) := by decide +kernel
theorem dX7_isClosed_12 : decode cX7_isClosed 12 = .ok (.iand, 1) := by decide +kernel
theorem dX7_isClosed_13 : decode cX7_isClosed 13 = .ok (.aload_n 0, 1) := by decide +kernel
theorem dX7_isClosed_14 : decode cX7_isClosed 14 = .ok (.iload_n 2, 1) := by decide +kernel
theorem dX7_isClosed_15 : decode cX7_isClosed 15 = .ok (.iload_n 3, 1) := by decide +kernel
theorem dX7_isClosed_16 : decode cX7_isClosed 16 = .ok (.invokevirtual 22, 3) := by decide +kernel
theorem dX7_isClosed_19 : decode cX7_isClosed 19 = .ok (.iand, 1) := by decide +kernel
theorem dX7_isClosed_20 : decode cX7_isClosed 20 = .ok (.iconst 1, 1) := by decide +kernel
theorem dX7_isClosed_21 : decode cX7_isClosed 21 = .ok (.if_icmp .ne 7, 3) := by decide +kernel
theorem dX7_isClosed_24 : decode cX7_isClosed 24 = .ok (.iconst 1, 1) := by decide +kernel
theorem dX7_isClosed_25 : decode cX7_isClosed 25 = .ok (.goto 4, 3) := by decide +kernel
theorem dX7_isClosed_28 : decode cX7_isClosed 28 = .ok (.iconst 0, 1) := by decide +kernel
theorem dX7_isClosed_29 : decode cX7_isClosed 29 = .ok (.ireturn, 1) := by decide +kernel
theorem dX7_quarrels_0 : decode cX7_quarrels 0 = .ok (.aload_n 0, 1) := by decide +kernel
theorem dX7_quarrels_1 : decode cX7_quarrels 1 = .ok (.iload_n 1, 1) := by decide +kernel
theorem dX7_quarrels_2 : decode cX7_quarrels 2 = .ok (.iload_n 2, 1) := by decide +kernel
theorem dX7_quarrels_3 : decode cX7_quarrels 3 = .ok (.invokevirtual 26, 3) := by decide +kernel
theorem dX7_quarrels_6 : decode cX7_quarrels 6 = .ok (.aload_n 0, 1) := by decide +kernel
theorem dX7_quarrels_7 : decode cX7_quarrels 7 = .ok (.iload_n 1, 1) := by decide +kernel
theorem dX7_quarrels_8 : decode cX7_quarrels 8 = .ok (.iload_n 3, 1) := by decide +kernel
theorem dX7_quarrels_9 : decode cX7_quarrels 9 = .ok (.invokevirtual 26, 3) := by decide +kernel
theorem dX7_quarrels_12 : decode cX7_quarrels 12 = .ok (.iadd, 1) := by decide +kernel
theorem dX7_quarrels_13 : decode cX7_quarrels 13 = .ok (.aload_n 0, 1) := by decide +kernel
theorem dX7_quarrels_14 : decode cX7_quarrels 14 = .ok (.iload_n 2, 1) := by decide +kernel
theorem dX7_quarrels_15 : decode cX7_quarrels 15 = .ok (.iload_n 3, 1) := by decide +kernel
theorem dX7_quarrels_16 : decode cX7_quarrels 16 = .ok (.invokevirtual 26, 3) := by decide +kernel
theorem dX7_quarrels_19 : decode cX7_quarrels 19 = .ok (.iadd, 1) := by decide +kernel
theorem dX7_quarrels_20 : decode cX7_quarrels 20 = .ok (.istore 4, 2) := by decide +kernel
theorem dX7_quarrels_22 : decode cX7_quarrels 22 = .ok (.iload 4, 2) := by decide +kernel
theorem dX7_quarrels_24 : decode cX7_quarrels 24 = .ok (.iconst 1, 1) := by decide +kernel
theorem dX7_quarrels_25 : decode cX7_quarrels 25 = .ok (.if_icmp .eq 9, 3) := by decide +kernel
theorem dX7_quarrels_28 : decode cX7_quarrels 28 = .ok (.iload 4, 2) := by decide +kernel
theorem dX7_quarrels_30 : decode cX7_quarrels 30 = .ok (.iconst 3, 1) := by decide +kernel
theorem dX7_quarrels_31 : decode cX7_quarrels 31 = .ok (.if_icmp .ne 7, 3) := by decide +kernel
theorem dX7_quarrels_34 : decode cX7_quarrels 34 = .ok (.iconst 1, 1) := by decide +kernel
theorem dX7_quarrels_35 : decode cX7_quarrels 35 = .ok (.goto 4, 3) := by decide +kernel
theorem dX7_quarrels_38 : decode cX7_quarrels 38 = .ok (.iconst 0, 1) := by decide +kernel
theorem dX7_quarrels_39 : decode cX7_quarrels 39 = .ok (.ireturn, 1) := by decide +kernel
theorem dX8_backChains_0 : decode cX8_backChains 0 = .ok (.iconst 0, 1) := by decide +kernel
theorem dX8_backChains_1 : decode cX8_backChains 1 = .ok (.istore_n 2, 1) := by decide +kernel
theorem dX8_backChains_2 : decode cX8_backChains 2 = .ok (.iconst 0, 1) := by decide +kernel
theorem dX8_backChains_3 : decode cX8_backChains 3 = .ok (.istore_n 3, 1) := by decide +kernel
theorem dX8_backChains_4 : decode cX8_backChains 4 = .ok (.iload_n 3, 1) := by decide +kernel
theorem dX8_backChains_5 : decode cX8_backChains 5 = .ok (.aload_n 0, 1) := by decide +kernel
theorem dX8_backChains_6 : decode cX8_backChains 6 = .ok (.getfield 7, 3) := by decide +kernel
theorem dX8_backChains_9 : decode cX8_backChains 9 = .ok (.if_icmp .ge 42, 3) := by decide +kernel
theorem dX8_backChains_12 : decode cX8_backChains 12 = .ok (.iconst 0, 1) := by decide +kernel
theorem dX8_backChains_13 : decode cX8_backChains 13 = .ok (.istore 4, 2) := by decide +kernel
theorem dX8_backChains_15 : decode cX8_backChains 15 = .ok (.iload 4, 2) := by decide +kernel
theorem dX8_backChains_17 : decode cX8_backChains 17 = .ok (.aload_n 0, 1) := by decide +kernel
theorem dX8_backChains_18 : decode cX8_backChains 18 = .ok (.getfield 7, 3) := by decide +kernel
theorem dX8_backChains_21 : decode cX8_backChains 21 = .ok (.if_icmp .ge 24, 3) := by decide +kernel
theorem dX8_backChains_24 : decode cX8_backChains 24 = .ok (.aload_n 0, 1) := by decide +kernel
theorem dX8_backChains_25 : decode cX8_backChains 25 = .ok (.iload_n 3, 1) := by decide +kernel
theorem dX8_backChains_26 : decode cX8_backChains 26 = .ok (.iload 4, 2) := by decide +kernel
theorem dX8_backChains_28 : decode cX8_backChains 28 = .ok (.iload_n 3, 1) := by decide +kernel
theorem dX8_backChains_29 : decode cX8_backChains 29 = .ok (.iload_n 1, 1) := by decide +kernel
theorem dX8_backChains_30 : decode cX8_backChains 30 = .ok (.invokestatic 13, 3) := by decide +kernel
theorem dX8_backChains_33 : decode cX8_backChains 33 = .ok (.ifCond .eq 6, 3) := by decide +kernel
theorem dX8_backChains_36 : decode cX8_backChains 36 = .ok (.iinc 2 1, 3) := by decide +kernel
theorem dX8_backChains_39 : decode cX8_backChains 39 = .ok (.iinc 4 1, 3) := by decide +kernel
theorem dX8_backChains_42 : decode cX8_backChains 42 = .ok (.goto (-27), 3) := by decide +kernel
theorem dX8_backChains_45 : decode cX8_backChains 45 = .ok (.iinc 3 1, 3) := by decide +kernel
theorem dX8_backChains_48 : decode cX8_backChains 48 = .ok (.goto (-44), 3) := by decide +kernel
theorem dX8_backChains_51 : decode cX8_backChains 51 = .ok (.iload_n 2, 1) := by decide +kernel
theorem dX8_backChains_52 : decode cX8_backChains 52 = .ok (.ireturn, 1) := by decide +kernel
theorem dX8_onChains_0 : decode cX8_onChains 0 = .ok (.iconst 0, 1) := by decide +kernel
theorem dX8_onChains_1 : decode cX8_onChains 1 = .ok (.istore_n 2, 1) := by decide +kernel
theorem dX8_onChains_2 : decode cX8_onChains 2 = .ok (.iconst 0, 1) := by decide +kernel
theorem dX8_onChains_3 : decode cX8_onChains 3 = .ok (.istore_n 3, 1) := by decide +kernel
theorem dX8_onChains_4 : decode cX8_onChains 4 = .ok (.iload_n 3, 1) := by decide +kernel
theorem dX8_onChains_5 : decode cX8_onChains 5 = .ok (.aload_n 0, 1) := by decide +kernel
theorem dX8_onChains_6 : decode cX8_onChains 6 = .ok (.getfield 7, 3) := by decide +kernel
theorem dX8_onChains_9 : decode cX8_onChains 9 = .ok (.if_icmp .ge 67, 3) := by decide +kernel
theorem dX8_onChains_12 : decode cX8_onChains 12 = .ok (.iconst 0, 1) := by decide +kernel
theorem dX8_onChains_13 : decode cX8_onChains 13 = .ok (.istore 4, 2) := by decide +kernel
theorem dX8_onChains_15 : decode cX8_onChains 15 = .ok (.iload 4, 2) := by decide +kernel
theorem dX8_onChains_17 : decode cX8_onChains 17 = .ok (.aload_n 0, 1) := by decide +kernel
theorem dX8_onChains_18 : decode cX8_onChains 18 = .ok (.getfield 7, 3) := by decide +kernel
theorem dX8_onChains_21 : decode cX8_onChains 21 = .ok (.if_icmp .ge 49, 3) := by decide +kernel
theorem dX8_onChains_24 : decode cX8_onChains 24 = .ok (.iconst 0, 1) := by decide +kernel
theorem dX8_onChains_25 : decode cX8_onChains 25 = .ok (.istore 5, 2) := by decide +kernel
theorem dX8_onChains_27 : decode cX8_onChains 27 = .ok (.iload 5, 2) := by decide +kernel
theorem dX8_onChains_29 : decode cX8_onChains 29 = .ok (.aload_n 0, 1) := by decide +kernel
theorem dX8_onChains_30 : decode cX8_onChains 30 = .ok (.getfield 7, 3) := by decide +kernel
theorem dX8_onChains_33 : decode cX8_onChains 33 = .ok (.if_icmp .ge 31, 3) := by decide +kernel
theorem dX8_onChains_36 : decode cX8_onChains 36 = .ok (.iload 5, 2) := by decide +kernel
theorem dX8_onChains_38 : decode cX8_onChains 38 = .ok (.iload_n 3, 1) := by decide +kernel
theorem dX8_onChains_39 : decode cX8_onChains 39 = .ok (.if_icmp .eq 19, 3) := by decide +kernel
theorem dX8_onChains_42 : decode cX8_onChains 42 = .ok (.aload_n 0, 1) := by decide +kernel
theorem dX8_onChains_43 : decode cX8_onChains 43 = .ok (.iload_n 3, 1) := by decide +kernel
theorem dX8_onChains_44 : decode cX8_onChains 44 = .ok (.iload 4, 2) := by decide +kernel
theorem dX8_onChains_46 : decode cX8_onChains 46 = .ok (.iload 5, 2) := by decide +kernel
theorem dX8_onChains_48 : decode cX8_onChains 48 = .ok (.iload_n 1, 1) := by decide +kernel
theorem dX8_onChains_49 : decode cX8_onChains 49 = .ok (.invokestatic 13, 3) := by decide +kernel
theorem dX8_onChains_52 : decode cX8_onChains 52 = .ok (.ifCond .eq 6, 3) := by decide +kernel
theorem dX8_onChains_55 : decode cX8_onChains 55 = .ok (.iinc 2 1, 3) := by decide +kernel
theorem dX8_onChains_58 : decode cX8_onChains 58 = .ok (.iinc 5 1, 3) := by decide +kernel
theorem dX8_onChains_61 : decode cX8_onChains 61 = .ok (.goto (-34), 3) := by decide +kernel
theorem dX8_onChains_64 : decode cX8_onChains 64 = .ok (.iinc 4 1, 3) := by decide +kernel
theorem dX8_onChains_67 : decode cX8_onChains 67 = .ok (.goto (-52), 3) := by decide +kernel
theorem dX8_onChains_70 : decode cX8_onChains 70 = .ok (.iinc 3 1, 3) := by decide +kernel
theorem dX8_onChains_73 : decode cX8_onChains 73 = .ok (.goto (-69), 3) := by decide +kernel
theorem dX8_onChains_76 : decode cX8_onChains 76 = .ok (.iload_n 2, 1) := by decide +kernel
theorem dX8_onChains_77 : decode cX8_onChains 77 = .ok (.ireturn, 1) := by decide +kernel
theorem dX8_isChain_0 : decode cX8_isChain 0 = .ok (.aload_n 0, 1) := by decide +kernel
theorem dX8_isChain_1 : decode cX8_isChain 1 = .ok (.iload_n 1, 1) := by decide +kernel
theorem dX8_isChain_2 : decode cX8_isChain 2 = .ok (.iload_n 2, 1) := by decide +kernel
theorem dX8_isChain_3 : decode cX8_isChain 3 = .ok (.invokevirtual 19, 3) := by decide +kernel
theorem dX8_isChain_6 : decode cX8_isChain 6 = .ok (.ifCond .eq 12, 3) := by decide +kernel
theorem dX8_isChain_9 : decode cX8_isChain 9 = .ok (.aload_n 0, 1) := by decide +kernel
theorem dX8_isChain_10 : decode cX8_isChain 10 = .ok (.iload_n 2, 1) := by decide +kernel
theorem dX8_isChain_11 : decode cX8_isChain 11 = .ok (.iload_n 3, 1) := by decide +kernel
theorem dX8_isChain_12 : decode cX8_isChain 12 = .ok (.invokevirtual 19, 3) := by decide +kernel
theorem dX8_isChain_15 : decode cX8_isChain 15 = .ok (.ifCond .ne 5, 3) := by decide +kernel
theorem dX8_isChain_18 : decode cX8_isChain 18 = .ok (.iconst 0, 1) := by decide +kernel
theorem dX8_isChain_19 : decode cX8_isChain 19 = .ok (.ireturn, 1) := by decide +kernel
theorem dX8_isChain_20 : decode cX8_isChain 20 = .ok (.aload_n 0, 1) := by decide +kernel
theorem dX8_isChain_21 : decode cX8_isChain 21 = .ok (.iload_n 2, 1) := by decide +kernel
theorem dX8_isChain_22 : decode cX8_isChain 22 = .ok (.iload_n 3, 1) := by decide +kernel
theorem dX8_isChain_23 : decode cX8_isChain 23 = .ok (.invokevirtual 23, 3) := by decide +kernel
theorem dX8_isChain_26 : decode cX8_isChain 26 = .ok (.aload_n 0, 1) := by decide +kernel
theorem dX8_isChain_27 : decode cX8_isChain 27 = .ok (.iload_n 1, 1) := by decide +kernel
theorem dX8_isChain_28 : decode cX8_isChain 28 = .ok (.iload_n 2, 1) := by decide +kernel
theorem dX8_isChain_29 : decode cX8_isChain 29 = .ok (.invokevirtual 23, 3) := by decide +kernel
theorem dX8_isChain_32 : decode cX8_isChain 32 = .ok (.isub, 1) := by decide +kernel
theorem dX8_isChain_33 : decode cX8_isChain 33 = .ok (.istore 5, 2) := by decide +kernel
theorem dX8_isChain_35 : decode cX8_isChain 35 = .ok (.iload 5, 2) := by decide +kernel
theorem dX8_isChain_37 : decode cX8_isChain 37 = .ok (.ifCond .le 14, 3) := by decide +kernel
theorem dX8_isChain_40 : decode cX8_isChain 40 = .ok (.iload 5, 2) := by decide +kernel
theorem dX8_isChain_42 : decode cX8_isChain 42 = .ok (.iload 4, 2) := by decide +kernel
theorem dX8_isChain_44 : decode cX8_isChain 44 = .ok (.if_icmp .gt 7, 3) := by decide +kernel
theorem dX8_isChain_47 : decode cX8_isChain 47 = .ok (.iconst 1, 1) := by decide +kernel
theorem dX8_isChain_48 : decode cX8_isChain 48 = .ok (.goto 4, 3) := by decide +kernel
theorem dX8_isChain_51 : decode cX8_isChain 51 = .ok (.iconst 0, 1) := by decide +kernel
theorem dX8_isChain_52 : decode cX8_isChain 52 = .ok (.ireturn, 1) := by decide +kernel
theorem dX8_longestBurst_0 : decode cX8_longestBurst 0 = .ok (.iconst 0, 1) := by decide +kernel
theorem dX8_longestBurst_1 : decode cX8_longestBurst 1 = .ok (.istore_n 3, 1) := by decide +kernel
theorem dX8_longestBurst_2 : decode cX8_longestBurst 2 = .ok (.iconst 0, 1) := by decide +kernel
theorem dX8_longestBurst_3 : decode cX8_longestBurst 3 = .ok (.istore 4, 2) := by decide +kernel
theorem dX8_longestBurst_5 : decode cX8_longestBurst 5 = .ok (.iload 4, 2) := by decide +kernel
theorem dX8_longestBurst_7 : decode cX8_longestBurst 7 = .ok (.aload_n 0, 1) := by decide +kernel
theorem dX8_longestBurst_8 : decode cX8_longestBurst 8 = .ok (.getfield 7, 3) := by decide +kernel
theorem dX8_longestBurst_11 : decode cX8_longestBurst 11 = .ok (.if_icmp .ge 37, 3) := by decide +kernel
theorem dX8_longestBurst_14 : decode cX8_longestBurst 14 = .ok (.aload_n 0, 1) := by decide +kernel
theorem dX8_longestBurst_15 : decode cX8_longestBurst 15 = .ok (.iload_n 1, 1) := by decide +kernel
theorem dX8_longestBurst_16 : decode cX8_longestBurst 16 = .ok (.iload 4, 2) := by decide +kernel
theorem dX8_longestBurst_18 : decode cX8_longestBurst 18 = .ok (.invokevirtual 19, 3) := by decide +kernel
theorem dX8_longestBurst_21 : decode cX8_longestBurst 21 = .ok (.ifCond .eq 21, 3) := by decide +kernel
theorem dX8_longestBurst_24 : decode cX8_longestBurst 24 = .ok (.iload_n 3, 1) := by decide +kernel
theorem dX8_longestBurst_25 : decode cX8_longestBurst 25 = .ok (.aload_n 0, 1) := by decide +kernel
theorem dX8_longestBurst_26 : decode cX8_longestBurst 26 = .ok (.iload_n 1, 1) := by decide +kernel
theorem dX8_longestBurst_27 : decode cX8_longestBurst 27 = .ok (.aload_n 0, 1) := by decide +kernel
theorem dX8_longestBurst_28 : decode cX8_longestBurst 28 = .ok (.iload_n 1, 1) := by decide +kernel
theorem dX8_longestBurst_29 : decode cX8_longestBurst 29 = .ok (.iload 4, 2) := by decide +kernel
theorem dX8_longestBurst_31 : decode cX8_longestBurst 31 = .ok (.invokevirtual 23, 3) := by decide +kernel
theorem dX8_longestBurst_34 : decode cX8_longestBurst 34 = .ok (.iload_n 2, 1) := by decide +kernel
theorem dX8_longestBurst_35 : decode cX8_longestBurst 35 = .ok (.invokestatic 27, 3) := by decide +kernel
theorem dX8_longestBurst_38 : decode cX8_longestBurst 38 = .ok (.invokestatic 31, 3) := by decide +kernel
theorem dX8_longestBurst_41 : decode cX8_longestBurst 41 = .ok (.istore_n 3, 1) := by decide +kernel
theorem dX8_longestBurst_42 : decode cX8_longestBurst 42 = .ok (.iinc 4 1, 3) := by decide +kernel
theorem dX8_longestBurst_45 : decode cX8_longestBurst 45 = .ok (.goto (-40), 3) := by decide +kernel
theorem dX8_longestBurst_48 : decode cX8_longestBurst 48 = .ok (.iload_n 3, 1) := by decide +kernel
theorem dX8_longestBurst_49 : decode cX8_longestBurst 49 = .ok (.ireturn, 1) := by decide +kernel
theorem dX8_linksFrom_0 : decode cX8_linksFrom 0 = .ok (.iconst 0, 1) := by decide +kernel
theorem dX8_linksFrom_1 : decode cX8_linksFrom 1 = .ok (.istore 4, 2) := by decide +kernel
theorem dX8_linksFrom_3 : decode cX8_linksFrom 3 = .ok (.iconst 0, 1) := by decide +kernel
theorem dX8_linksFrom_4 : decode cX8_linksFrom 4 = .ok (.istore 5, 2) := by decide +kernel
theorem dX8_linksFrom_6 : decode cX8_linksFrom 6 = .ok (.iload 5, 2) := by decide +kernel
theorem dX8_linksFrom_8 : decode cX8_linksFrom 8 = .ok (.aload_n 0, 1) := by decide +kernel
theorem dX8_linksFrom_9 : decode cX8_linksFrom 9 = .ok (.getfield 7, 3) := by decide +kernel
theorem dX8_linksFrom_12 : decode cX8_linksFrom 12 = .ok (.if_icmp .ge 44, 3) := by decide +kernel
theorem dX8_linksFrom_15 : decode cX8_linksFrom 15 = .ok (.aload_n 0, 1) := by decide +kernel
theorem dX8_linksFrom_16 : decode cX8_linksFrom 16 = .ok (.iload_n 1, 1) := by decide +kernel
theorem dX8_linksFrom_17 : decode cX8_linksFrom 17 = .ok (.iload 5, 2) := by decide +kernel
theorem dX8_linksFrom_19 : decode cX8_linksFrom 19 = .ok (.invokevirtual 23, 3) := by decide +kernel
theorem dX8_linksFrom_22 : decode cX8_linksFrom 22 = .ok (.iload_n 2, 1) := by decide +kernel
theorem dX8_linksFrom_23 : decode cX8_linksFrom 23 = .ok (.isub, 1) := by decide +kernel
theorem dX8_linksFrom_24 : decode cX8_linksFrom 24 = .ok (.istore 6, 2) := by decide +kernel
theorem dX8_linksFrom_26 : decode cX8_linksFrom 26 = .ok (.aload_n 0, 1) := by decide +kernel
theorem dX8_linksFrom_27 : decode cX8_linksFrom 27 = .ok (.iload_n 1, 1) := by decide +kernel
theorem dX8_linksFrom_28 : decode cX8_linksFrom 28 = .ok (.iload 5, 2) := by decide +kernel
theorem dX8_linksFrom_30 : decode cX8_linksFrom 30 = .ok (.invokevirtual 19, 3) := by decide +kernel
theorem dX8_linksFrom_33 : decode cX8_linksFrom 33 = .ok (.ifCond .eq 17, 3) := by decide +kernel
theorem dX8_linksFrom_36 : decode cX8_linksFrom 36 = .ok (.iload 6, 2) := by decide +kernel
theorem dX8_linksFrom_38 : decode cX8_linksFrom 38 = .ok (.ifCond .lt 12, 3) := by decide +kernel
theorem dX8_linksFrom_41 : decode cX8_linksFrom 41 = .ok (.iload 6, 2) := by decide +kernel
theorem dX8_linksFrom_43 : decode cX8_linksFrom 43 = .ok (.iload_n 3, 1) := by decide +kernel
theorem dX8_linksFrom_44 : decode cX8_linksFrom 44 = .ok (.if_icmp .gt 6, 3) := by decide +kernel
theorem dX8_linksFrom_47 : decode cX8_linksFrom 47 = .ok (.iinc 4 1, 3) := by decide +kernel
theorem dX8_linksFrom_50 : decode cX8_linksFrom 50 = .ok (.iinc 5 1, 3) := by decide +kernel
theorem dX8_linksFrom_53 : decode cX8_linksFrom 53 = .ok (.goto (-47), 3) := by decide +kernel
theorem dX8_linksFrom_56 : decode cX8_linksFrom 56 = .ok (.iload 4, 2) := by decide +kernel
theorem dX8_linksFrom_58 : decode cX8_linksFrom 58 = .ok (.ireturn, 1) := by decide +kernel
theorem dX9_init_0 : decode cX9_init 0 = .ok (.aload_n 0, 1) := by decide +kernel
theorem dX9_init_1 : decode cX9_init 1 = .ok (.invokespecial 3, 3) := by decide +kernel
theorem dX9_init_4 : decode cX9_init 4 = .ok (.aload_n 0, 1) := by decide +kernel
theorem dX9_init_5 : decode cX9_init 5 = .ok (.sipush 128, 3) := by decide +kernel
theorem dX9_init_8 : decode cX9_init 8 = .ok (.newarray .long, 2) := by decide +kernel
theorem dX9_init_10 : decode cX9_init 10 = .ok (.putfield 11, 3) := by decide +kernel
theorem dX9_init_13 : decode cX9_init 13 = .ok (.aload_n 0, 1) := by decide +kernel
theorem dX9_init_14 : decode cX9_init 14 = .ok (.sipush 128, 3) := by decide +kernel
theorem dX9_init_17 : decode cX9_init 17 = .ok (.newarray .long, 2) := by decide +kernel
theorem dX9_init_19 : decode cX9_init 19 = .ok (.putfield 15, 3) := by decide +kernel
theorem dX9_init_22 : decode cX9_init 22 = .ok (.return_, 1) := by decide +kernel
theorem dX9_countFrom_0 : decode cX9_countFrom 0 = .ok (.iconst 0, 1) := by decide +kernel
theorem dX9_countFrom_1 : decode cX9_countFrom 1 = .ok (.istore 4, 2) := by decide +kernel
theorem dX9_countFrom_3 : decode cX9_countFrom 3 = .ok (.iload 4, 2) := by decide +kernel
theorem dX9_countFrom_5 : decode cX9_countFrom 5 = .ok (.sipush 128, 3) := by decide +kernel
theorem dX9_countFrom_8 : decode cX9_countFrom 8 = .ok (.if_icmp .ge 17, 3) := by decide +kernel
theorem dX9_countFrom_11 : decode cX9_countFrom 11 = .ok (.aload_n 0, 1) := by decide +kernel
theorem dX9_countFrom_12 : decode cX9_countFrom 12 = .ok (.getfield 11, 3) := by decide +kernel
theorem dX9_countFrom_15 : decode cX9_countFrom 15 = .ok (.iload 4, 2) := by decide +kernel
theorem dX9_countFrom_17 : decode cX9_countFrom 17 = .ok (.lconst 0, 1) := by decide +kernel
theorem dX9_countFrom_18 : decode cX9_countFrom 18 = .ok (.lastore, 1) := by decide +kernel
theorem dX9_countFrom_19 : decode cX9_countFrom 19 = .ok (.iinc 4 1, 3) := by decide +kernel
theorem dX9_countFrom_22 : decode cX9_countFrom 22 = .ok (.goto (-19), 3) := by decide +kernel
theorem dX9_countFrom_25 : decode cX9_countFrom 25 = .ok (.aload_n 0, 1) := by decide +kernel
theorem dX9_countFrom_26 : decode cX9_countFrom 26 = .ok (.getfield 11, 3) := by decide +kernel
theorem dX9_countFrom_29 : decode cX9_countFrom 29 = .ok (.iload_n 2, 1) := by decide +kernel
theorem dX9_countFrom_30 : decode cX9_countFrom 30 = .ok (.bipush 8, 2) := by decide +kernel
theorem dX9_countFrom_32 : decode cX9_countFrom 32 = .ok (.imul, 1) := by decide +kernel
theorem dX9_countFrom_33 : decode cX9_countFrom 33 = .ok (.lconst 1, 1) := by decide +kernel
theorem dX9_countFrom_34 : decode cX9_countFrom 34 = .ok (.lastore, 1) := by decide +kernel
theorem dX9_countFrom_35 : decode cX9_countFrom 35 = .ok (.iconst 0, 1) := by decide +kernel
theorem dX9_countFrom_36 : decode cX9_countFrom 36 = .ok (.istore 4, 2) := by decide +kernel
theorem dX9_countFrom_38 : decode cX9_countFrom 38 = .ok (.iload 4, 2) := by decide +kernel
theorem dX9_countFrom_40 : decode cX9_countFrom 40 = .ok (.iload_n 3, 1) := by decide +kernel
theorem dX9_countFrom_41 : decode cX9_countFrom 41 = .ok (.if_icmp .ge 34, 3) := by decide +kernel
theorem dX9_countFrom_44 : decode cX9_countFrom 44 = .ok (.aload_n 0, 1) := by decide +kernel
theorem dX9_countFrom_45 : decode cX9_countFrom 45 = .ok (.getfield 15, 3) := by decide +kernel
theorem dX9_countFrom_48 : decode cX9_countFrom 48 = .ok (.astore 5, 2) := by decide +kernel
theorem dX9_countFrom_50 : decode cX9_countFrom 50 = .ok (.aload_n 0, 1) := by decide +kernel
theorem dX9_countFrom_51 : decode cX9_countFrom 51 = .ok (.aload_n 0, 1) := by decide +kernel
theorem dX9_countFrom_52 : decode cX9_countFrom 52 = .ok (.getfield 11, 3) := by decide +kernel
theorem dX9_countFrom_55 : decode cX9_countFrom 55 = .ok (.putfield 15, 3) := by decide +kernel
theorem dX9_countFrom_58 : decode cX9_countFrom 58 = .ok (.aload_n 0, 1) := by decide +kernel
theorem dX9_countFrom_59 : decode cX9_countFrom 59 = .ok (.aload 5, 2) := by decide +kernel
theorem dX9_countFrom_61 : decode cX9_countFrom 61 = .ok (.putfield 11, 3) := by decide +kernel
theorem dX9_countFrom_64 : decode cX9_countFrom 64 = .ok (.aload_n 0, 1) := by decide +kernel
theorem dX9_countFrom_65 : decode cX9_countFrom 65 = .ok (.aload_n 1, 1) := by decide +kernel
theorem dX9_countFrom_66 : decode cX9_countFrom 66 = .ok (.invokevirtual 18, 3) := by decide +kernel
theorem dX9_countFrom_69 : decode cX9_countFrom 69 = .ok (.iinc 4 1, 3) := by decide +kernel
theorem dX9_countFrom_72 : decode cX9_countFrom 72 = .ok (.goto (-34), 3) := by decide +kernel
theorem dX9_countFrom_75 : decode cX9_countFrom 75 = .ok (.return_, 1) := by decide +kernel
theorem dX9_goOn_0 : decode cX9_goOn 0 = .ok (.iconst 0, 1) := by decide +kernel
theorem dX9_goOn_1 : decode cX9_goOn 1 = .ok (.istore_n 2, 1) := by decide +kernel
theorem dX9_goOn_2 : decode cX9_goOn 2 = .ok (.iload_n 2, 1) := by decide +kernel
theorem dX9_goOn_3 : decode cX9_goOn 3 = .ok (.aload_n 1, 1) := by decide +kernel
theorem dX9_goOn_4 : decode cX9_goOn 4 = .ok (.getfield 22, 3) := by decide +kernel
theorem dX9_goOn_7 : decode cX9_goOn 7 = .ok (.if_icmp .ge 76, 3) := by decide +kernel
theorem dX9_goOn_10 : decode cX9_goOn 10 = .ok (.aload_n 1, 1) := by decide +kernel
theorem dX9_goOn_11 : decode cX9_goOn 11 = .ok (.iload_n 2, 1) := by decide +kernel
theorem dX9_goOn_12 : decode cX9_goOn 12 = .ok (.invokevirtual 28, 3) := by decide +kernel
theorem dX9_goOn_15 : decode cX9_goOn 15 = .ok (.istore_n 3, 1) := by decide +kernel
theorem dX9_goOn_16 : decode cX9_goOn 16 = .ok (.lconst 0, 1) := by decide +kernel
theorem dX9_goOn_17 : decode cX9_goOn 17 = .ok (.lstore 4, 2) := by decide +kernel
theorem dX9_goOn_19 : decode cX9_goOn 19 = .ok (.iconst 0, 1) := by decide +kernel
theorem dX9_goOn_20 : decode cX9_goOn 20 = .ok (.istore 6, 2) := by decide +kernel
theorem dX9_goOn_22 : decode cX9_goOn 22 = .ok (.iload 6, 2) := by decide +kernel
theorem dX9_goOn_24 : decode cX9_goOn 24 = .ok (.bipush 8, 2) := by decide +kernel
theorem dX9_goOn_26 : decode cX9_goOn 26 = .ok (.if_icmp .ge 51, 3) := by decide +kernel
theorem dX9_goOn_29 : decode cX9_goOn 29 = .ok (.lload 4, 2) := by decide +kernel
theorem dX9_goOn_31 : decode cX9_goOn 31 = .ok (.aload_n 0, 1) := by decide +kernel
theorem dX9_goOn_32 : decode cX9_goOn 32 = .ok (.aload_n 1, 1) := by decide +kernel
theorem dX9_goOn_33 : decode cX9_goOn 33 = .ok (.getfield 22, 3) := by decide +kernel
theorem dX9_goOn_36 : decode cX9_goOn 36 = .ok (.iload_n 3, 1) := by decide +kernel
theorem dX9_goOn_37 : decode cX9_goOn 37 = .ok (.iload 6, 2) := by decide +kernel
theorem dX9_goOn_39 : decode cX9_goOn 39 = .ok (.invokevirtual 32, 3) := by decide +kernel
theorem dX9_goOn_42 : decode cX9_goOn 42 = .ok (.ladd, 1) := by decide +kernel
theorem dX9_goOn_43 : decode cX9_goOn 43 = .ok (.lstore 7, 2) := by decide +kernel
theorem dX9_goOn_45 : decode cX9_goOn 45 = .ok (.aload_n 0, 1) := by decide +kernel
theorem dX9_goOn_46 : decode cX9_goOn 46 = .ok (.getfield 11, 3) := by decide +kernel
theorem dX9_goOn_49 : decode cX9_goOn 49 = .ok (.iload_n 2, 1) := by decide +kernel
theorem dX9_goOn_50 : decode cX9_goOn 50 = .ok (.bipush 8, 2) := by decide +kernel
theorem dX9_goOn_52 : decode cX9_goOn 52 = .ok (.imul, 1) := by decide +kernel
theorem dX9_goOn_53 : decode cX9_goOn 53 = .ok (.iload 6, 2) := by decide +kernel
theorem dX9_goOn_55 : decode cX9_goOn 55 = .ok (.iadd, 1) := by decide +kernel
theorem dX9_goOn_56 : decode cX9_goOn 56 = .ok (.lload 7, 2) := by decide +kernel
theorem dX9_goOn_58 : decode cX9_goOn 58 = .ok (.ldc2_w 36, 3) := by decide +kernel
theorem dX9_goOn_61 : decode cX9_goOn 61 = .ok (.lrem, 1) := by decide +kernel
theorem dX9_goOn_62 : decode cX9_goOn 62 = .ok (.lastore, 1) := by decide +kernel
theorem dX9_goOn_63 : decode cX9_goOn 63 = .ok (.lload 7, 2) := by decide +kernel
theorem dX9_goOn_65 : decode cX9_goOn 65 = .ok (.ldc2_w 36, 3) := by decide +kernel
theorem dX9_goOn_68 : decode cX9_goOn 68 = .ok (.ldiv, 1) := by decide +kernel
theorem dX9_goOn_69 : decode cX9_goOn 69 = .ok (.lstore 4, 2) := by decide +kernel
theorem dX9_goOn_71 : decode cX9_goOn 71 = .ok (.iinc 6 1, 3) := by decide +kernel
theorem dX9_goOn_74 : decode cX9_goOn 74 = .ok (.goto (-52), 3) := by decide +kernel
theorem dX9_goOn_77 : decode cX9_goOn 77 = .ok (.iinc 2 1, 3) := by decide +kernel
theorem dX9_goOn_80 : decode cX9_goOn 80 = .ok (.goto (-78), 3) := by decide +kernel
theorem dX9_goOn_83 : decode cX9_goOn 83 = .ok (.return_, 1) := by decide +kernel
theorem dX9_sumOf_0 : decode cX9_sumOf 0 = .ok (.lconst 0, 1) := by decide +kernel
theorem dX9_sumOf_1 : decode cX9_sumOf 1 = .ok (.lstore 4, 2) := by decide +kernel
theorem dX9_sumOf_3 : decode cX9_sumOf 3 = .ok (.iconst 0, 1) := by decide +kernel
theorem dX9_sumOf_4 : decode cX9_sumOf 4 = .ok (.istore 6, 2) := by decide +kernel
theorem dX9_sumOf_6 : decode cX9_sumOf 6 = .ok (.iload 6, 2) := by decide +kernel
theorem dX9_sumOf_8 : decode cX9_sumOf 8 = .ok (.iload_n 1, 1) := by decide +kernel
theorem dX9_sumOf_9 : decode cX9_sumOf 9 = .ok (.if_icmp .ge 36, 3) := by decide +kernel
theorem dX9_sumOf_12 : decode cX9_sumOf 12 = .ok (.iload_n 2, 1) := by decide +kernel
theorem dX9_sumOf_13 : decode cX9_sumOf 13 = .ok (.iload 6, 2) := by decide +kernel
theorem dX9_sumOf_15 : decode cX9_sumOf 15 = .ok (.ishr, 1) := by decide +kernel
theorem dX9_sumOf_16 : decode cX9_sumOf 16 = .ok (.iconst 1, 1) := by decide +kernel
theorem dX9_sumOf_17 : decode cX9_sumOf 17 = .ok (.iand, 1) := by decide +kernel
theorem dX9_sumOf_18 : decode cX9_sumOf 18 = .ok (.iconst 1, 1) := by decide +kernel
theorem dX9_sumOf_19 : decode cX9_sumOf 19 = .ok (.if_icmp .ne 20, 3) := by decide +kernel
theorem dX9_sumOf_22 : decode cX9_sumOf 22 = .ok (.lload 4, 2) := by decide +kernel
theorem dX9_sumOf_24 : decode cX9_sumOf 24 = .ok (.aload_n 0, 1) := by decide +kernel
theorem dX9_sumOf_25 : decode cX9_sumOf 25 = .ok (.getfield 15, 3) := by decide +kernel
theorem dX9_sumOf_28 : decode cX9_sumOf 28 = .ok (.iload 6, 2) := by decide +kernel
theorem dX9_sumOf_30 : decode cX9_sumOf 30 = .ok (.bipush 8, 2) := by decide +kernel
theorem dX9_sumOf_32 : decode cX9_sumOf 32 = .ok (.imul, 1) := by decide +kernel
theorem dX9_sumOf_33 : decode cX9_sumOf 33 = .ok (.iload_n 3, 1) := by decide +kernel
theorem dX9_sumOf_34 : decode cX9_sumOf 34 = .ok (.iadd, 1) := by decide +kernel
theorem dX9_sumOf_35 : decode cX9_sumOf 35 = .ok (.laload, 1) := by decide +kernel
theorem dX9_sumOf_36 : decode cX9_sumOf 36 = .ok (.ladd, 1) := by decide +kernel
theorem dX9_sumOf_37 : decode cX9_sumOf 37 = .ok (.lstore 4, 2) := by decide +kernel
theorem dX9_sumOf_39 : decode cX9_sumOf 39 = .ok (.iinc 6 1, 3) := by decide +kernel
theorem dX9_sumOf_42 : decode cX9_sumOf 42 = .ok (.goto (-36), 3) := by decide +kernel
theorem dX9_sumOf_45 : decode cX9_sumOf 45 = .ok (.lload 4, 2) := by decide +kernel
theorem dX9_sumOf_47 : decode cX9_sumOf 47 = .ok (.lreturn, 1) := by decide +kernel
theorem dX9_partsOf_0 : decode cX9_partsOf 0 = .ok (.iconst 1, 1) := by decide +kernel
theorem dX9_partsOf_1 : decode cX9_partsOf 1 = .ok (.istore_n 2, 1) := by decide +kernel
theorem dX9_partsOf_2 : decode cX9_partsOf 2 = .ok (.iconst 1, 1) := by decide +kernel
theorem dX9_partsOf_3 : decode cX9_partsOf 3 = .ok (.istore_n 3, 1) := by decide +kernel
theorem dX9_partsOf_4 : decode cX9_partsOf 4 = .ok (.iload_n 3, 1) := by decide +kernel
theorem dX9_partsOf_5 : decode cX9_partsOf 5 = .ok (.bipush 8, 2) := by decide +kernel
theorem dX9_partsOf_7 : decode cX9_partsOf 7 = .ok (.if_icmp .ge 29, 3) := by decide +kernel
theorem dX9_partsOf_10 : decode cX9_partsOf 10 = .ok (.aload_n 0, 1) := by decide +kernel
theorem dX9_partsOf_11 : decode cX9_partsOf 11 = .ok (.getfield 11, 3) := by decide +kernel
theorem dX9_partsOf_14 : decode cX9_partsOf 14 = .ok (.iload_n 1, 1) := by decide +kernel
theorem dX9_partsOf_15 : decode cX9_partsOf 15 = .ok (.bipush 8, 2) := by decide +kernel
theorem dX9_partsOf_17 : decode cX9_partsOf 17 = .ok (.imul, 1) := by decide +kernel
theorem dX9_partsOf_18 : decode cX9_partsOf 18 = .ok (.iload_n 3, 1) := by decide +kernel
theorem dX9_partsOf_19 : decode cX9_partsOf 19 = .ok (.iadd, 1) := by decide +kernel
theorem dX9_partsOf_20 : decode cX9_partsOf 20 = .ok (.laload, 1) := by decide +kernel
theorem dX9_partsOf_21 : decode cX9_partsOf 21 = .ok (.lconst 0, 1) := by decide +kernel
theorem dX9_partsOf_22 : decode cX9_partsOf 22 = .ok (.lcmp, 1) := by decide +kernel
theorem dX9_partsOf_23 : decode cX9_partsOf 23 = .ok (.ifCond .eq 7, 3) := by decide +kernel
theorem dX9_partsOf_26 : decode cX9_partsOf 26 = .ok (.iload_n 3, 1) := by decide +kernel
theorem dX9_partsOf_27 : decode cX9_partsOf 27 = .ok (.iconst 1, 1) := by decide +kernel
theorem dX9_partsOf_28 : decode cX9_partsOf 28 = .ok (.iadd, 1) := by decide +kernel
theorem dX9_partsOf_29 : decode cX9_partsOf 29 = .ok (.istore_n 2, 1) := by decide +kernel
theorem dX9_partsOf_30 : decode cX9_partsOf 30 = .ok (.iinc 3 1, 3) := by decide +kernel
theorem dX9_partsOf_33 : decode cX9_partsOf 33 = .ok (.goto (-29), 3) := by decide +kernel
theorem dX9_partsOf_36 : decode cX9_partsOf 36 = .ok (.iload_n 2, 1) := by decide +kernel
theorem dX9_partsOf_37 : decode cX9_partsOf 37 = .ok (.ireturn, 1) := by decide +kernel
theorem dX9_partOf_0 : decode cX9_partOf 0 = .ok (.aload_n 0, 1) := by decide +kernel
theorem dX9_partOf_1 : decode cX9_partOf 1 = .ok (.getfield 11, 3) := by decide +kernel
theorem dX9_partOf_4 : decode cX9_partOf 4 = .ok (.iload_n 1, 1) := by decide +kernel
theorem dX9_partOf_5 : decode cX9_partOf 5 = .ok (.bipush 8, 2) := by decide +kernel
theorem dX9_partOf_7 : decode cX9_partOf 7 = .ok (.imul, 1) := by decide +kernel
theorem dX9_partOf_8 : decode cX9_partOf 8 = .ok (.iload_n 2, 1) := by decide +kernel
theorem dX9_partOf_9 : decode cX9_partOf 9 = .ok (.iadd, 1) := by decide +kernel
theorem dX9_partOf_10 : decode cX9_partOf 10 = .ok (.laload, 1) := by decide +kernel
theorem dX9_partOf_11 : decode cX9_partOf 11 = .ok (.l2i, 1) := by decide +kernel
theorem dX9_partOf_12 : decode cX9_partOf 12 = .ok (.ireturn, 1) := by decide +kernel
theorem dX10_init_0 : decode cX10_init 0 = .ok (.aload_n 0, 1) := by decide +kernel
theorem dX10_init_1 : decode cX10_init 1 = .ok (.invokespecial 1, 3) := by decide +kernel
theorem dX10_init_4 : decode cX10_init 4 = .ok (.aload_n 0, 1) := by decide +kernel
theorem dX10_init_5 : decode cX10_init 5 = .ok (.new 7, 3) := by decide +kernel
theorem dX10_init_8 : decode cX10_init 8 = .ok (.dup, 1) := by decide +kernel
theorem dX10_init_9 : decode cX10_init 9 = .ok (.bipush 6, 2) := by decide +kernel
theorem dX10_init_11 : decode cX10_init 11 = .ok (.invokespecial 11, 3) := by decide +kernel
theorem dX10_init_14 : decode cX10_init 14 = .ok (.putfield 14, 3) := by decide +kernel
theorem dX10_init_17 : decode cX10_init 17 = .ok (.aload_n 0, 1) := by decide +kernel
theorem dX10_init_18 : decode cX10_init 18 = .ok (.iconst 4, 1) := by decide +kernel
theorem dX10_init_19 : decode cX10_init 19 = .ok (.anewarray 7, 3) := by decide +kernel
theorem dX10_init_22 : decode cX10_init 22 = .ok (.putfield 18, 3) := by decide +kernel
theorem dX10_init_25 : decode cX10_init 25 = .ok (.aload_n 0, 1) := by decide +kernel
theorem dX10_init_26 : decode cX10_init 26 = .ok (.iconst 4, 1) := by decide +kernel
theorem dX10_init_27 : decode cX10_init 27 = .ok (.newarray .boolean, 2) := by decide +kernel
theorem dX10_init_29 : decode cX10_init 29 = .ok (.putfield 22, 3) := by decide +kernel
theorem dX10_init_32 : decode cX10_init 32 = .ok (.aload_n 0, 1) := by decide +kernel
theorem dX10_init_33 : decode cX10_init 33 = .ok (.bipush 6, 2) := by decide +kernel
theorem dX10_init_35 : decode cX10_init 35 = .ok (.newarray .int, 2) := by decide +kernel
theorem dX10_init_37 : decode cX10_init 37 = .ok (.putfield 26, 3) := by decide +kernel
theorem dX10_init_40 : decode cX10_init 40 = .ok (.aload_n 0, 1) := by decide +kernel
theorem dX10_init_41 : decode cX10_init 41 = .ok (.new 30, 3) := by decide +kernel
theorem dX10_init_44 : decode cX10_init 44 = .ok (.dup, 1) := by decide +kernel
theorem dX10_init_45 : decode cX10_init 45 = .ok (.new 32, 3) := by decide +kernel
theorem dX10_init_48 : decode cX10_init 48 = .ok (.dup, 1) := by decide +kernel
theorem dX10_init_49 : decode cX10_init 49 = .ok (.invokespecial 34, 3) := by decide +kernel
theorem dX10_init_52 : decode cX10_init 52 = .ok (.invokespecial 35, 3) := by decide +kernel
theorem dX10_init_55 : decode cX10_init 55 = .ok (.putfield 38, 3) := by decide +kernel
theorem dX10_init_58 : decode cX10_init 58 = .ok (.aload_n 0, 1) := by decide +kernel
theorem dX10_init_59 : decode cX10_init 59 = .ok (.new 42, 3) := by decide +kernel
theorem dX10_init_62 : decode cX10_init 62 = .ok (.dup, 1) := by decide +kernel
theorem dX10_init_63 : decode cX10_init 63 = .ok (.invokespecial 44, 3) := by decide +kernel
theorem dX10_init_66 : decode cX10_init 66 = .ok (.putfield 45, 3) := by decide +kernel
theorem dX10_init_69 : decode cX10_init 69 = .ok (.aload_n 0, 1) := by decide +kernel
theorem dX10_init_70 : decode cX10_init 70 = .ok (.new 49, 3) := by decide +kernel
theorem dX10_init_73 : decode cX10_init 73 = .ok (.dup, 1) := by decide +kernel
theorem dX10_init_74 : decode cX10_init 74 = .ok (.invokespecial 51, 3) := by decide +kernel
theorem dX10_init_77 : decode cX10_init 77 = .ok (.putfield 52, 3) := by decide +kernel
theorem dX10_init_80 : decode cX10_init 80 = .ok (.aload_n 0, 1) := by decide +kernel
theorem dX10_init_81 : decode cX10_init 81 = .ok (.new 56, 3) := by decide +kernel
theorem dX10_init_84 : decode cX10_init 84 = .ok (.dup, 1) := by decide +kernel
theorem dX10_init_85 : decode cX10_init 85 = .ok (.invokespecial 58, 3) := by decide +kernel
theorem dX10_init_88 : decode cX10_init 88 = .ok (.putfield 59, 3) := by decide +kernel
theorem dX10_init_91 : decode cX10_init 91 = .ok (.aload_n 0, 1) := by decide +kernel
theorem dX10_init_92 : decode cX10_init 92 = .ok (.new 63, 3) := by decide +kernel
theorem dX10_init_95 : decode cX10_init 95 = .ok (.dup, 1) := by decide +kernel
theorem dX10_init_96 : decode cX10_init 96 = .ok (.invokespecial 65, 3) := by decide +kernel
theorem dX10_init_99 : decode cX10_init 99 = .ok (.putfield 66, 3) := by decide +kernel
theorem dX10_init_102 : decode cX10_init 102 = .ok (.iconst 0, 1) := by decide +kernel
theorem dX10_init_103 : decode cX10_init 103 = .ok (.istore_n 1, 1) := by decide +kernel
theorem dX10_init_104 : decode cX10_init 104 = .ok (.iload_n 1, 1) := by decide +kernel
theorem dX10_init_105 : decode cX10_init 105 = .ok (.iconst 4, 1) := by decide +kernel
theorem dX10_init_106 : decode cX10_init 106 = .ok (.if_icmp .ge 24, 3) := by decide +kernel
theorem dX10_init_109 : decode cX10_init 109 = .ok (.aload_n 0, 1) := by decide +kernel
theorem dX10_init_110 : decode cX10_init 110 = .ok (.getfield 18, 3) := by decide +kernel
theorem dX10_init_113 : decode cX10_init 113 = .ok (.iload_n 1, 1) := by decide +kernel
theorem dX10_init_114 : decode cX10_init 114 = .ok (.new 7, 3) := by decide +kernel
theorem dX10_init_117 : decode cX10_init 117 = .ok (.dup, 1) := by decide +kernel
theorem dX10_init_118 : decode cX10_init 118 = .ok (.bipush 6, 2) := by decide +kernel
theorem dX10_init_120 : decode cX10_init 120 = .ok (.invokespecial 11, 3) := by decide +kernel
theorem dX10_init_123 : decode cX10_init 123 = .ok (.aastore, 1) := by decide +kernel
theorem dX10_init_124 : decode cX10_init 124 = .ok (.iinc 1 1, 3) := by decide +kernel
theorem dX10_init_127 : decode cX10_init 127 = .ok (.goto (-23), 3) := by decide +kernel
theorem dX10_init_130 : decode cX10_init 130 = .ok (.return_, 1) := by decide +kernel
theorem dX10_posts_0 : decode cX10_posts 0 = .ok (.iload_n 1, 1) := by decide +kernel
theorem dX10_posts_1 : decode cX10_posts 1 = .ok (.iconst 3, 1) := by decide +kernel
theorem dX10_posts_2 : decode cX10_posts 2 = .ok (.if_icmp .ge 10, 3) := by decide +kernel
theorem dX10_posts_5 : decode cX10_posts 5 = .ok (.aload_n 0, 1) := by decide +kernel
theorem dX10_posts_6 : decode cX10_posts 6 = .ok (.bipush (-4), 2) := by decide +kernel
theorem dX10_posts_8 : decode cX10_posts 8 = .ok (.invokevirtual 70, 3) := by decide +kernel
theorem dX10_posts_11 : decode cX10_posts 11 = .ok (.ireturn, 1) := by decide +kernel
theorem dX10_posts_12 : decode cX10_posts 12 = .ok (.iload_n 1, 1) := by decide +kernel
theorem dX10_posts_13 : decode cX10_posts 13 = .ok (.bipush 16, 2) := by decide +kernel
theorem dX10_posts_15 : decode cX10_posts 15 = .ok (.if_icmp .le 10, 3) := by decide +kernel
theorem dX10_posts_18 : decode cX10_posts 18 = .ok (.aload_n 0, 1) := by decide +kernel
theorem dX10_posts_19 : decode cX10_posts 19 = .ok (.bipush (-6), 2) := by decide +kernel
theorem dX10_posts_21 : decode cX10_posts 21 = .ok (.invokevirtual 70, 3) := by decide +kernel
theorem dX10_posts_24 : decode cX10_posts 24 = .ok (.ireturn, 1) := by decide +kernel
theorem dX10_posts_25 : decode cX10_posts 25 = .ok (.aload_n 0, 1) := by decide +kernel
theorem dX10_posts_26 : decode cX10_posts 26 = .ok (.getfield 14, 3) := by decide +kernel
theorem dX10_posts_29 : decode cX10_posts 29 = .ok (.getfield 74, 3) := by decide +kernel
theorem dX10_posts_32 : decode cX10_posts 32 = .ok (.istore_n 2, 1) := by decide +kernel
theorem dX10_posts_33 : decode cX10_posts 33 = .ok (.aload_n 0, 1) := by decide +kernel
theorem dX10_posts_34 : decode cX10_posts 34 = .ok (.getfield 14, 3) := by decide +kernel
theorem dX10_posts_37 : decode cX10_posts 37 = .ok (.iload_n 1, 1) := by decide +kernel
theorem dX10_posts_38 : decode cX10_posts 38 = .ok (.invokevirtual 78, 3) := by decide +kernel
theorem dX10_posts_41 : decode cX10_posts 41 = .ok (.iload_n 2, 1) := by decide +kernel
theorem dX10_posts_42 : decode cX10_posts 42 = .ok (.ireturn, 1) := by decide +kernel
theorem dX10_link_0 : decode cX10_link 0 = .ok (.aload_n 0, 1) := by decide +kernel
theorem dX10_link_1 : decode cX10_link 1 = .ok (.iload_n 1, 1) := by decide +kernel
theorem dX10_link_2 : decode cX10_link 2 = .ok (.iload_n 2, 1) := by decide +kernel
theorem dX10_link_3 : decode cX10_link 3 = .ok (.invokevirtual 81, 3) := by decide +kernel
theorem dX10_link_6 : decode cX10_link 6 = .ok (.ifCond .ne 9, 3) := by decide +kernel
theorem dX10_link_9 : decode cX10_link 9 = .ok (.aload_n 0, 1) := by decide +kernel
theorem dX10_link_10 : decode cX10_link 10 = .ok (.iconst (-1), 1) := by decide +kernel
theorem dX10_link_11 : decode cX10_link 11 = .ok (.invokevirtual 70, 3) := by decide +kernel
theorem dX10_link_14 : decode cX10_link 14 = .ok (.ireturn, 1) := by decide +kernel
theorem dX10_link_15 : decode cX10_link 15 = .ok (.iload_n 3, 1) := by decide +kernel
theorem dX10_link_16 : decode cX10_link 16 = .ok (.ifCond .lt 8, 3) := by decide +kernel
theorem dX10_link_19 : decode cX10_link 19 = .ok (.iload 4, 2) := by decide +kernel
theorem dX10_link_21 : decode cX10_link 21 = .ok (.ifCond .ge 10, 3) := by decide +kernel
theorem dX10_link_24 : decode cX10_link 24 = .ok (.aload_n 0, 1) := by decide +kernel
theorem dX10_link_25 : decode cX10_link 25 = .ok (.bipush (-4), 2) := by decide +kernel
theorem dX10_link_27 : decode cX10_link 27 = .ok (.invokevirtual 70, 3) := by decide +kernel
theorem dX10_link_30 : decode cX10_link 30 = .ok (.ireturn, 1) := by decide +kernel
theorem dX10_link_31 : decode cX10_link 31 = .ok (.iload_n 3, 1) := by decide +kernel
theorem dX10_link_32 : decode cX10_link 32 = .ok (.iconst 1, 1) := by decide +kernel
theorem dX10_link_33 : decode cX10_link 33 = .ok (.if_icmp .gt 11, 3) := by decide +kernel
theorem dX10_link_36 : decode cX10_link 36 = .ok (.iload 4, 2) := by decide +kernel
theorem dX10_link_38 : decode cX10_link 38 = .ok (.sipush 1000, 3) := by decide +kernel
theorem dX10_link_41 : decode cX10_link 41 = .ok (.if_icmp .le 10, 3) := by decide +kernel
theorem dX10_link_44 : decode cX10_link 44 = .ok (.aload_n 0, 1) := by decide +kernel
theorem dX10_link_45 : decode cX10_link 45 = .ok (.bipush (-6), 2) := by decide +kernel
theorem dX10_link_47 : decode cX10_link 47 = .ok (.invokevirtual 70, 3) := by decide +kernel
theorem dX10_link_50 : decode cX10_link 50 = .ok (.ireturn, 1) := by decide +kernel
theorem dX10_link_51 : decode cX10_link 51 = .ok (.aload_n 0, 1) := by decide +kernel
theorem dX10_link_52 : decode cX10_link 52 = .ok (.getfield 14, 3) := by decide +kernel
theorem dX10_link_55 : decode cX10_link 55 = .ok (.iload_n 1, 1) := by decide +kernel
theorem dX10_link_56 : decode cX10_link 56 = .ok (.iload_n 2, 1) := by decide +kernel
theorem dX10_link_57 : decode cX10_link 57 = .ok (.invokevirtual 85, 3) := by decide +kernel
theorem dX10_link_60 : decode cX10_link 60 = .ok (.ifCond .eq 7, 3) := by decide +kernel
theorem dX10_link_63 : decode cX10_link 63 = .ok (.iconst 0, 1) := by decide +kernel
theorem dX10_link_64 : decode cX10_link 64 = .ok (.goto 4, 3) := by decide +kernel
theorem dX10_link_67 : decode cX10_link 67 = .ok (.iconst 1, 1) := by decide +kernel
theorem dX10_link_68 : decode cX10_link 68 = .ok (.istore 5, 2) := by decide +kernel
theorem dX10_link_70 : decode cX10_link 70 = .ok (.aload_n 0, 1) := by decide +kernel
theorem dX10_link_71 : decode cX10_link 71 = .ok (.getfield 14, 3) := by decide +kernel
theorem dX10_link_74 : decode cX10_link 74 = .ok (.iload_n 1, 1) := by decide +kernel
theorem dX10_link_75 : decode cX10_link 75 = .ok (.iload_n 2, 1) := by decide +kernel
theorem dX10_link_76 : decode cX10_link 76 = .ok (.iload_n 3, 1) := by decide +kernel
theorem dX10_link_77 : decode cX10_link 77 = .ok (.iload 4, 2) := by decide +kernel
theorem dX10_link_79 : decode cX10_link 79 = .ok (.invokevirtual 88, 3) := by decide +kernel
theorem dX10_link_82 : decode cX10_link 82 = .ok (.iload 5, 2) := by decide +kernel
theorem dX10_link_84 : decode cX10_link 84 = .ok (.ireturn, 1) := by decide +kernel
theorem dX10_cut_0 : decode cX10_cut 0 = .ok (.aload_n 0, 1) := by decide +kernel
theorem dX10_cut_1 : decode cX10_cut 1 = .ok (.iload_n 1, 1) := by decide +kernel
theorem dX10_cut_2 : decode cX10_cut 2 = .ok (.iload_n 2, 1) := by decide +kernel
theorem dX10_cut_3 : decode cX10_cut 3 = .ok (.invokevirtual 81, 3) := by decide +kernel
theorem dX10_cut_6 : decode cX10_cut 6 = .ok (.ifCond .ne 9, 3) := by decide +kernel
theorem dX10_cut_9 : decode cX10_cut 9 = .ok (.aload_n 0, 1) := by decide +kernel
theorem dX10_cut_10 : decode cX10_cut 10 = .ok (.iconst (-1), 1) := by decide +kernel
theorem dX10_cut_11 : decode cX10_cut 11 = .ok (.invokevirtual 70, 3) := by decide +kernel
theorem dX10_cut_14 : decode cX10_cut 14 = .ok (.ireturn, 1) := by decide +kernel
theorem dX10_cut_15 : decode cX10_cut 15 = .ok (.aload_n 0, 1) := by decide +kernel
theorem dX10_cut_16 : decode cX10_cut 16 = .ok (.getfield 14, 3) := by decide +kernel
theorem dX10_cut_19 : decode cX10_cut 19 = .ok (.iload_n 1, 1) := by decide +kernel
theorem dX10_cut_20 : decode cX10_cut 20 = .ok (.iload_n 2, 1) := by decide +kernel
theorem dX10_cut_21 : decode cX10_cut 21 = .ok (.invokevirtual 85, 3) := by decide +kernel
theorem dX10_cut_24 : decode cX10_cut 24 = .ok (.ifCond .ne 10, 3) := by decide +kernel
theorem dX10_cut_27 : decode cX10_cut 27 = .ok (.aload_n 0, 1) := by decide +kernel
theorem dX10_cut_28 : decode cX10_cut 28 = .ok (.bipush (-3), 2) := by decide +kernel
theorem dX10_cut_30 : decode cX10_cut 30 = .ok (.invokevirtual 70, 3) := by decide +kernel
theorem dX10_cut_33 : decode cX10_cut 33 = .ok (.ireturn, 1) := by decide +kernel
theorem dX10_cut_34 : decode cX10_cut 34 = .ok (.aload_n 0, 1) := by decide +kernel
theorem dX10_cut_35 : decode cX10_cut 35 = .ok (.getfield 14, 3) := by decide +kernel
theorem dX10_cut_38 : decode cX10_cut 38 = .ok (.iload_n 1, 1) := by decide +kernel
theorem dX10_cut_39 : decode cX10_cut 39 = .ok (.iload_n 2, 1) := by decide +kernel
theorem dX10_cut_40 : decode cX10_cut 40 = .ok (.invokevirtual 92, 3) := by decide +kernel
theorem dX10_cut_43 : decode cX10_cut 43 = .ok (.iconst 1, 1) := by decide +kernel
theorem dX10_cut_44 : decode cX10_cut 44 = .ok (.ireturn, 1) := by decide +kernel
theorem dX10_linkOf_0 : decode cX10_linkOf 0 = .ok (.aload_n 0, 1) := by decide +kernel
theorem dX10_linkOf_1 : decode cX10_linkOf 1 = .ok (.iload_n 1, 1) := by decide +kernel
theorem dX10_linkOf_2 : decode cX10_linkOf 2 = .ok (.iload_n 2, 1) := by decide +kernel
theorem dX10_linkOf_3 : decode cX10_linkOf 3 = .ok (.invokevirtual 81, 3) := by decide +kernel
theorem dX10_linkOf_6 : decode cX10_linkOf 6 = .ok (.ifCond .ne 9, 3) := by decide +kernel
theorem dX10_linkOf_9 : decode cX10_linkOf 9 = .ok (.aload_n 0, 1) := by decide +kernel
theorem dX10_linkOf_10 : decode cX10_linkOf 10 = .ok (.iconst (-1), 1) := by decide +kernel
theorem dX10_linkOf_11 : decode cX10_linkOf 11 = .ok (.invokevirtual 70, 3) := by decide +kernel
theorem dX10_linkOf_14 : decode cX10_linkOf 14 = .ok (.ireturn, 1) := by decide +kernel
theorem dX10_linkOf_15 : decode cX10_linkOf 15 = .ok (.iload_n 3, 1) := by decide +kernel
theorem dX10_linkOf_16 : decode cX10_linkOf 16 = .ok (.tableswitch 58 0 2 #[28, 38, 48], 28) := by decide +kernel
theorem dX10_linkOf_44 : decode cX10_linkOf 44 = .ok (.aload_n 0, 1) := by decide +kernel
theorem dX10_linkOf_45 : decode cX10_linkOf 45 = .ok (.getfield 14, 3) := by decide +kernel
theorem dX10_linkOf_48 : decode cX10_linkOf 48 = .ok (.iload_n 1, 1) := by decide +kernel
theorem dX10_linkOf_49 : decode cX10_linkOf 49 = .ok (.iload_n 2, 1) := by decide +kernel
theorem dX10_linkOf_50 : decode cX10_linkOf 50 = .ok (.invokevirtual 96, 3) := by decide +kernel
theorem dX10_linkOf_53 : decode cX10_linkOf 53 = .ok (.ireturn, 1) := by decide +kernel
theorem dX10_linkOf_54 : decode cX10_linkOf 54 = .ok (.aload_n 0, 1) := by decide +kernel
theorem dX10_linkOf_55 : decode cX10_linkOf 55 = .ok (.getfield 14, 3) := by decide +kernel
theorem dX10_linkOf_58 : decode cX10_linkOf 58 = .ok (.iload_n 1, 1) := by decide +kernel
theorem dX10_linkOf_59 : decode cX10_linkOf 59 = .ok (.iload_n 2, 1) := by decide +kernel
theorem dX10_linkOf_60 : decode cX10_linkOf 60 = .ok (.invokevirtual 100, 3) := by decide +kernel
theorem dX10_linkOf_63 : decode cX10_linkOf 63 = .ok (.ireturn, 1) := by decide +kernel
theorem dX10_linkOf_64 : decode cX10_linkOf 64 = .ok (.aload_n 0, 1) := by decide +kernel
theorem dX10_linkOf_65 : decode cX10_linkOf 65 = .ok (.getfield 14, 3) := by decide +kernel
theorem dX10_linkOf_68 : decode cX10_linkOf 68 = .ok (.iload_n 1, 1) := by decide +kernel
theorem dX10_linkOf_69 : decode cX10_linkOf 69 = .ok (.iload_n 2, 1) := by decide +kernel
theorem dX10_linkOf_70 : decode cX10_linkOf 70 = .ok (.invokevirtual 103, 3) := by decide +kernel
theorem dX10_linkOf_73 : decode cX10_linkOf 73 = .ok (.ireturn, 1) := by decide +kernel
theorem dX10_linkOf_74 : decode cX10_linkOf 74 = .ok (.aload_n 0, 1) := by decide +kernel
theorem dX10_linkOf_75 : decode cX10_linkOf 75 = .ok (.bipush (-2), 2) := by decide +kernel
theorem dX10_linkOf_77 : decode cX10_linkOf 77 = .ok (.invokevirtual 70, 3) := by decide +kernel
theorem dX10_linkOf_80 : decode cX10_linkOf 80 = .ok (.ireturn, 1) := by decide +kernel
theorem dX10_at_0 : decode cX10_at 0 = .ok (.aload_n 0, 1) := by decide +kernel
theorem dX10_at_1 : decode cX10_at 1 = .ok (.iload_n 1, 1) := by decide +kernel
theorem dX10_at_2 : decode cX10_at 2 = .ok (.invokevirtual 106, 3) := by decide +kernel
theorem dX10_at_5 : decode cX10_at 5 = .ok (.ifCond .ne 9, 3) := by decide +kernel
theorem dX10_at_8 : decode cX10_at 8 = .ok (.aload_n 0, 1) := by decide +kernel
theorem dX10_at_9 : decode cX10_at 9 = .ok (.iconst (-1), 1) := by decide +kernel
theorem dX10_at_10 : decode cX10_at 10 = .ok (.invokevirtual 70, 3) := by decide +kernel
theorem dX10_at_13 : decode cX10_at 13 = .ok (.ireturn, 1) := by decide +kernel
theorem dX10_at_14 : decode cX10_at 14 = .ok (.iload_n 2, 1) := by decide +kernel
theorem dX10_at_15 : decode cX10_at 15 = .ok (.ifCond .eq 15, 3) := by decide +kernel
theorem dX10_at_18 : decode cX10_at 18 = .ok (.iload_n 2, 1) := by decide +kernel
theorem dX10_at_19 : decode cX10_at 19 = .ok (.iconst 1, 1) := by decide +kernel
theorem dX10_at_20 : decode cX10_at 20 = .ok (.if_icmp .eq 10, 3) := by decide +kernel
theorem dX10_at_23 : decode cX10_at 23 = .ok (.aload_n 0, 1) := by decide +kernel
theorem dX10_at_24 : decode cX10_at 24 = .ok (.bipush (-2), 2) := by decide +kernel
theorem dX10_at_26 : decode cX10_at 26 = .ok (.invokevirtual 70, 3) := by decide +kernel
theorem dX10_at_29 : decode cX10_at 29 = .ok (.ireturn, 1) := by decide +kernel
theorem dX10_at_30 : decode cX10_at 30 = .ok (.aload_n 0, 1) := by decide +kernel
theorem dX10_at_31 : decode cX10_at 31 = .ok (.getfield 14, 3) := by decide +kernel
theorem dX10_at_34 : decode cX10_at 34 = .ok (.iload_n 1, 1) := by decide +kernel
theorem dX10_at_35 : decode cX10_at 35 = .ok (.invokevirtual 110, 3) := by decide +kernel
theorem dX10_at_38 : decode cX10_at 38 = .ok (.istore_n 3, 1) := by decide +kernel
theorem dX10_at_39 : decode cX10_at 39 = .ok (.iload_n 2, 1) := by decide +kernel
theorem dX10_at_40 : decode cX10_at 40 = .ok (.ifCond .ne 10, 3) := by decide +kernel
theorem dX10_at_43 : decode cX10_at 43 = .ok (.iload_n 3, 1) := by decide +kernel
theorem dX10_at_44 : decode cX10_at 44 = .ok (.invokestatic 113, 3) := by decide +kernel
theorem dX10_at_47 : decode cX10_at 47 = .ok (.goto 7, 3) := by decide +kernel
theorem dX10_at_50 : decode cX10_at 50 = .ok (.iload_n 3, 1) := by decide +kernel
theorem dX10_at_51 : decode cX10_at 51 = .ok (.invokestatic 116, 3) := by decide +kernel
theorem dX10_at_54 : decode cX10_at 54 = .ok (.ireturn, 1) := by decide +kernel
theorem dX10_shape_0 : decode cX10_shape 0 = .ok (.aload_n 0, 1) := by decide +kernel
theorem dX10_shape_1 : decode cX10_shape 1 = .ok (.iload_n 1, 1) := by decide +kernel
theorem dX10_shape_2 : decode cX10_shape 2 = .ok (.iload_n 2, 1) := by decide +kernel
theorem dX10_shape_3 : decode cX10_shape 3 = .ok (.iload_n 3, 1) := by decide +kernel
theorem dX10_shape_4 : decode cX10_shape 4 = .ok (.invokevirtual 119, 3) := by decide +kernel
theorem dX10_shape_7 : decode cX10_shape 7 = .ok (.ifCond .ne 9, 3) := by decide +kernel
theorem dX10_shape_10 : decode cX10_shape 10 = .ok (.aload_n 0, 1) := by decide +kernel
theorem dX10_shape_11 : decode cX10_shape 11 = .ok (.iconst (-1), 1) := by decide +kernel
theorem dX10_shape_12 : decode cX10_shape 12 = .ok (.invokevirtual 70, 3) := by decide +kernel
theorem dX10_shape_15 : decode cX10_shape 15 = .ok (.ireturn, 1) := by decide +kernel
theorem dX10_shape_16 : decode cX10_shape 16 = .ok (.aload_n 0, 1) := by decide +kernel
theorem dX10_shape_17 : decode cX10_shape 17 = .ok (.getfield 38, 3) := by decide +kernel
theorem dX10_shape_20 : decode cX10_shape 20 = .ok (.getfield 123, 3) := by decide +kernel
theorem dX10_shape_23 : decode cX10_shape 23 = .ok (.getfield 127, 3) := by decide +kernel
theorem dX10_shape_26 : decode cX10_shape 26 = .ok (.aload_n 0, 1) := by decide +kernel
theorem dX10_shape_27 : decode cX10_shape 27 = .ok (.getfield 14, 3) := by decide +kernel
theorem dX10_shape_30 : decode cX10_shape 30 = .ok (.iload_n 1, 1) := by decide +kernel
theorem dX10_shape_31 : decode cX10_shape 31 = .ok (.iload_n 2, 1) := by decide +kernel
theorem dX10_shape_32 : decode cX10_shape 32 = .ok (.iload_n 3, 1) := by decide +kernel
theorem dX10_shape_33 : decode cX10_shape 33 = .ok (.invokevirtual 130, 3) := by decide +kernel
theorem dX10_shape_36 : decode cX10_shape 36 = .ok (.iaload, 1) := by decide +kernel
theorem dX10_shape_37 : decode cX10_shape 37 = .ok (.ireturn, 1) := by decide +kernel
theorem dX10_shapeOf_0 : decode cX10_shapeOf 0 = .ok (.iload_n 1, 1) := by decide +kernel
theorem dX10_shapeOf_1 : decode cX10_shapeOf 1 = .ok (.invokestatic 134, 3) := by decide +kernel
theorem dX10_shapeOf_4 : decode cX10_shapeOf 4 = .ok (.ifCond .ne 9, 3) := by decide +kernel
theorem dX10_shapeOf_7 : decode cX10_shapeOf 7 = .ok (.aload_n 0, 1) := by decide +kernel
theorem dX10_shapeOf_8 : decode cX10_shapeOf 8 = .ok (.iconst (-1), 1) := by decide +kernel
theorem dX10_shapeOf_9 : decode cX10_shapeOf 9 = .ok (.invokevirtual 70, 3) := by decide +kernel
theorem dX10_shapeOf_12 : decode cX10_shapeOf 12 = .ok (.ireturn, 1) := by decide +kernel
theorem dX10_shapeOf_13 : decode cX10_shapeOf 13 = .ok (.iload_n 2, 1) := by decide +kernel
theorem dX10_shapeOf_14 : decode cX10_shapeOf 14 = .ok (.tableswitch 81 0 3 #[30, 43, 56, 68], 30) := by decide +kernel
theorem dX10_shapeOf_44 : decode cX10_shapeOf 44 = .ok (.aload_n 0, 1) := by decide +kernel
theorem dX10_shapeOf_45 : decode cX10_shapeOf 45 = .ok (.getfield 38, 3) := by decide +kernel
theorem dX10_shapeOf_48 : decode cX10_shapeOf 48 = .ok (.getfield 123, 3) := by decide +kernel
theorem dX10_shapeOf_51 : decode cX10_shapeOf 51 = .ok (.getfield 137, 3) := by decide +kernel
theorem dX10_shapeOf_54 : decode cX10_shapeOf 54 = .ok (.iload_n 1, 1) := by decide +kernel
theorem dX10_shapeOf_55 : decode cX10_shapeOf 55 = .ok (.iaload, 1) := by decide +kernel
theorem dX10_shapeOf_56 : decode cX10_shapeOf 56 = .ok (.ireturn, 1) := by decide +kernel
theorem dX10_shapeOf_57 : decode cX10_shapeOf 57 = .ok (.aload_n 0, 1) := by decide +kernel
theorem dX10_shapeOf_58 : decode cX10_shapeOf 58 = .ok (.getfield 38, 3) := by decide +kernel
theorem dX10_shapeOf_61 : decode cX10_shapeOf 61 = .ok (.getfield 123, 3) := by decide +kernel
theorem dX10_shapeOf_64 : decode cX10_shapeOf 64 = .ok (.getfield 140, 3) := by decide +kernel
theorem dX10_shapeOf_67 : decode cX10_shapeOf 67 = .ok (.iload_n 1, 1) := by decide +kernel
theorem dX10_shapeOf_68 : decode cX10_shapeOf 68 = .ok (.iaload, 1) := by decide +kernel
theorem dX10_shapeOf_69 : decode cX10_shapeOf 69 = .ok (.ireturn, 1) := by decide +kernel
theorem dX10_shapeOf_70 : decode cX10_shapeOf 70 = .ok (.aload_n 0, 1) := by decide +kernel
theorem dX10_shapeOf_71 : decode cX10_shapeOf 71 = .ok (.getfield 38, 3) := by decide +kernel
theorem dX10_shapeOf_74 : decode cX10_shapeOf 74 = .ok (.getfield 123, 3) := by decide +kernel
theorem dX10_shapeOf_77 : decode cX10_shapeOf 77 = .ok (.iload_n 1, 1) := by decide +kernel
theorem dX10_shapeOf_78 : decode cX10_shapeOf 78 = .ok (.invokevirtual 143, 3) := by decide +kernel
theorem dX10_shapeOf_81 : decode cX10_shapeOf 81 = .ok (.ireturn, 1) := by decide +kernel
theorem dX10_shapeOf_82 : decode cX10_shapeOf 82 = .ok (.aload_n 0, 1) := by decide +kernel
theorem dX10_shapeOf_83 : decode cX10_shapeOf 83 = .ok (.getfield 38, 3) := by decide +kernel
theorem dX10_shapeOf_86 : decode cX10_shapeOf 86 = .ok (.getfield 123, 3) := by decide +kernel
theorem dX10_shapeOf_89 : decode cX10_shapeOf 89 = .ok (.getfield 146, 3) := by decide +kernel
theorem dX10_shapeOf_92 : decode cX10_shapeOf 92 = .ok (.iload_n 1, 1) := by decide +kernel
theorem dX10_shapeOf_93 : decode cX10_shapeOf 93 = .ok (.iaload, 1) := by decide +kernel
theorem dX10_shapeOf_94 : decode cX10_shapeOf 94 = .ok (.ireturn, 1) := by decide +kernel
theorem dX10_shapeOf_95 : decode cX10_shapeOf 95 = .ok (.aload_n 0, 1) := by decide +kernel
theorem dX10_shapeOf_96 : decode cX10_shapeOf 96 = .ok (.bipush (-2), 2) := by decide +kernel
theorem dX10_shapeOf_98 : decode cX10_shapeOf 98 = .ok (.invokevirtual 70, 3) := by decide +kernel
theorem dX10_shapeOf_101 : decode cX10_shapeOf 101 = .ok (.ireturn, 1) := by decide +kernel
theorem dX10_place_0 : decode cX10_place 0 = .ok (.aload_n 0, 1) := by decide +kernel
theorem dX10_place_1 : decode cX10_place 1 = .ok (.iload_n 1, 1) := by decide +kernel
theorem dX10_place_2 : decode cX10_place 2 = .ok (.iload_n 2, 1) := by decide +kernel
theorem dX10_place_3 : decode cX10_place 3 = .ok (.iload_n 3, 1) := by decide +kernel
theorem dX10_place_4 : decode cX10_place 4 = .ok (.invokevirtual 119, 3) := by decide +kernel
theorem dX10_place_7 : decode cX10_place 7 = .ok (.ifCond .ne 9, 3) := by decide +kernel
theorem dX10_place_10 : decode cX10_place 10 = .ok (.aload_n 0, 1) := by decide +kernel
theorem dX10_place_11 : decode cX10_place 11 = .ok (.iconst (-1), 1) := by decide +kernel
theorem dX10_place_12 : decode cX10_place 12 = .ok (.invokevirtual 70, 3) := by decide +kernel
theorem dX10_place_15 : decode cX10_place 15 = .ok (.ireturn, 1) := by decide +kernel
theorem dX10_place_16 : decode cX10_place 16 = .ok (.aload_n 0, 1) := by decide +kernel
theorem dX10_place_17 : decode cX10_place 17 = .ok (.getfield 38, 3) := by decide +kernel
theorem dX10_place_20 : decode cX10_place 20 = .ok (.getfield 123, 3) := by decide +kernel
theorem dX10_place_23 : decode cX10_place 23 = .ok (.aload_n 0, 1) := by decide +kernel
theorem dX10_place_24 : decode cX10_place 24 = .ok (.getfield 14, 3) := by decide +kernel
theorem dX10_place_27 : decode cX10_place 27 = .ok (.iload_n 1, 1) := by decide +kernel
theorem dX10_place_28 : decode cX10_place 28 = .ok (.iload_n 2, 1) := by decide +kernel
theorem dX10_place_29 : decode cX10_place 29 = .ok (.iload_n 3, 1) := by decide +kernel
theorem dX10_place_30 : decode cX10_place 30 = .ok (.invokevirtual 130, 3) := by decide +kernel
theorem dX10_place_33 : decode cX10_place 33 = .ok (.iconst 0, 1) := by decide +kernel
theorem dX10_place_34 : decode cX10_place 34 = .ok (.invokevirtual 149, 3) := by decide +kernel
theorem dX10_place_37 : decode cX10_place 37 = .ok (.ireturn, 1) := by decide +kernel
theorem dX10_count_0 : decode cX10_count 0 = .ok (.iload_n 1, 1) := by decide +kernel
theorem dX10_count_1 : decode cX10_count 1 = .ok (.invokestatic 134, 3) := by decide +kernel
theorem dX10_count_4 : decode cX10_count 4 = .ok (.ifCond .ne 9, 3) := by decide +kernel
theorem dX10_count_7 : decode cX10_count 7 = .ok (.aload_n 0, 1) := by decide +kernel
theorem dX10_count_8 : decode cX10_count 8 = .ok (.iconst (-1), 1) := by decide +kernel
theorem dX10_count_9 : decode cX10_count 9 = .ok (.invokevirtual 70, 3) := by decide +kernel
theorem dX10_count_12 : decode cX10_count 12 = .ok (.ireturn, 1) := by decide +kernel
theorem dX10_count_13 : decode cX10_count 13 = .ok (.aload_n 0, 1) := by decide +kernel
theorem dX10_count_14 : decode cX10_count 14 = .ok (.getfield 38, 3) := by decide +kernel
theorem dX10_count_17 : decode cX10_count 17 = .ok (.aload_n 0, 1) := by decide +kernel
theorem dX10_count_18 : decode cX10_count 18 = .ok (.getfield 14, 3) := by decide +kernel
theorem dX10_count_21 : decode cX10_count 21 = .ok (.iload_n 1, 1) := by decide +kernel
theorem dX10_count_22 : decode cX10_count 22 = .ok (.aload_n 0, 1) := by decide +kernel
theorem dX10_count_23 : decode cX10_count 23 = .ok (.getfield 14, 3) := by decide +kernel
theorem dX10_count_26 : decode cX10_count 26 = .ok (.invokevirtual 152, 3) := by decide +kernel
theorem dX10_count_29 : decode cX10_count 29 = .ok (.invokevirtual 156, 3) := by decide +kernel
theorem dX10_count_32 : decode cX10_count 32 = .ok (.ireturn, 1) := by decide +kernel
theorem dX10_countOf_0 : decode cX10_countOf 0 = .ok (.aload_n 0, 1) := by decide +kernel
theorem dX10_countOf_1 : decode cX10_countOf 1 = .ok (.iload_n 1, 1) := by decide +kernel
theorem dX10_countOf_2 : decode cX10_countOf 2 = .ok (.invokevirtual 160, 3) := by decide +kernel
theorem dX10_countOf_5 : decode cX10_countOf 5 = .ok (.ifCond .eq 10, 3) := by decide +kernel
theorem dX10_countOf_8 : decode cX10_countOf 8 = .ok (.iload_n 2, 1) := by decide +kernel
theorem dX10_countOf_9 : decode cX10_countOf 9 = .ok (.invokestatic 134, 3) := by decide +kernel
theorem dX10_countOf_12 : decode cX10_countOf 12 = .ok (.ifCond .ne 9, 3) := by decide +kernel
theorem dX10_countOf_15 : decode cX10_countOf 15 = .ok (.aload_n 0, 1) := by decide +kernel
theorem dX10_countOf_16 : decode cX10_countOf 16 = .ok (.iconst (-1), 1) := by decide +kernel
theorem dX10_countOf_17 : decode cX10_countOf 17 = .ok (.invokevirtual 70, 3) := by decide +kernel
theorem dX10_countOf_20 : decode cX10_countOf 20 = .ok (.ireturn, 1) := by decide +kernel
theorem dX10_countOf_21 : decode cX10_countOf 21 = .ok (.iload_n 3, 1) := by decide +kernel
theorem dX10_countOf_22 : decode cX10_countOf 22 = .ok (.ifCond .lt 8, 3) := by decide +kernel
theorem dX10_countOf_25 : decode cX10_countOf 25 = .ok (.iload_n 3, 1) := by decide +kernel
theorem dX10_countOf_26 : decode cX10_countOf 26 = .ok (.iconst 3, 1) := by decide +kernel
theorem dX10_countOf_27 : decode cX10_countOf 27 = .ok (.if_icmp .lt 10, 3) := by decide +kernel
theorem dX10_countOf_30 : decode cX10_countOf 30 = .ok (.aload_n 0, 1) := by decide +kernel
theorem dX10_countOf_31 : decode cX10_countOf 31 = .ok (.bipush (-2), 2) := by decide +kernel
theorem dX10_countOf_33 : decode cX10_countOf 33 = .ok (.invokevirtual 70, 3) := by decide +kernel
theorem dX10_countOf_36 : decode cX10_countOf 36 = .ok (.ireturn, 1) := by decide +kernel
theorem dX10_countOf_37 : decode cX10_countOf 37 = .ok (.aload_n 0, 1) := by decide +kernel
theorem dX10_countOf_38 : decode cX10_countOf 38 = .ok (.getfield 38, 3) := by decide +kernel
theorem dX10_countOf_41 : decode cX10_countOf 41 = .ok (.aload_n 0, 1) := by decide +kernel
theorem dX10_countOf_42 : decode cX10_countOf 42 = .ok (.getfield 14, 3) := by decide +kernel
theorem dX10_countOf_45 : decode cX10_countOf 45 = .ok (.invokevirtual 163, 3) := by decide +kernel
theorem dX10_countOf_48 : decode cX10_countOf 48 = .ok (.aload_n 0, 1) := by decide +kernel
theorem dX10_countOf_49 : decode cX10_countOf 49 = .ok (.getfield 38, 3) := by decide +kernel
theorem dX10_countOf_52 : decode cX10_countOf 52 = .ok (.iload_n 1, 1) := by decide +kernel
theorem dX10_countOf_53 : decode cX10_countOf 53 = .ok (.iload_n 2, 1) := by decide +kernel
theorem dX10_countOf_54 : decode cX10_countOf 54 = .ok (.iload_n 3, 1) := by decide +kernel
theorem dX10_countOf_55 : decode cX10_countOf 55 = .ok (.invokevirtual 167, 3) := by decide +kernel
theorem dX10_countOf_58 : decode cX10_countOf 58 = .ok (.ireturn, 1) := by decide +kernel
theorem dX10_role_0 : decode cX10_role 0 = .ok (.aload_n 0, 1) := by decide +kernel
theorem dX10_role_1 : decode cX10_role 1 = .ok (.iload_n 1, 1) := by decide +kernel
theorem dX10_role_2 : decode cX10_role 2 = .ok (.invokevirtual 160, 3) := by decide +kernel
theorem dX10_role_5 : decode cX10_role 5 = .ok (.ifCond .ne 9, 3) := by decide +kernel
theorem dX10_role_8 : decode cX10_role 8 = .ok (.aload_n 0, 1) := by decide +kernel
theorem dX10_role_9 : decode cX10_role 9 = .ok (.iconst (-1), 1) := by decide +kernel
theorem dX10_role_10 : decode cX10_role 10 = .ok (.invokevirtual 70, 3) := by decide +kernel
theorem dX10_role_13 : decode cX10_role 13 = .ok (.ireturn, 1) := by decide +kernel
theorem dX10_role_14 : decode cX10_role 14 = .ok (.aload_n 0, 1) := by decide +kernel
theorem dX10_role_15 : decode cX10_role 15 = .ok (.getfield 38, 3) := by decide +kernel
theorem dX10_role_18 : decode cX10_role 18 = .ok (.aload_n 0, 1) := by decide +kernel
theorem dX10_role_19 : decode cX10_role 19 = .ok (.getfield 14, 3) := by decide +kernel
theorem dX10_role_22 : decode cX10_role 22 = .ok (.invokevirtual 170, 3) := by decide +kernel
theorem dX10_role_25 : decode cX10_role 25 = .ok (.pop, 1) := by decide +kernel
theorem dX10_role_26 : decode cX10_role 26 = .ok (.aload_n 0, 1) := by decide +kernel
theorem dX10_role_27 : decode cX10_role 27 = .ok (.getfield 38, 3) := by decide +kernel
theorem dX10_role_30 : decode cX10_role 30 = .ok (.getfield 174, 3) := by decide +kernel
theorem dX10_role_33 : decode cX10_role 33 = .ok (.iload_n 1, 1) := by decide +kernel
theorem dX10_role_34 : decode cX10_role 34 = .ok (.iaload, 1) := by decide +kernel
theorem dX10_role_35 : decode cX10_role 35 = .ok (.ireturn, 1) := by decide +kernel
theorem dX10_roles_0 : decode cX10_roles 0 = .ok (.aload_n 0, 1) := by decide +kernel
theorem dX10_roles_1 : decode cX10_roles 1 = .ok (.getfield 38, 3) := by decide +kernel
theorem dX10_roles_4 : decode cX10_roles 4 = .ok (.aload_n 0, 1) := by decide +kernel
theorem dX10_roles_5 : decode cX10_roles 5 = .ok (.getfield 14, 3) := by decide +kernel
theorem dX10_roles_8 : decode cX10_roles 8 = .ok (.invokevirtual 170, 3) := by decide +kernel
theorem dX10_roles_11 : decode cX10_roles 11 = .ok (.ireturn, 1) := by decide +kernel
theorem dX10_fours_0 : decode cX10_fours 0 = .ok (.iload_n 1, 1) := by decide +kernel
theorem dX10_fours_1 : decode cX10_fours 1 = .ok (.ifCond .lt 9, 3) := by decide +kernel
theorem dX10_fours_4 : decode cX10_fours 4 = .ok (.iload_n 1, 1) := by decide +kernel
theorem dX10_fours_5 : decode cX10_fours 5 = .ok (.bipush 6, 2) := by decide +kernel
theorem dX10_fours_7 : decode cX10_fours 7 = .ok (.if_icmp .lt 10, 3) := by decide +kernel
theorem dX10_fours_10 : decode cX10_fours 10 = .ok (.aload_n 0, 1) := by decide +kernel
theorem dX10_fours_11 : decode cX10_fours 11 = .ok (.bipush (-2), 2) := by decide +kernel
theorem dX10_fours_13 : decode cX10_fours 13 = .ok (.invokevirtual 70, 3) := by decide +kernel
theorem dX10_fours_16 : decode cX10_fours 16 = .ok (.ireturn, 1) := by decide +kernel
theorem dX10_fours_17 : decode cX10_fours 17 = .ok (.aload_n 0, 1) := by decide +kernel
theorem dX10_fours_18 : decode cX10_fours 18 = .ok (.getfield 14, 3) := by decide +kernel
theorem dX10_fours_21 : decode cX10_fours 21 = .ok (.iload_n 1, 1) := by decide +kernel
theorem dX10_fours_22 : decode cX10_fours 22 = .ok (.invokestatic 177, 3) := by decide +kernel
theorem dX10_fours_25 : decode cX10_fours 25 = .ok (.ireturn, 1) := by decide +kernel
theorem dX10_seed_0 : decode cX10_seed 0 = .ok (.aload_n 0, 1) := by decide +kernel
theorem dX10_seed_1 : decode cX10_seed 1 = .ok (.getfield 52, 3) := by decide +kernel
theorem dX10_seed_4 : decode cX10_seed 4 = .ok (.getfield 183, 3) := by decide +kernel
theorem dX10_seed_7 : decode cX10_seed 7 = .ok (.istore_n 2, 1) := by decide +kernel
theorem dX10_seed_8 : decode cX10_seed 8 = .ok (.aload_n 0, 1) := by decide +kernel
theorem dX10_seed_9 : decode cX10_seed 9 = .ok (.getfield 52, 3) := by decide +kernel
theorem dX10_seed_12 : decode cX10_seed 12 = .ok (.iload_n 1, 1) := by decide +kernel
theorem dX10_seed_13 : decode cX10_seed 13 = .ok (.putfield 183, 3) := by decide +kernel
theorem dX10_seed_16 : decode cX10_seed 16 = .ok (.iload_n 2, 1) := by decide +kernel
theorem dX10_seed_17 : decode cX10_seed 17 = .ok (.ireturn, 1) := by decide +kernel
theorem dX10_swap_0 : decode cX10_swap 0 = .ok (.aload_n 0, 1) := by decide +kernel
theorem dX10_swap_1 : decode cX10_swap 1 = .ok (.iload_n 1, 1) := by decide +kernel
theorem dX10_swap_2 : decode cX10_swap 2 = .ok (.invokevirtual 106, 3) := by decide +kernel
theorem dX10_swap_5 : decode cX10_swap 5 = .ok (.ifCond .eq 16, 3) := by decide +kernel
theorem dX10_swap_8 : decode cX10_swap 8 = .ok (.aload_n 0, 1) := by decide +kernel
theorem dX10_swap_9 : decode cX10_swap 9 = .ok (.iload_n 2, 1) := by decide +kernel
theorem dX10_swap_10 : decode cX10_swap 10 = .ok (.invokevirtual 106, 3) := by decide +kernel
theorem dX10_swap_13 : decode cX10_swap 13 = .ok (.ifCond .eq 8, 3) := by decide +kernel
theorem dX10_swap_16 : decode cX10_swap 16 = .ok (.iload_n 1, 1) := by decide +kernel
theorem dX10_swap_17 : decode cX10_swap 17 = .ok (.iload_n 2, 1) := by decide +kernel
theorem dX10_swap_18 : decode cX10_swap 18 = .ok (.if_icmp .ne 9, 3) := by decide +kernel
theorem dX10_swap_21 : decode cX10_swap 21 = .ok (.aload_n 0, 1) := by decide +kernel
theorem dX10_swap_22 : decode cX10_swap 22 = .ok (.iconst (-1), 1) := by decide +kernel
theorem dX10_swap_23 : decode cX10_swap 23 = .ok (.invokevirtual 70, 3) := by decide +kernel
theorem dX10_swap_26 : decode cX10_swap 26 = .ok (.ireturn, 1) := by decide +kernel
theorem dX10_swap_27 : decode cX10_swap 27 = .ok (.aload_n 0, 1) := by decide +kernel
theorem dX10_swap_28 : decode cX10_swap 28 = .ok (.getfield 14, 3) := by decide +kernel
theorem dX10_swap_31 : decode cX10_swap 31 = .ok (.aload_n 0, 1) := by decide +kernel
theorem dX10_swap_32 : decode cX10_swap 32 = .ok (.getfield 14, 3) := by decide +kernel
theorem dX10_swap_35 : decode cX10_swap 35 = .ok (.iload_n 1, 1) := by decide +kernel
theorem dX10_swap_36 : decode cX10_swap 36 = .ok (.invokevirtual 110, 3) := by decide +kernel
theorem dX10_swap_39 : decode cX10_swap 39 = .ok (.aload_n 0, 1) := by decide +kernel
theorem dX10_swap_40 : decode cX10_swap 40 = .ok (.getfield 14, 3) := by decide +kernel
theorem dX10_swap_43 : decode cX10_swap 43 = .ok (.iload_n 2, 1) := by decide +kernel
theorem dX10_swap_44 : decode cX10_swap 44 = .ok (.invokevirtual 110, 3) := by decide +kernel
theorem dX10_swap_47 : decode cX10_swap 47 = .ok (.invokevirtual 186, 3) := by decide +kernel
theorem dX10_swap_50 : decode cX10_swap 50 = .ok (.ifCond .ne 10, 3) := by decide +kernel
theorem dX10_swap_53 : decode cX10_swap 53 = .ok (.aload_n 0, 1) := by decide +kernel
theorem dX10_swap_54 : decode cX10_swap 54 = .ok (.bipush (-3), 2) := by decide +kernel
theorem dX10_swap_56 : decode cX10_swap 56 = .ok (.invokevirtual 70, 3) := by decide +kernel
theorem dX10_swap_59 : decode cX10_swap 59 = .ok (.ireturn, 1) := by decide +kernel
theorem dX10_swap_60 : decode cX10_swap 60 = .ok (.iconst 1, 1) := by decide +kernel
theorem dX10_swap_61 : decode cX10_swap 61 = .ok (.ireturn, 1) := by decide +kernel
theorem dX10_mix_0 : decode cX10_mix 0 = .ok (.iload_n 1, 1) := by decide +kernel
theorem dX10_mix_1 : decode cX10_mix 1 = .ok (.ifCond .ge 10, 3) := by decide +kernel
theorem dX10_mix_4 : decode cX10_mix 4 = .ok (.aload_n 0, 1) := by decide +kernel
theorem dX10_mix_5 : decode cX10_mix 5 = .ok (.bipush (-4), 2) := by decide +kernel
theorem dX10_mix_7 : decode cX10_mix 7 = .ok (.invokevirtual 70, 3) := by decide +kernel
theorem dX10_mix_10 : decode cX10_mix 10 = .ok (.ireturn, 1) := by decide +kernel
theorem dX10_mix_11 : decode cX10_mix 11 = .ok (.iload_n 1, 1) := by decide +kernel
theorem dX10_mix_12 : decode cX10_mix 12 = .ok (.sipush 500, 3) := by decide +kernel
theorem dX10_mix_15 : decode cX10_mix 15 = .ok (.if_icmp .le 10, 3) := by decide +kernel
theorem dX10_mix_18 : decode cX10_mix 18 = .ok (.aload_n 0, 1) := by decide +kernel
theorem dX10_mix_19 : decode cX10_mix 19 = .ok (.bipush (-6), 2) := by decide +kernel
theorem dX10_mix_21 : decode cX10_mix 21 = .ok (.invokevirtual 70, 3) := by decide +kernel
theorem dX10_mix_24 : decode cX10_mix 24 = .ok (.ireturn, 1) := by decide +kernel
theorem dX10_mix_25 : decode cX10_mix 25 = .ok (.aload_n 0, 1) := by decide +kernel
theorem dX10_mix_26 : decode cX10_mix 26 = .ok (.getfield 14, 3) := by decide +kernel
theorem dX10_mix_29 : decode cX10_mix 29 = .ok (.invokevirtual 189, 3) := by decide +kernel
theorem dX10_mix_32 : decode cX10_mix 32 = .ok (.iconst 2, 1) := by decide +kernel
theorem dX10_mix_33 : decode cX10_mix 33 = .ok (.if_icmp .ge 10, 3) := by decide +kernel
theorem dX10_mix_36 : decode cX10_mix 36 = .ok (.aload_n 0, 1) := by decide +kernel
theorem dX10_mix_37 : decode cX10_mix 37 = .ok (.bipush (-3), 2) := by decide +kernel
theorem dX10_mix_39 : decode cX10_mix 39 = .ok (.invokevirtual 70, 3) := by decide +kernel
theorem dX10_mix_42 : decode cX10_mix 42 = .ok (.ireturn, 1) := by decide +kernel
theorem dX10_mix_43 : decode cX10_mix 43 = .ok (.aload_n 0, 1) := by decide +kernel
theorem dX10_mix_44 : decode cX10_mix 44 = .ok (.getfield 52, 3) := by decide +kernel
theorem dX10_mix_47 : decode cX10_mix 47 = .ok (.aload_n 0, 1) := by decide +kernel
theorem dX10_mix_48 : decode cX10_mix 48 = .ok (.getfield 14, 3) := by decide +kernel
theorem dX10_mix_51 : decode cX10_mix 51 = .ok (.iload_n 1, 1) := by decide +kernel
theorem dX10_mix_52 : decode cX10_mix 52 = .ok (.invokevirtual 191, 3) := by decide +kernel
theorem dX10_mix_55 : decode cX10_mix 55 = .ok (.ireturn, 1) := by decide +kernel
theorem dX10_mean_0 : decode cX10_mean 0 = .ok (.iload_n 1, 1) := by decide +kernel
theorem dX10_mean_1 : decode cX10_mean 1 = .ok (.invokestatic 134, 3) := by decide +kernel
theorem dX10_mean_4 : decode cX10_mean 4 = .ok (.ifCond .ne 10, 3) := by decide +kernel
end
section
theorem dX10_mean_7 : decode cX10_mean 7 = .ok (.aload_n 0, 1) := by decide +kernel
theorem dX10_mean_8 : decode cX10_mean 8 = .ok (.iconst (-1), 1) := by decide +kernel
theorem dX10_mean_9 : decode cX10_mean 9 = .ok (.invokevirtual 70, 3) := by decide +kernel
theorem dX10_mean_12 : decode cX10_mean 12 = .ok (.i2l, 1) := by decide +kernel
theorem dX10_mean_13 : decode cX10_mean 13 = .ok (.lreturn, 1) := by decide +kernel
theorem dX10_mean_14 : decode cX10_mean 14 = .ok (.iload_n 2, 1) := by decide +kernel
theorem dX10_mean_15 : decode cX10_mean 15 = .ok (.ifCond .eq 16, 3) := by decide +kernel
theorem dX10_mean_18 : decode cX10_mean 18 = .ok (.iload_n 2, 1) := by decide +kernel
theorem dX10_mean_19 : decode cX10_mean 19 = .ok (.iconst 1, 1) := by decide +kernel
theorem dX10_mean_20 : decode cX10_mean 20 = .ok (.if_icmp .eq 11, 3) := by decide +kernel
theorem dX10_mean_23 : decode cX10_mean 23 = .ok (.aload_n 0, 1) := by decide +kernel
theorem dX10_mean_24 : decode cX10_mean 24 = .ok (.bipush (-2), 2) := by decide +kernel
theorem dX10_mean_26 : decode cX10_mean 26 = .ok (.invokevirtual 70, 3) := by decide +kernel
theorem dX10_mean_29 : decode cX10_mean 29 = .ok (.i2l, 1) := by decide +kernel
theorem dX10_mean_30 : decode cX10_mean 30 = .ok (.lreturn, 1) := by decide +kernel
theorem dX10_mean_31 : decode cX10_mean 31 = .ok (.aload_n 0, 1) := by decide +kernel
theorem dX10_mean_32 : decode cX10_mean 32 = .ok (.iload_n 1, 1) := by decide +kernel
theorem dX10_mean_33 : decode cX10_mean 33 = .ok (.invokevirtual 194, 3) := by decide +kernel
theorem dX10_mean_36 : decode cX10_mean 36 = .ok (.iload_n 2, 1) := by decide +kernel
theorem dX10_mean_37 : decode cX10_mean 37 = .ok (.ifCond .ne 13, 3) := by decide +kernel
theorem dX10_mean_40 : decode cX10_mean 40 = .ok (.aload_n 0, 1) := by decide +kernel
theorem dX10_mean_41 : decode cX10_mean 41 = .ok (.getfield 45, 3) := by decide +kernel
theorem dX10_mean_44 : decode cX10_mean 44 = .ok (.getfield 197, 3) := by decide +kernel
theorem dX10_mean_47 : decode cX10_mean 47 = .ok (.goto 10, 3) := by decide +kernel
theorem dX10_mean_50 : decode cX10_mean 50 = .ok (.aload_n 0, 1) := by decide +kernel
theorem dX10_mean_51 : decode cX10_mean 51 = .ok (.getfield 45, 3) := by decide +kernel
theorem dX10_mean_54 : decode cX10_mean 54 = .ok (.getfield 201, 3) := by decide +kernel
theorem dX10_mean_57 : decode cX10_mean 57 = .ok (.lreturn, 1) := by decide +kernel
theorem dX10_more_0 : decode cX10_more 0 = .ok (.iload_n 1, 1) := by decide +kernel
theorem dX10_more_1 : decode cX10_more 1 = .ok (.invokestatic 134, 3) := by decide +kernel
theorem dX10_more_4 : decode cX10_more 4 = .ok (.ifCond .ne 12, 3) := by decide +kernel
theorem dX10_more_7 : decode cX10_more 7 = .ok (.ldc 204, 2) := by decide +kernel
theorem dX10_more_9 : decode cX10_more 9 = .ok (.aload_n 0, 1) := by decide +kernel
theorem dX10_more_10 : decode cX10_more 10 = .ok (.iconst (-1), 1) := by decide +kernel
theorem dX10_more_11 : decode cX10_more 11 = .ok (.invokevirtual 70, 3) := by decide +kernel
theorem dX10_more_14 : decode cX10_more 14 = .ok (.isub, 1) := by decide +kernel
theorem dX10_more_15 : decode cX10_more 15 = .ok (.ireturn, 1) := by decide +kernel
theorem dX10_more_16 : decode cX10_more 16 = .ok (.aload_n 0, 1) := by decide +kernel
theorem dX10_more_17 : decode cX10_more 17 = .ok (.iload_n 1, 1) := by decide +kernel
theorem dX10_more_18 : decode cX10_more 18 = .ok (.invokevirtual 194, 3) := by decide +kernel
theorem dX10_more_21 : decode cX10_more 21 = .ok (.aload_n 0, 1) := by decide +kernel
theorem dX10_more_22 : decode cX10_more 22 = .ok (.getfield 38, 3) := by decide +kernel
theorem dX10_more_25 : decode cX10_more 25 = .ok (.aload_n 0, 1) := by decide +kernel
theorem dX10_more_26 : decode cX10_more 26 = .ok (.getfield 14, 3) := by decide +kernel
theorem dX10_more_29 : decode cX10_more 29 = .ok (.iload_n 1, 1) := by decide +kernel
theorem dX10_more_30 : decode cX10_more 30 = .ok (.aload_n 0, 1) := by decide +kernel
theorem dX10_more_31 : decode cX10_more 31 = .ok (.getfield 14, 3) := by decide +kernel
theorem dX10_more_34 : decode cX10_more 34 = .ok (.invokevirtual 152, 3) := by decide +kernel
theorem dX10_more_37 : decode cX10_more 37 = .ok (.invokevirtual 156, 3) := by decide +kernel
theorem dX10_more_40 : decode cX10_more 40 = .ok (.i2l, 1) := by decide +kernel
theorem dX10_more_41 : decode cX10_more 41 = .ok (.lstore_n 2, 1) := by decide +kernel
theorem dX10_more_42 : decode cX10_more 42 = .ok (.lload_n 2, 1) := by decide +kernel
theorem dX10_more_43 : decode cX10_more 43 = .ok (.aload_n 0, 1) := by decide +kernel
theorem dX10_more_44 : decode cX10_more 44 = .ok (.getfield 45, 3) := by decide +kernel
theorem dX10_more_47 : decode cX10_more 47 = .ok (.getfield 201, 3) := by decide +kernel
theorem dX10_more_50 : decode cX10_more 50 = .ok (.lmul, 1) := by decide +kernel
theorem dX10_more_51 : decode cX10_more 51 = .ok (.aload_n 0, 1) := by decide +kernel
theorem dX10_more_52 : decode cX10_more 52 = .ok (.getfield 45, 3) := by decide +kernel
theorem dX10_more_55 : decode cX10_more 55 = .ok (.getfield 197, 3) := by decide +kernel
theorem dX10_more_58 : decode cX10_more 58 = .ok (.invokestatic 205, 3) := by decide +kernel
theorem dX10_more_61 : decode cX10_more 61 = .ok (.ireturn, 1) := by decide +kernel
theorem dX10_chains_0 : decode cX10_chains 0 = .ok (.iload_n 2, 1) := by decide +kernel
theorem dX10_chains_1 : decode cX10_chains 1 = .ok (.ifCond .eq 15, 3) := by decide +kernel
theorem dX10_chains_4 : decode cX10_chains 4 = .ok (.iload_n 2, 1) := by decide +kernel
theorem dX10_chains_5 : decode cX10_chains 5 = .ok (.iconst 1, 1) := by decide +kernel
theorem dX10_chains_6 : decode cX10_chains 6 = .ok (.if_icmp .eq 10, 3) := by decide +kernel
theorem dX10_chains_9 : decode cX10_chains 9 = .ok (.aload_n 0, 1) := by decide +kernel
theorem dX10_chains_10 : decode cX10_chains 10 = .ok (.bipush (-2), 2) := by decide +kernel
theorem dX10_chains_12 : decode cX10_chains 12 = .ok (.invokevirtual 70, 3) := by decide +kernel
theorem dX10_chains_15 : decode cX10_chains 15 = .ok (.ireturn, 1) := by decide +kernel
theorem dX10_chains_16 : decode cX10_chains 16 = .ok (.iload_n 1, 1) := by decide +kernel
theorem dX10_chains_17 : decode cX10_chains 17 = .ok (.ifCond .ge 10, 3) := by decide +kernel
theorem dX10_chains_20 : decode cX10_chains 20 = .ok (.aload_n 0, 1) := by decide +kernel
theorem dX10_chains_21 : decode cX10_chains 21 = .ok (.bipush (-4), 2) := by decide +kernel
theorem dX10_chains_23 : decode cX10_chains 23 = .ok (.invokevirtual 70, 3) := by decide +kernel
theorem dX10_chains_26 : decode cX10_chains 26 = .ok (.ireturn, 1) := by decide +kernel
theorem dX10_chains_27 : decode cX10_chains 27 = .ok (.iload_n 1, 1) := by decide +kernel
theorem dX10_chains_28 : decode cX10_chains 28 = .ok (.sipush 1000, 3) := by decide +kernel
theorem dX10_chains_31 : decode cX10_chains 31 = .ok (.if_icmp .le 10, 3) := by decide +kernel
theorem dX10_chains_34 : decode cX10_chains 34 = .ok (.aload_n 0, 1) := by decide +kernel
theorem dX10_chains_35 : decode cX10_chains 35 = .ok (.bipush (-6), 2) := by decide +kernel
theorem dX10_chains_37 : decode cX10_chains 37 = .ok (.invokevirtual 70, 3) := by decide +kernel
theorem dX10_chains_40 : decode cX10_chains 40 = .ok (.ireturn, 1) := by decide +kernel
theorem dX10_chains_41 : decode cX10_chains 41 = .ok (.iload_n 2, 1) := by decide +kernel
theorem dX10_chains_42 : decode cX10_chains 42 = .ok (.ifCond .ne 14, 3) := by decide +kernel
theorem dX10_chains_45 : decode cX10_chains 45 = .ok (.aload_n 0, 1) := by decide +kernel
theorem dX10_chains_46 : decode cX10_chains 46 = .ok (.getfield 14, 3) := by decide +kernel
theorem dX10_chains_49 : decode cX10_chains 49 = .ok (.iload_n 1, 1) := by decide +kernel
theorem dX10_chains_50 : decode cX10_chains 50 = .ok (.invokestatic 211, 3) := by decide +kernel
theorem dX10_chains_53 : decode cX10_chains 53 = .ok (.goto 11, 3) := by decide +kernel
theorem dX10_chains_56 : decode cX10_chains 56 = .ok (.aload_n 0, 1) := by decide +kernel
theorem dX10_chains_57 : decode cX10_chains 57 = .ok (.getfield 14, 3) := by decide +kernel
theorem dX10_chains_60 : decode cX10_chains 60 = .ok (.iload_n 1, 1) := by decide +kernel
theorem dX10_chains_61 : decode cX10_chains 61 = .ok (.invokestatic 216, 3) := by decide +kernel
theorem dX10_chains_64 : decode cX10_chains 64 = .ok (.ireturn, 1) := by decide +kernel
theorem dX10_burst_0 : decode cX10_burst 0 = .ok (.aload_n 0, 1) := by decide +kernel
theorem dX10_burst_1 : decode cX10_burst 1 = .ok (.iload_n 1, 1) := by decide +kernel
theorem dX10_burst_2 : decode cX10_burst 2 = .ok (.invokevirtual 160, 3) := by decide +kernel
theorem dX10_burst_5 : decode cX10_burst 5 = .ok (.ifCond .ne 9, 3) := by decide +kernel
theorem dX10_burst_8 : decode cX10_burst 8 = .ok (.aload_n 0, 1) := by decide +kernel
theorem dX10_burst_9 : decode cX10_burst 9 = .ok (.iconst (-1), 1) := by decide +kernel
theorem dX10_burst_10 : decode cX10_burst 10 = .ok (.invokevirtual 70, 3) := by decide +kernel
theorem dX10_burst_13 : decode cX10_burst 13 = .ok (.ireturn, 1) := by decide +kernel
theorem dX10_burst_14 : decode cX10_burst 14 = .ok (.iload_n 2, 1) := by decide +kernel
theorem dX10_burst_15 : decode cX10_burst 15 = .ok (.ifCond .ge 10, 3) := by decide +kernel
theorem dX10_burst_18 : decode cX10_burst 18 = .ok (.aload_n 0, 1) := by decide +kernel
theorem dX10_burst_19 : decode cX10_burst 19 = .ok (.bipush (-4), 2) := by decide +kernel
theorem dX10_burst_21 : decode cX10_burst 21 = .ok (.invokevirtual 70, 3) := by decide +kernel
theorem dX10_burst_24 : decode cX10_burst 24 = .ok (.ireturn, 1) := by decide +kernel
theorem dX10_burst_25 : decode cX10_burst 25 = .ok (.iload_n 2, 1) := by decide +kernel
theorem dX10_burst_26 : decode cX10_burst 26 = .ok (.sipush 1000, 3) := by decide +kernel
theorem dX10_burst_29 : decode cX10_burst 29 = .ok (.if_icmp .le 10, 3) := by decide +kernel
theorem dX10_burst_32 : decode cX10_burst 32 = .ok (.aload_n 0, 1) := by decide +kernel
theorem dX10_burst_33 : decode cX10_burst 33 = .ok (.bipush (-6), 2) := by decide +kernel
theorem dX10_burst_35 : decode cX10_burst 35 = .ok (.invokevirtual 70, 3) := by decide +kernel
theorem dX10_burst_38 : decode cX10_burst 38 = .ok (.ireturn, 1) := by decide +kernel
theorem dX10_burst_39 : decode cX10_burst 39 = .ok (.aload_n 0, 1) := by decide +kernel
theorem dX10_burst_40 : decode cX10_burst 40 = .ok (.getfield 14, 3) := by decide +kernel
theorem dX10_burst_43 : decode cX10_burst 43 = .ok (.iload_n 1, 1) := by decide +kernel
theorem dX10_burst_44 : decode cX10_burst 44 = .ok (.iload_n 2, 1) := by decide +kernel
theorem dX10_burst_45 : decode cX10_burst 45 = .ok (.invokestatic 219, 3) := by decide +kernel
theorem dX10_burst_48 : decode cX10_burst 48 = .ok (.ireturn, 1) := by decide +kernel
theorem dX10_signs_0 : decode cX10_signs 0 = .ok (.iload_n 1, 1) := by decide +kernel
theorem dX10_signs_1 : decode cX10_signs 1 = .ok (.ifCond .eq 15, 3) := by decide +kernel
theorem dX10_signs_4 : decode cX10_signs 4 = .ok (.iload_n 1, 1) := by decide +kernel
theorem dX10_signs_5 : decode cX10_signs 5 = .ok (.iconst 1, 1) := by decide +kernel
theorem dX10_signs_6 : decode cX10_signs 6 = .ok (.if_icmp .eq 10, 3) := by decide +kernel
theorem dX10_signs_9 : decode cX10_signs 9 = .ok (.aload_n 0, 1) := by decide +kernel
theorem dX10_signs_10 : decode cX10_signs 10 = .ok (.bipush (-2), 2) := by decide +kernel
theorem dX10_signs_12 : decode cX10_signs 12 = .ok (.invokevirtual 70, 3) := by decide +kernel
theorem dX10_signs_15 : decode cX10_signs 15 = .ok (.ireturn, 1) := by decide +kernel
theorem dX10_signs_16 : decode cX10_signs 16 = .ok (.aload_n 0, 1) := by decide +kernel
theorem dX10_signs_17 : decode cX10_signs 17 = .ok (.getfield 14, 3) := by decide +kernel
theorem dX10_signs_20 : decode cX10_signs 20 = .ok (.iload_n 1, 1) := by decide +kernel
theorem dX10_signs_21 : decode cX10_signs 21 = .ok (.iconst 1, 1) := by decide +kernel
theorem dX10_signs_22 : decode cX10_signs 22 = .ok (.if_icmp .ne 7, 3) := by decide +kernel
theorem dX10_signs_25 : decode cX10_signs 25 = .ok (.iconst 1, 1) := by decide +kernel
theorem dX10_signs_26 : decode cX10_signs 26 = .ok (.goto 4, 3) := by decide +kernel
theorem dX10_signs_29 : decode cX10_signs 29 = .ok (.iconst 0, 1) := by decide +kernel
theorem dX10_signs_30 : decode cX10_signs 30 = .ok (.invokestatic 222, 3) := by decide +kernel
theorem dX10_signs_33 : decode cX10_signs 33 = .ok (.ireturn, 1) := by decide +kernel
theorem dX10_sides_0 : decode cX10_sides 0 = .ok (.iload_n 1, 1) := by decide +kernel
theorem dX10_sides_1 : decode cX10_sides 1 = .ok (.ifCond .eq 15, 3) := by decide +kernel
theorem dX10_sides_4 : decode cX10_sides 4 = .ok (.iload_n 1, 1) := by decide +kernel
theorem dX10_sides_5 : decode cX10_sides 5 = .ok (.iconst 1, 1) := by decide +kernel
theorem dX10_sides_6 : decode cX10_sides 6 = .ok (.if_icmp .eq 10, 3) := by decide +kernel
theorem dX10_sides_9 : decode cX10_sides 9 = .ok (.aload_n 0, 1) := by decide +kernel
theorem dX10_sides_10 : decode cX10_sides 10 = .ok (.bipush (-2), 2) := by decide +kernel
theorem dX10_sides_12 : decode cX10_sides 12 = .ok (.invokevirtual 70, 3) := by decide +kernel
theorem dX10_sides_15 : decode cX10_sides 15 = .ok (.ireturn, 1) := by decide +kernel
theorem dX10_sides_16 : decode cX10_sides 16 = .ok (.aload_n 0, 1) := by decide +kernel
theorem dX10_sides_17 : decode cX10_sides 17 = .ok (.getfield 59, 3) := by decide +kernel
theorem dX10_sides_20 : decode cX10_sides 20 = .ok (.aload_n 0, 1) := by decide +kernel
theorem dX10_sides_21 : decode cX10_sides 21 = .ok (.getfield 14, 3) := by decide +kernel
theorem dX10_sides_24 : decode cX10_sides 24 = .ok (.invokevirtual 228, 3) := by decide +kernel
theorem dX10_sides_27 : decode cX10_sides 27 = .ok (.iload_n 1, 1) := by decide +kernel
theorem dX10_sides_28 : decode cX10_sides 28 = .ok (.ifCond .ne 13, 3) := by decide +kernel
theorem dX10_sides_31 : decode cX10_sides 31 = .ok (.aload_n 0, 1) := by decide +kernel
theorem dX10_sides_32 : decode cX10_sides 32 = .ok (.getfield 59, 3) := by decide +kernel
theorem dX10_sides_35 : decode cX10_sides 35 = .ok (.getfield 231, 3) := by decide +kernel
theorem dX10_sides_38 : decode cX10_sides 38 = .ok (.goto 10, 3) := by decide +kernel
theorem dX10_sides_41 : decode cX10_sides 41 = .ok (.aload_n 0, 1) := by decide +kernel
theorem dX10_sides_42 : decode cX10_sides 42 = .ok (.getfield 59, 3) := by decide +kernel
theorem dX10_sides_45 : decode cX10_sides 45 = .ok (.getfield 234, 3) := by decide +kernel
theorem dX10_sides_48 : decode cX10_sides 48 = .ok (.ireturn, 1) := by decide +kernel
theorem dX10_walks_0 : decode cX10_walks 0 = .ok (.aload_n 0, 1) := by decide +kernel
theorem dX10_walks_1 : decode cX10_walks 1 = .ok (.iload_n 1, 1) := by decide +kernel
theorem dX10_walks_2 : decode cX10_walks 2 = .ok (.invokevirtual 160, 3) := by decide +kernel
theorem dX10_walks_5 : decode cX10_walks 5 = .ok (.ifCond .eq 11, 3) := by decide +kernel
theorem dX10_walks_8 : decode cX10_walks 8 = .ok (.aload_n 0, 1) := by decide +kernel
theorem dX10_walks_9 : decode cX10_walks 9 = .ok (.iload_n 2, 1) := by decide +kernel
theorem dX10_walks_10 : decode cX10_walks 10 = .ok (.invokevirtual 160, 3) := by decide +kernel
theorem dX10_walks_13 : decode cX10_walks 13 = .ok (.ifCond .ne 9, 3) := by decide +kernel
theorem dX10_walks_16 : decode cX10_walks 16 = .ok (.aload_n 0, 1) := by decide +kernel
theorem dX10_walks_17 : decode cX10_walks 17 = .ok (.iconst (-1), 1) := by decide +kernel
theorem dX10_walks_18 : decode cX10_walks 18 = .ok (.invokevirtual 70, 3) := by decide +kernel
theorem dX10_walks_21 : decode cX10_walks 21 = .ok (.ireturn, 1) := by decide +kernel
theorem dX10_walks_22 : decode cX10_walks 22 = .ok (.iload_n 3, 1) := by decide +kernel
theorem dX10_walks_23 : decode cX10_walks 23 = .ok (.ifCond .ge 10, 3) := by decide +kernel
theorem dX10_walks_26 : decode cX10_walks 26 = .ok (.aload_n 0, 1) := by decide +kernel
theorem dX10_walks_27 : decode cX10_walks 27 = .ok (.bipush (-4), 2) := by decide +kernel
theorem dX10_walks_29 : decode cX10_walks 29 = .ok (.invokevirtual 70, 3) := by decide +kernel
theorem dX10_walks_32 : decode cX10_walks 32 = .ok (.ireturn, 1) := by decide +kernel
theorem dX10_walks_33 : decode cX10_walks 33 = .ok (.iload_n 3, 1) := by decide +kernel
theorem dX10_walks_34 : decode cX10_walks 34 = .ok (.bipush 60, 2) := by decide +kernel
theorem dX10_walks_36 : decode cX10_walks 36 = .ok (.if_icmp .le 10, 3) := by decide +kernel
theorem dX10_walks_39 : decode cX10_walks 39 = .ok (.aload_n 0, 1) := by decide +kernel
theorem dX10_walks_40 : decode cX10_walks 40 = .ok (.bipush (-6), 2) := by decide +kernel
theorem dX10_walks_42 : decode cX10_walks 42 = .ok (.invokevirtual 70, 3) := by decide +kernel
theorem dX10_walks_45 : decode cX10_walks 45 = .ok (.ireturn, 1) := by decide +kernel
theorem dX10_walks_46 : decode cX10_walks 46 = .ok (.aload_n 0, 1) := by decide +kernel
theorem dX10_walks_47 : decode cX10_walks 47 = .ok (.getfield 66, 3) := by decide +kernel
theorem dX10_walks_50 : decode cX10_walks 50 = .ok (.aload_n 0, 1) := by decide +kernel
theorem dX10_walks_51 : decode cX10_walks 51 = .ok (.getfield 14, 3) := by decide +kernel
theorem dX10_walks_54 : decode cX10_walks 54 = .ok (.iload_n 1, 1) := by decide +kernel
theorem dX10_walks_55 : decode cX10_walks 55 = .ok (.iload_n 3, 1) := by decide +kernel
theorem dX10_walks_56 : decode cX10_walks 56 = .ok (.invokevirtual 237, 3) := by decide +kernel
theorem dX10_walks_59 : decode cX10_walks 59 = .ok (.iload 4, 2) := by decide +kernel
theorem dX10_walks_61 : decode cX10_walks 61 = .ok (.ifCond .lt 16, 3) := by decide +kernel
theorem dX10_walks_64 : decode cX10_walks 64 = .ok (.iload 4, 2) := by decide +kernel
theorem dX10_walks_66 : decode cX10_walks 66 = .ok (.aload_n 0, 1) := by decide +kernel
theorem dX10_walks_67 : decode cX10_walks 67 = .ok (.getfield 66, 3) := by decide +kernel
theorem dX10_walks_70 : decode cX10_walks 70 = .ok (.iload_n 2, 1) := by decide +kernel
theorem dX10_walks_71 : decode cX10_walks 71 = .ok (.invokevirtual 241, 3) := by decide +kernel
theorem dX10_walks_74 : decode cX10_walks 74 = .ok (.if_icmp .lt 6, 3) := by decide +kernel
theorem dX10_walks_77 : decode cX10_walks 77 = .ok (.bipush (-9), 2) := by decide +kernel
theorem dX10_walks_79 : decode cX10_walks 79 = .ok (.ireturn, 1) := by decide +kernel
theorem dX10_walks_80 : decode cX10_walks 80 = .ok (.aload_n 0, 1) := by decide +kernel
theorem dX10_walks_81 : decode cX10_walks 81 = .ok (.getfield 66, 3) := by decide +kernel
theorem dX10_walks_84 : decode cX10_walks 84 = .ok (.iload_n 2, 1) := by decide +kernel
theorem dX10_walks_85 : decode cX10_walks 85 = .ok (.iload 4, 2) := by decide +kernel
theorem dX10_walks_87 : decode cX10_walks 87 = .ok (.invokevirtual 244, 3) := by decide +kernel
theorem dX10_walks_90 : decode cX10_walks 90 = .ok (.ireturn, 1) := by decide +kernel
theorem dX10_sample_0 : decode cX10_sample 0 = .ok (.iload_n 2, 1) := by decide +kernel
theorem dX10_sample_1 : decode cX10_sample 1 = .ok (.invokestatic 134, 3) := by decide +kernel
theorem dX10_sample_4 : decode cX10_sample 4 = .ok (.ifCond .eq 17, 3) := by decide +kernel
theorem dX10_sample_7 : decode cX10_sample 7 = .ok (.iload_n 1, 1) := by decide +kernel
theorem dX10_sample_8 : decode cX10_sample 8 = .ok (.aload_n 0, 1) := by decide +kernel
theorem dX10_sample_9 : decode cX10_sample 9 = .ok (.getfield 14, 3) := by decide +kernel
theorem dX10_sample_12 : decode cX10_sample 12 = .ok (.invokevirtual 152, 3) := by decide +kernel
theorem dX10_sample_15 : decode cX10_sample 15 = .ok (.iconst (-1), 1) := by decide +kernel
theorem dX10_sample_16 : decode cX10_sample 16 = .ok (.ixor, 1) := by decide +kernel
theorem dX10_sample_17 : decode cX10_sample 17 = .ok (.iand, 1) := by decide +kernel
theorem dX10_sample_18 : decode cX10_sample 18 = .ok (.ifCond .eq 9, 3) := by decide +kernel
theorem dX10_sample_21 : decode cX10_sample 21 = .ok (.aload_n 0, 1) := by decide +kernel
theorem dX10_sample_22 : decode cX10_sample 22 = .ok (.iconst (-1), 1) := by decide +kernel
theorem dX10_sample_23 : decode cX10_sample 23 = .ok (.invokevirtual 70, 3) := by decide +kernel
theorem dX10_sample_26 : decode cX10_sample 26 = .ok (.ireturn, 1) := by decide +kernel
theorem dX10_sample_27 : decode cX10_sample 27 = .ok (.iload_n 1, 1) := by decide +kernel
theorem dX10_sample_28 : decode cX10_sample 28 = .ok (.invokestatic 247, 3) := by decide +kernel
theorem dX10_sample_31 : decode cX10_sample 31 = .ok (.istore 4, 2) := by decide +kernel
theorem dX10_sample_33 : decode cX10_sample 33 = .ok (.iload 4, 2) := by decide +kernel
theorem dX10_sample_35 : decode cX10_sample 35 = .ok (.iconst 3, 1) := by decide +kernel
theorem dX10_sample_36 : decode cX10_sample 36 = .ok (.if_icmp .ge 10, 3) := by decide +kernel
theorem dX10_sample_39 : decode cX10_sample 39 = .ok (.aload_n 0, 1) := by decide +kernel
theorem dX10_sample_40 : decode cX10_sample 40 = .ok (.bipush (-3), 2) := by decide +kernel
theorem dX10_sample_42 : decode cX10_sample 42 = .ok (.invokevirtual 70, 3) := by decide +kernel
theorem dX10_sample_45 : decode cX10_sample 45 = .ok (.ireturn, 1) := by decide +kernel
theorem dX10_sample_46 : decode cX10_sample 46 = .ok (.iload_n 3, 1) := by decide +kernel
theorem dX10_sample_47 : decode cX10_sample 47 = .ok (.ifCond .eq 15, 3) := by decide +kernel
theorem dX10_sample_50 : decode cX10_sample 50 = .ok (.iload_n 3, 1) := by decide +kernel
theorem dX10_sample_51 : decode cX10_sample 51 = .ok (.iconst 1, 1) := by decide +kernel
theorem dX10_sample_52 : decode cX10_sample 52 = .ok (.if_icmp .eq 10, 3) := by decide +kernel
theorem dX10_sample_55 : decode cX10_sample 55 = .ok (.aload_n 0, 1) := by decide +kernel
theorem dX10_sample_56 : decode cX10_sample 56 = .ok (.bipush (-2), 2) := by decide +kernel
theorem dX10_sample_58 : decode cX10_sample 58 = .ok (.invokevirtual 70, 3) := by decide +kernel
theorem dX10_sample_61 : decode cX10_sample 61 = .ok (.ireturn, 1) := by decide +kernel
theorem dX10_sample_62 : decode cX10_sample 62 = .ok (.aload_n 0, 1) := by decide +kernel
theorem dX10_sample_63 : decode cX10_sample 63 = .ok (.getfield 38, 3) := by decide +kernel
theorem dX10_sample_66 : decode cX10_sample 66 = .ok (.aload_n 0, 1) := by decide +kernel
theorem dX10_sample_67 : decode cX10_sample 67 = .ok (.getfield 14, 3) := by decide +kernel
theorem dX10_sample_70 : decode cX10_sample 70 = .ok (.iload_n 2, 1) := by decide +kernel
theorem dX10_sample_71 : decode cX10_sample 71 = .ok (.iload_n 1, 1) := by decide +kernel
theorem dX10_sample_72 : decode cX10_sample 72 = .ok (.invokevirtual 156, 3) := by decide +kernel
theorem dX10_sample_75 : decode cX10_sample 75 = .ok (.i2l, 1) := by decide +kernel
theorem dX10_sample_76 : decode cX10_sample 76 = .ok (.lstore 5, 2) := by decide +kernel
theorem dX10_sample_78 : decode cX10_sample 78 = .ok (.aload_n 0, 1) := by decide +kernel
theorem dX10_sample_79 : decode cX10_sample 79 = .ok (.getfield 45, 3) := by decide +kernel
theorem dX10_sample_82 : decode cX10_sample 82 = .ok (.lload 5, 2) := by decide +kernel
theorem dX10_sample_84 : decode cX10_sample 84 = .ok (.aload_n 0, 1) := by decide +kernel
theorem dX10_sample_85 : decode cX10_sample 85 = .ok (.getfield 14, 3) := by decide +kernel
theorem dX10_sample_88 : decode cX10_sample 88 = .ok (.getfield 74, 3) := by decide +kernel
theorem dX10_sample_91 : decode cX10_sample 91 = .ok (.invokestatic 252, 3) := by decide +kernel
theorem dX10_sample_94 : decode cX10_sample 94 = .ok (.lmul, 1) := by decide +kernel
theorem dX10_sample_95 : decode cX10_sample 95 = .ok (.iload 4, 2) := by decide +kernel
theorem dX10_sample_97 : decode cX10_sample 97 = .ok (.invokestatic 252, 3) := by decide +kernel
theorem dX10_sample_100 : decode cX10_sample 100 = .ok (.invokevirtual 256, 3) := by decide +kernel
theorem dX10_sample_103 : decode cX10_sample 103 = .ok (.iload_n 3, 1) := by decide +kernel
theorem dX10_sample_104 : decode cX10_sample 104 = .ok (.ifCond .ne 13, 3) := by decide +kernel
theorem dX10_sample_107 : decode cX10_sample 107 = .ok (.aload_n 0, 1) := by decide +kernel
theorem dX10_sample_108 : decode cX10_sample 108 = .ok (.getfield 45, 3) := by decide +kernel
theorem dX10_sample_111 : decode cX10_sample 111 = .ok (.getfield 197, 3) := by decide +kernel
theorem dX10_sample_114 : decode cX10_sample 114 = .ok (.goto 10, 3) := by decide +kernel
theorem dX10_sample_117 : decode cX10_sample 117 = .ok (.aload_n 0, 1) := by decide +kernel
theorem dX10_sample_118 : decode cX10_sample 118 = .ok (.getfield 45, 3) := by decide +kernel
theorem dX10_sample_121 : decode cX10_sample 121 = .ok (.getfield 201, 3) := by decide +kernel
theorem dX10_sample_124 : decode cX10_sample 124 = .ok (.l2i, 1) := by decide +kernel
theorem dX10_sample_125 : decode cX10_sample 125 = .ok (.ireturn, 1) := by decide +kernel
theorem dX10_keep_0 : decode cX10_keep 0 = .ok (.iload_n 1, 1) := by decide +kernel
theorem dX10_keep_1 : decode cX10_keep 1 = .ok (.invokestatic 260, 3) := by decide +kernel
theorem dX10_keep_4 : decode cX10_keep 4 = .ok (.ifCond .ne 9, 3) := by decide +kernel
theorem dX10_keep_7 : decode cX10_keep 7 = .ok (.aload_n 0, 1) := by decide +kernel
theorem dX10_keep_8 : decode cX10_keep 8 = .ok (.iconst (-1), 1) := by decide +kernel
theorem dX10_keep_9 : decode cX10_keep 9 = .ok (.invokevirtual 70, 3) := by decide +kernel
theorem dX10_keep_12 : decode cX10_keep 12 = .ok (.ireturn, 1) := by decide +kernel
theorem dX10_keep_13 : decode cX10_keep 13 = .ok (.aload_n 0, 1) := by decide +kernel
theorem dX10_keep_14 : decode cX10_keep 14 = .ok (.getfield 18, 3) := by decide +kernel
theorem dX10_keep_17 : decode cX10_keep 17 = .ok (.iload_n 1, 1) := by decide +kernel
theorem dX10_keep_18 : decode cX10_keep 18 = .ok (.aaload, 1) := by decide +kernel
theorem dX10_keep_19 : decode cX10_keep 19 = .ok (.aload_n 0, 1) := by decide +kernel
theorem dX10_keep_20 : decode cX10_keep 20 = .ok (.getfield 14, 3) := by decide +kernel
theorem dX10_keep_23 : decode cX10_keep 23 = .ok (.invokevirtual 263, 3) := by decide +kernel
theorem dX10_keep_26 : decode cX10_keep 26 = .ok (.aload_n 0, 1) := by decide +kernel
theorem dX10_keep_27 : decode cX10_keep 27 = .ok (.getfield 22, 3) := by decide +kernel
theorem dX10_keep_30 : decode cX10_keep 30 = .ok (.iload_n 1, 1) := by decide +kernel
theorem dX10_keep_31 : decode cX10_keep 31 = .ok (.iconst 1, 1) := by decide +kernel
theorem dX10_keep_32 : decode cX10_keep 32 = .ok (.bastore, 1) := by decide +kernel
theorem dX10_keep_33 : decode cX10_keep 33 = .ok (.aload_n 0, 1) := by decide +kernel
theorem dX10_keep_34 : decode cX10_keep 34 = .ok (.getfield 14, 3) := by decide +kernel
theorem dX10_keep_37 : decode cX10_keep 37 = .ok (.invokevirtual 189, 3) := by decide +kernel
theorem dX10_keep_40 : decode cX10_keep 40 = .ok (.ireturn, 1) := by decide +kernel
theorem dX10_take_0 : decode cX10_take 0 = .ok (.iload_n 1, 1) := by decide +kernel
theorem dX10_take_1 : decode cX10_take 1 = .ok (.invokestatic 260, 3) := by decide +kernel
theorem dX10_take_4 : decode cX10_take 4 = .ok (.ifCond .ne 9, 3) := by decide +kernel
theorem dX10_take_7 : decode cX10_take 7 = .ok (.aload_n 0, 1) := by decide +kernel
theorem dX10_take_8 : decode cX10_take 8 = .ok (.iconst (-1), 1) := by decide +kernel
theorem dX10_take_9 : decode cX10_take 9 = .ok (.invokevirtual 70, 3) := by decide +kernel
theorem dX10_take_12 : decode cX10_take 12 = .ok (.ireturn, 1) := by decide +kernel
theorem dX10_take_13 : decode cX10_take 13 = .ok (.aload_n 0, 1) := by decide +kernel
theorem dX10_take_14 : decode cX10_take 14 = .ok (.getfield 22, 3) := by decide +kernel
theorem dX10_take_17 : decode cX10_take 17 = .ok (.iload_n 1, 1) := by decide +kernel
theorem dX10_take_18 : decode cX10_take 18 = .ok (.baload, 1) := by decide +kernel
theorem dX10_take_19 : decode cX10_take 19 = .ok (.ifCond .ne 10, 3) := by decide +kernel
theorem dX10_take_22 : decode cX10_take 22 = .ok (.aload_n 0, 1) := by decide +kernel
theorem dX10_take_23 : decode cX10_take 23 = .ok (.bipush (-5), 2) := by decide +kernel
theorem dX10_take_25 : decode cX10_take 25 = .ok (.invokevirtual 70, 3) := by decide +kernel
theorem dX10_take_28 : decode cX10_take 28 = .ok (.ireturn, 1) := by decide +kernel
theorem dX10_take_29 : decode cX10_take 29 = .ok (.aload_n 0, 1) := by decide +kernel
theorem dX10_take_30 : decode cX10_take 30 = .ok (.getfield 14, 3) := by decide +kernel
theorem dX10_take_33 : decode cX10_take 33 = .ok (.aload_n 0, 1) := by decide +kernel
theorem dX10_take_34 : decode cX10_take 34 = .ok (.getfield 18, 3) := by decide +kernel
theorem dX10_take_37 : decode cX10_take 37 = .ok (.iload_n 1, 1) := by decide +kernel
theorem dX10_take_38 : decode cX10_take 38 = .ok (.aaload, 1) := by decide +kernel
theorem dX10_take_39 : decode cX10_take 39 = .ok (.invokevirtual 263, 3) := by decide +kernel
theorem dX10_take_42 : decode cX10_take 42 = .ok (.aload_n 0, 1) := by decide +kernel
theorem dX10_take_43 : decode cX10_take 43 = .ok (.getfield 14, 3) := by decide +kernel
theorem dX10_take_46 : decode cX10_take 46 = .ok (.invokevirtual 189, 3) := by decide +kernel
theorem dX10_take_49 : decode cX10_take 49 = .ok (.ireturn, 1) := by decide +kernel
theorem dX10_lose_0 : decode cX10_lose 0 = .ok (.iload_n 1, 1) := by decide +kernel
theorem dX10_lose_1 : decode cX10_lose 1 = .ok (.invokestatic 260, 3) := by decide +kernel
theorem dX10_lose_4 : decode cX10_lose 4 = .ok (.ifCond .ne 9, 3) := by decide +kernel
theorem dX10_lose_7 : decode cX10_lose 7 = .ok (.aload_n 0, 1) := by decide +kernel
theorem dX10_lose_8 : decode cX10_lose 8 = .ok (.iconst (-1), 1) := by decide +kernel
theorem dX10_lose_9 : decode cX10_lose 9 = .ok (.invokevirtual 70, 3) := by decide +kernel
theorem dX10_lose_12 : decode cX10_lose 12 = .ok (.ireturn, 1) := by decide +kernel
theorem dX10_lose_13 : decode cX10_lose 13 = .ok (.aload_n 0, 1) := by decide +kernel
theorem dX10_lose_14 : decode cX10_lose 14 = .ok (.getfield 22, 3) := by decide +kernel
theorem dX10_lose_17 : decode cX10_lose 17 = .ok (.iload_n 1, 1) := by decide +kernel
theorem dX10_lose_18 : decode cX10_lose 18 = .ok (.baload, 1) := by decide +kernel
theorem dX10_lose_19 : decode cX10_lose 19 = .ok (.ifCond .ne 10, 3) := by decide +kernel
theorem dX10_lose_22 : decode cX10_lose 22 = .ok (.aload_n 0, 1) := by decide +kernel
theorem dX10_lose_23 : decode cX10_lose 23 = .ok (.bipush (-5), 2) := by decide +kernel
theorem dX10_lose_25 : decode cX10_lose 25 = .ok (.invokevirtual 70, 3) := by decide +kernel
theorem dX10_lose_28 : decode cX10_lose 28 = .ok (.ireturn, 1) := by decide +kernel
theorem dX10_lose_29 : decode cX10_lose 29 = .ok (.aload_n 0, 1) := by decide +kernel
theorem dX10_lose_30 : decode cX10_lose 30 = .ok (.getfield 22, 3) := by decide +kernel
theorem dX10_lose_33 : decode cX10_lose 33 = .ok (.iload_n 1, 1) := by decide +kernel
theorem dX10_lose_34 : decode cX10_lose 34 = .ok (.iconst 0, 1) := by decide +kernel
theorem dX10_lose_35 : decode cX10_lose 35 = .ok (.bastore, 1) := by decide +kernel
theorem dX10_lose_36 : decode cX10_lose 36 = .ok (.iconst 1, 1) := by decide +kernel
theorem dX10_lose_37 : decode cX10_lose 37 = .ok (.ireturn, 1) := by decide +kernel
theorem dX10_far_0 : decode cX10_far 0 = .ok (.iload_n 1, 1) := by decide +kernel
theorem dX10_far_1 : decode cX10_far 1 = .ok (.invokestatic 260, 3) := by decide +kernel
theorem dX10_far_4 : decode cX10_far 4 = .ok (.ifCond .ne 9, 3) := by decide +kernel
theorem dX10_far_7 : decode cX10_far 7 = .ok (.aload_n 0, 1) := by decide +kernel
theorem dX10_far_8 : decode cX10_far 8 = .ok (.iconst (-1), 1) := by decide +kernel
theorem dX10_far_9 : decode cX10_far 9 = .ok (.invokevirtual 70, 3) := by decide +kernel
theorem dX10_far_12 : decode cX10_far 12 = .ok (.ireturn, 1) := by decide +kernel
theorem dX10_far_13 : decode cX10_far 13 = .ok (.aload_n 0, 1) := by decide +kernel
theorem dX10_far_14 : decode cX10_far 14 = .ok (.getfield 22, 3) := by decide +kernel
theorem dX10_far_17 : decode cX10_far 17 = .ok (.iload_n 1, 1) := by decide +kernel
theorem dX10_far_18 : decode cX10_far 18 = .ok (.baload, 1) := by decide +kernel
theorem dX10_far_19 : decode cX10_far 19 = .ok (.ifCond .ne 10, 3) := by decide +kernel
theorem dX10_far_22 : decode cX10_far 22 = .ok (.aload_n 0, 1) := by decide +kernel
theorem dX10_far_23 : decode cX10_far 23 = .ok (.bipush (-5), 2) := by decide +kernel
theorem dX10_far_25 : decode cX10_far 25 = .ok (.invokevirtual 70, 3) := by decide +kernel
theorem dX10_far_28 : decode cX10_far 28 = .ok (.ireturn, 1) := by decide +kernel
theorem dX10_far_29 : decode cX10_far 29 = .ok (.aload_n 0, 1) := by decide +kernel
theorem dX10_far_30 : decode cX10_far 30 = .ok (.getfield 38, 3) := by decide +kernel
theorem dX10_far_33 : decode cX10_far 33 = .ok (.aload_n 0, 1) := by decide +kernel
theorem dX10_far_34 : decode cX10_far 34 = .ok (.getfield 14, 3) := by decide +kernel
theorem dX10_far_37 : decode cX10_far 37 = .ok (.aload_n 0, 1) := by decide +kernel
theorem dX10_far_38 : decode cX10_far 38 = .ok (.getfield 18, 3) := by decide +kernel
theorem dX10_far_41 : decode cX10_far 41 = .ok (.iload_n 1, 1) := by decide +kernel
theorem dX10_far_42 : decode cX10_far 42 = .ok (.aaload, 1) := by decide +kernel
theorem dX10_far_43 : decode cX10_far 43 = .ok (.invokevirtual 266, 3) := by decide +kernel
theorem dX10_far_46 : decode cX10_far 46 = .ok (.ireturn, 1) := by decide +kernel
theorem dX10_status_0 : decode cX10_status 0 = .ok (.iload_n 1, 1) := by decide +kernel
theorem dX10_status_1 : decode cX10_status 1 = .ok (.tableswitch 105 0 6 #[43, 51, 59, 67, 75, 80, 93], 43) := by decide +kernel
theorem dX10_status_44 : decode cX10_status 44 = .ok (.aload_n 0, 1) := by decide +kernel
theorem dX10_status_45 : decode cX10_status 45 = .ok (.getfield 14, 3) := by decide +kernel
theorem dX10_status_48 : decode cX10_status 48 = .ok (.getfield 74, 3) := by decide +kernel
theorem dX10_status_51 : decode cX10_status 51 = .ok (.ireturn, 1) := by decide +kernel
theorem dX10_status_52 : decode cX10_status 52 = .ok (.aload_n 0, 1) := by decide +kernel
theorem dX10_status_53 : decode cX10_status 53 = .ok (.getfield 14, 3) := by decide +kernel
theorem dX10_status_56 : decode cX10_status 56 = .ok (.invokevirtual 189, 3) := by decide +kernel
theorem dX10_status_59 : decode cX10_status 59 = .ok (.ireturn, 1) := by decide +kernel
theorem dX10_status_60 : decode cX10_status 60 = .ok (.aload_n 0, 1) := by decide +kernel
theorem dX10_status_61 : decode cX10_status 61 = .ok (.getfield 14, 3) := by decide +kernel
theorem dX10_status_64 : decode cX10_status 64 = .ok (.invokevirtual 270, 3) := by decide +kernel
theorem dX10_status_67 : decode cX10_status 67 = .ok (.ireturn, 1) := by decide +kernel
theorem dX10_status_68 : decode cX10_status 68 = .ok (.aload_n 0, 1) := by decide +kernel
theorem dX10_status_69 : decode cX10_status 69 = .ok (.getfield 14, 3) := by decide +kernel
theorem dX10_status_72 : decode cX10_status 72 = .ok (.invokevirtual 273, 3) := by decide +kernel
theorem dX10_status_75 : decode cX10_status 75 = .ok (.ireturn, 1) := by decide +kernel
theorem dX10_status_76 : decode cX10_status 76 = .ok (.aload_n 0, 1) := by decide +kernel
theorem dX10_status_77 : decode cX10_status 77 = .ok (.invokevirtual 276, 3) := by decide +kernel
theorem dX10_status_80 : decode cX10_status 80 = .ok (.ireturn, 1) := by decide +kernel
theorem dX10_status_81 : decode cX10_status 81 = .ok (.aload_n 0, 1) := by decide +kernel
theorem dX10_status_82 : decode cX10_status 82 = .ok (.getfield 14, 3) := by decide +kernel
theorem dX10_status_85 : decode cX10_status 85 = .ok (.getfield 279, 3) := by decide +kernel
theorem dX10_status_88 : decode cX10_status 88 = .ok (.iconst 0, 1) := by decide +kernel
theorem dX10_status_89 : decode cX10_status 89 = .ok (.iaload, 1) := by decide +kernel
theorem dX10_status_90 : decode cX10_status 90 = .ok (.invokestatic 247, 3) := by decide +kernel
theorem dX10_status_93 : decode cX10_status 93 = .ok (.ireturn, 1) := by decide +kernel
theorem dX10_status_94 : decode cX10_status 94 = .ok (.aload_n 0, 1) := by decide +kernel
theorem dX10_status_95 : decode cX10_status 95 = .ok (.getfield 14, 3) := by decide +kernel
theorem dX10_status_98 : decode cX10_status 98 = .ok (.iconst 0, 1) := by decide +kernel
theorem dX10_status_99 : decode cX10_status 99 = .ok (.invokevirtual 282, 3) := by decide +kernel
theorem dX10_status_102 : decode cX10_status 102 = .ok (.invokestatic 247, 3) := by decide +kernel
theorem dX10_status_105 : decode cX10_status 105 = .ok (.ireturn, 1) := by decide +kernel
theorem dX10_status_106 : decode cX10_status 106 = .ok (.aload_n 0, 1) := by decide +kernel
theorem dX10_status_107 : decode cX10_status 107 = .ok (.iload_n 1, 1) := by decide +kernel
theorem dX10_status_108 : decode cX10_status 108 = .ok (.invokevirtual 285, 3) := by decide +kernel
theorem dX10_status_111 : decode cX10_status 111 = .ok (.ireturn, 1) := by decide +kernel
theorem dX10_refuse_0 : decode cX10_refuse 0 = .ok (.iconst (-1), 1) := by decide +kernel
theorem dX10_refuse_1 : decode cX10_refuse 1 = .ok (.iload_n 1, 1) := by decide +kernel
theorem dX10_refuse_2 : decode cX10_refuse 2 = .ok (.isub, 1) := by decide +kernel
theorem dX10_refuse_3 : decode cX10_refuse 3 = .ok (.istore_n 2, 1) := by decide +kernel
theorem dX10_refuse_4 : decode cX10_refuse 4 = .ok (.iload_n 2, 1) := by decide +kernel
theorem dX10_refuse_5 : decode cX10_refuse 5 = .ok (.ifCond .lt 19, 3) := by decide +kernel
theorem dX10_refuse_8 : decode cX10_refuse 8 = .ok (.iload_n 2, 1) := by decide +kernel
theorem dX10_refuse_9 : decode cX10_refuse 9 = .ok (.bipush 6, 2) := by decide +kernel
theorem dX10_refuse_11 : decode cX10_refuse 11 = .ok (.if_icmp .ge 13, 3) := by decide +kernel
theorem dX10_refuse_14 : decode cX10_refuse 14 = .ok (.aload_n 0, 1) := by decide +kernel
theorem dX10_refuse_15 : decode cX10_refuse 15 = .ok (.getfield 26, 3) := by decide +kernel
theorem dX10_refuse_18 : decode cX10_refuse 18 = .ok (.iload_n 2, 1) := by decide +kernel
theorem dX10_refuse_19 : decode cX10_refuse 19 = .ok (.dup2, 1) := by decide +kernel
theorem dX10_refuse_20 : decode cX10_refuse 20 = .ok (.iaload, 1) := by decide +kernel
theorem dX10_refuse_21 : decode cX10_refuse 21 = .ok (.iconst 1, 1) := by decide +kernel
theorem dX10_refuse_22 : decode cX10_refuse 22 = .ok (.iadd, 1) := by decide +kernel
theorem dX10_refuse_23 : decode cX10_refuse 23 = .ok (.iastore, 1) := by decide +kernel
theorem dX10_refuse_24 : decode cX10_refuse 24 = .ok (.iload_n 1, 1) := by decide +kernel
theorem dX10_refuse_25 : decode cX10_refuse 25 = .ok (.ireturn, 1) := by decide +kernel
theorem dX10_refusalCount_0 : decode cX10_refusalCount 0 = .ok (.iload_n 1, 1) := by decide +kernel
theorem dX10_refusalCount_1 : decode cX10_refusalCount 1 = .ok (.bipush 11, 2) := by decide +kernel
theorem dX10_refusalCount_3 : decode cX10_refusalCount 3 = .ok (.if_icmp .lt 9, 3) := by decide +kernel
theorem dX10_refusalCount_6 : decode cX10_refusalCount 6 = .ok (.iload_n 1, 1) := by decide +kernel
theorem dX10_refusalCount_7 : decode cX10_refusalCount 7 = .ok (.bipush 17, 2) := by decide +kernel
theorem dX10_refusalCount_9 : decode cX10_refusalCount 9 = .ok (.if_icmp .lt 6, 3) := by decide +kernel
theorem dX10_refusalCount_12 : decode cX10_refusalCount 12 = .ok (.bipush (-9), 2) := by decide +kernel
theorem dX10_refusalCount_14 : decode cX10_refusalCount 14 = .ok (.ireturn, 1) := by decide +kernel
theorem dX10_refusalCount_15 : decode cX10_refusalCount 15 = .ok (.aload_n 0, 1) := by decide +kernel
theorem dX10_refusalCount_16 : decode cX10_refusalCount 16 = .ok (.getfield 26, 3) := by decide +kernel
theorem dX10_refusalCount_19 : decode cX10_refusalCount 19 = .ok (.iload_n 1, 1) := by decide +kernel
theorem dX10_refusalCount_20 : decode cX10_refusalCount 20 = .ok (.bipush 11, 2) := by decide +kernel
theorem dX10_refusalCount_22 : decode cX10_refusalCount 22 = .ok (.isub, 1) := by decide +kernel
theorem dX10_refusalCount_23 : decode cX10_refusalCount 23 = .ok (.iaload, 1) := by decide +kernel
theorem dX10_refusalCount_24 : decode cX10_refusalCount 24 = .ok (.ireturn, 1) := by decide +kernel
theorem dX10_isPost_0 : decode cX10_isPost 0 = .ok (.iload_n 1, 1) := by decide +kernel
theorem dX10_isPost_1 : decode cX10_isPost 1 = .ok (.ifCond .lt 18, 3) := by decide +kernel
theorem dX10_isPost_4 : decode cX10_isPost 4 = .ok (.iload_n 1, 1) := by decide +kernel
theorem dX10_isPost_5 : decode cX10_isPost 5 = .ok (.aload_n 0, 1) := by decide +kernel
theorem dX10_isPost_6 : decode cX10_isPost 6 = .ok (.getfield 14, 3) := by decide +kernel
theorem dX10_isPost_9 : decode cX10_isPost 9 = .ok (.getfield 74, 3) := by decide +kernel
theorem dX10_isPost_12 : decode cX10_isPost 12 = .ok (.if_icmp .ge 7, 3) := by decide +kernel
theorem dX10_isPost_15 : decode cX10_isPost 15 = .ok (.iconst 1, 1) := by decide +kernel
theorem dX10_isPost_16 : decode cX10_isPost 16 = .ok (.goto 4, 3) := by decide +kernel
theorem dX10_isPost_19 : decode cX10_isPost 19 = .ok (.iconst 0, 1) := by decide +kernel
theorem dX10_isPost_20 : decode cX10_isPost 20 = .ok (.ireturn, 1) := by decide +kernel
theorem dX10_isTwo_0 : decode cX10_isTwo 0 = .ok (.aload_n 0, 1) := by decide +kernel
theorem dX10_isTwo_1 : decode cX10_isTwo 1 = .ok (.iload_n 1, 1) := by decide +kernel
theorem dX10_isTwo_2 : decode cX10_isTwo 2 = .ok (.invokevirtual 160, 3) := by decide +kernel
theorem dX10_isTwo_5 : decode cX10_isTwo 5 = .ok (.ifCond .eq 20, 3) := by decide +kernel
theorem dX10_isTwo_8 : decode cX10_isTwo 8 = .ok (.aload_n 0, 1) := by decide +kernel
theorem dX10_isTwo_9 : decode cX10_isTwo 9 = .ok (.iload_n 2, 1) := by decide +kernel
theorem dX10_isTwo_10 : decode cX10_isTwo 10 = .ok (.invokevirtual 160, 3) := by decide +kernel
theorem dX10_isTwo_13 : decode cX10_isTwo 13 = .ok (.ifCond .eq 12, 3) := by decide +kernel
theorem dX10_isTwo_16 : decode cX10_isTwo 16 = .ok (.iload_n 1, 1) := by decide +kernel
theorem dX10_isTwo_17 : decode cX10_isTwo 17 = .ok (.iload_n 2, 1) := by decide +kernel
theorem dX10_isTwo_18 : decode cX10_isTwo 18 = .ok (.if_icmp .eq 7, 3) := by decide +kernel
theorem dX10_isTwo_21 : decode cX10_isTwo 21 = .ok (.iconst 1, 1) := by decide +kernel
theorem dX10_isTwo_22 : decode cX10_isTwo 22 = .ok (.goto 4, 3) := by decide +kernel
theorem dX10_isTwo_25 : decode cX10_isTwo 25 = .ok (.iconst 0, 1) := by decide +kernel
theorem dX10_isTwo_26 : decode cX10_isTwo 26 = .ok (.ireturn, 1) := by decide +kernel
theorem dX10_isThree_0 : decode cX10_isThree 0 = .ok (.aload_n 0, 1) := by decide +kernel
theorem dX10_isThree_1 : decode cX10_isThree 1 = .ok (.iload_n 1, 1) := by decide +kernel
theorem dX10_isThree_2 : decode cX10_isThree 2 = .ok (.iload_n 2, 1) := by decide +kernel
theorem dX10_isThree_3 : decode cX10_isThree 3 = .ok (.invokevirtual 81, 3) := by decide +kernel
theorem dX10_isThree_6 : decode cX10_isThree 6 = .ok (.ifCond .eq 21, 3) := by decide +kernel
theorem dX10_isThree_9 : decode cX10_isThree 9 = .ok (.aload_n 0, 1) := by decide +kernel
theorem dX10_isThree_10 : decode cX10_isThree 10 = .ok (.iload_n 1, 1) := by decide +kernel
theorem dX10_isThree_11 : decode cX10_isThree 11 = .ok (.iload_n 3, 1) := by decide +kernel
theorem dX10_isThree_12 : decode cX10_isThree 12 = .ok (.invokevirtual 81, 3) := by decide +kernel
theorem dX10_isThree_15 : decode cX10_isThree 15 = .ok (.ifCond .eq 12, 3) := by decide +kernel
theorem dX10_isThree_18 : decode cX10_isThree 18 = .ok (.iload_n 2, 1) := by decide +kernel
theorem dX10_isThree_19 : decode cX10_isThree 19 = .ok (.iload_n 3, 1) := by decide +kernel
theorem dX10_isThree_20 : decode cX10_isThree 20 = .ok (.if_icmp .eq 7, 3) := by decide +kernel
theorem dX10_isThree_23 : decode cX10_isThree 23 = .ok (.iconst 1, 1) := by decide +kernel
theorem dX10_isThree_24 : decode cX10_isThree 24 = .ok (.goto 4, 3) := by decide +kernel
theorem dX10_isThree_27 : decode cX10_isThree 27 = .ok (.iconst 0, 1) := by decide +kernel
theorem dX10_isThree_28 : decode cX10_isThree 28 = .ok (.ireturn, 1) := by decide +kernel
theorem dX10_isLink_0 : decode cX10_isLink 0 = .ok (.iload_n 1, 1) := by decide +kernel
theorem dX10_isLink_1 : decode cX10_isLink 1 = .ok (.ifCond .lt 18, 3) := by decide +kernel
theorem dX10_isLink_4 : decode cX10_isLink 4 = .ok (.iload_n 1, 1) := by decide +kernel
theorem dX10_isLink_5 : decode cX10_isLink 5 = .ok (.aload_n 0, 1) := by decide +kernel
theorem dX10_isLink_6 : decode cX10_isLink 6 = .ok (.getfield 14, 3) := by decide +kernel
theorem dX10_isLink_9 : decode cX10_isLink 9 = .ok (.invokevirtual 189, 3) := by decide +kernel
theorem dX10_isLink_12 : decode cX10_isLink 12 = .ok (.if_icmp .ge 7, 3) := by decide +kernel
theorem dX10_isLink_15 : decode cX10_isLink 15 = .ok (.iconst 1, 1) := by decide +kernel
theorem dX10_isLink_16 : decode cX10_isLink 16 = .ok (.goto 4, 3) := by decide +kernel
theorem dX10_isLink_19 : decode cX10_isLink 19 = .ok (.iconst 0, 1) := by decide +kernel
theorem dX10_isLink_20 : decode cX10_isLink 20 = .ok (.ireturn, 1) := by decide +kernel
theorem dX10_isShape_0 : decode cX10_isShape 0 = .ok (.iload_n 0, 1) := by decide +kernel
theorem dX10_isShape_1 : decode cX10_isShape 1 = .ok (.ifCond .lt 13, 3) := by decide +kernel
theorem dX10_isShape_4 : decode cX10_isShape 4 = .ok (.iload_n 0, 1) := by decide +kernel
theorem dX10_isShape_5 : decode cX10_isShape 5 = .ok (.bipush 16, 2) := by decide +kernel
theorem dX10_isShape_7 : decode cX10_isShape 7 = .ok (.if_icmp .ge 7, 3) := by decide +kernel
theorem dX10_isShape_10 : decode cX10_isShape 10 = .ok (.iconst 1, 1) := by decide +kernel
theorem dX10_isShape_11 : decode cX10_isShape 11 = .ok (.goto 4, 3) := by decide +kernel
theorem dX10_isShape_14 : decode cX10_isShape 14 = .ok (.iconst 0, 1) := by decide +kernel
theorem dX10_isShape_15 : decode cX10_isShape 15 = .ok (.ireturn, 1) := by decide +kernel
theorem dX10_isSheet_0 : decode cX10_isSheet 0 = .ok (.iload_n 0, 1) := by decide +kernel
theorem dX10_isSheet_1 : decode cX10_isSheet 1 = .ok (.ifCond .lt 12, 3) := by decide +kernel
theorem dX10_isSheet_4 : decode cX10_isSheet 4 = .ok (.iload_n 0, 1) := by decide +kernel
theorem dX10_isSheet_5 : decode cX10_isSheet 5 = .ok (.iconst 4, 1) := by decide +kernel
theorem dX10_isSheet_6 : decode cX10_isSheet 6 = .ok (.if_icmp .ge 7, 3) := by decide +kernel
theorem dX10_isSheet_9 : decode cX10_isSheet 9 = .ok (.iconst 1, 1) := by decide +kernel
theorem dX10_isSheet_10 : decode cX10_isSheet 10 = .ok (.goto 4, 3) := by decide +kernel
theorem dX10_isSheet_13 : decode cX10_isSheet 13 = .ok (.iconst 0, 1) := by decide +kernel
theorem dX10_isSheet_14 : decode cX10_isSheet 14 = .ok (.ireturn, 1) := by decide +kernel
theorem dX10_heldCount_0 : decode cX10_heldCount 0 = .ok (.iconst 0, 1) := by decide +kernel
theorem dX10_heldCount_1 : decode cX10_heldCount 1 = .ok (.istore_n 1, 1) := by decide +kernel
theorem dX10_heldCount_2 : decode cX10_heldCount 2 = .ok (.iconst 0, 1) := by decide +kernel
theorem dX10_heldCount_3 : decode cX10_heldCount 3 = .ok (.istore_n 2, 1) := by decide +kernel
theorem dX10_heldCount_4 : decode cX10_heldCount 4 = .ok (.iload_n 2, 1) := by decide +kernel
theorem dX10_heldCount_5 : decode cX10_heldCount 5 = .ok (.iconst 4, 1) := by decide +kernel
theorem dX10_heldCount_6 : decode cX10_heldCount 6 = .ok (.if_icmp .ge 21, 3) := by decide +kernel
theorem dX10_heldCount_9 : decode cX10_heldCount 9 = .ok (.aload_n 0, 1) := by decide +kernel
theorem dX10_heldCount_10 : decode cX10_heldCount 10 = .ok (.getfield 22, 3) := by decide +kernel
theorem dX10_heldCount_13 : decode cX10_heldCount 13 = .ok (.iload_n 2, 1) := by decide +kernel
theorem dX10_heldCount_14 : decode cX10_heldCount 14 = .ok (.baload, 1) := by decide +kernel
theorem dX10_heldCount_15 : decode cX10_heldCount 15 = .ok (.ifCond .eq 6, 3) := by decide +kernel
theorem dX10_heldCount_18 : decode cX10_heldCount 18 = .ok (.iinc 1 1, 3) := by decide +kernel
theorem dX10_heldCount_21 : decode cX10_heldCount 21 = .ok (.iinc 2 1, 3) := by decide +kernel
theorem dX10_heldCount_24 : decode cX10_heldCount 24 = .ok (.goto (-20), 3) := by decide +kernel
theorem dX10_heldCount_27 : decode cX10_heldCount 27 = .ok (.iload_n 1, 1) := by decide +kernel
theorem dX10_heldCount_28 : decode cX10_heldCount 28 = .ok (.ireturn, 1) := by decide +kernel
theorem dX10_threesAmong_0 : decode cX10_threesAmong 0 = .ok (.iload_n 0, 1) := by decide +kernel
theorem dX10_threesAmong_1 : decode cX10_threesAmong 1 = .ok (.i2l, 1) := by decide +kernel
theorem dX10_threesAmong_2 : decode cX10_threesAmong 2 = .ok (.iload_n 0, 1) := by decide +kernel
theorem dX10_threesAmong_3 : decode cX10_threesAmong 3 = .ok (.iconst 1, 1) := by decide +kernel
theorem dX10_threesAmong_4 : decode cX10_threesAmong 4 = .ok (.isub, 1) := by decide +kernel
theorem dX10_threesAmong_5 : decode cX10_threesAmong 5 = .ok (.i2l, 1) := by decide +kernel
theorem dX10_threesAmong_6 : decode cX10_threesAmong 6 = .ok (.lmul, 1) := by decide +kernel
theorem dX10_threesAmong_7 : decode cX10_threesAmong 7 = .ok (.iload_n 0, 1) := by decide +kernel
theorem dX10_threesAmong_8 : decode cX10_threesAmong 8 = .ok (.iconst 2, 1) := by decide +kernel
theorem dX10_threesAmong_9 : decode cX10_threesAmong 9 = .ok (.isub, 1) := by decide +kernel
theorem dX10_threesAmong_10 : decode cX10_threesAmong 10 = .ok (.i2l, 1) := by decide +kernel
theorem dX10_threesAmong_11 : decode cX10_threesAmong 11 = .ok (.lmul, 1) := by decide +kernel
theorem dX10_threesAmong_12 : decode cX10_threesAmong 12 = .ok (.ldc2_w 288, 3) := by decide +kernel
theorem dX10_threesAmong_15 : decode cX10_threesAmong 15 = .ok (.ldiv, 1) := by decide +kernel
theorem dX10_threesAmong_16 : decode cX10_threesAmong 16 = .ok (.lreturn, 1) := by decide +kernel
theorem dX10_findMean_0 : decode cX10_findMean 0 = .ok (.aload_n 0, 1) := by decide +kernel
theorem dX10_findMean_1 : decode cX10_findMean 1 = .ok (.getfield 14, 3) := by decide +kernel
theorem dX10_findMean_4 : decode cX10_findMean 4 = .ok (.getfield 74, 3) := by decide +kernel
theorem dX10_findMean_7 : decode cX10_findMean 7 = .ok (.aload_n 0, 1) := by decide +kernel
theorem dX10_findMean_8 : decode cX10_findMean 8 = .ok (.getfield 14, 3) := by decide +kernel
theorem dX10_findMean_11 : decode cX10_findMean 11 = .ok (.getfield 74, 3) := by decide +kernel
theorem dX10_findMean_14 : decode cX10_findMean 14 = .ok (.iconst 1, 1) := by decide +kernel
theorem dX10_findMean_15 : decode cX10_findMean 15 = .ok (.isub, 1) := by decide +kernel
theorem dX10_findMean_16 : decode cX10_findMean 16 = .ok (.imul, 1) := by decide +kernel
theorem dX10_findMean_17 : decode cX10_findMean 17 = .ok (.istore_n 2, 1) := by decide +kernel
theorem dX10_findMean_18 : decode cX10_findMean 18 = .ok (.aload_n 0, 1) := by decide +kernel
theorem dX10_findMean_19 : decode cX10_findMean 19 = .ok (.getfield 14, 3) := by decide +kernel
theorem dX10_findMean_22 : decode cX10_findMean 22 = .ok (.invokevirtual 189, 3) := by decide +kernel
theorem dX10_findMean_25 : decode cX10_findMean 25 = .ok (.istore_n 3, 1) := by decide +kernel
theorem dX10_findMean_26 : decode cX10_findMean 26 = .ok (.aload_n 0, 1) := by decide +kernel
theorem dX10_findMean_27 : decode cX10_findMean 27 = .ok (.getfield 38, 3) := by decide +kernel
theorem dX10_findMean_30 : decode cX10_findMean 30 = .ok (.getfield 123, 3) := by decide +kernel
theorem dX10_findMean_33 : decode cX10_findMean 33 = .ok (.iload_n 1, 1) := by decide +kernel
theorem dX10_findMean_34 : decode cX10_findMean 34 = .ok (.invokevirtual 143, 3) := by decide +kernel
theorem dX10_findMean_37 : decode cX10_findMean 37 = .ok (.istore 4, 2) := by decide +kernel
theorem dX10_findMean_39 : decode cX10_findMean 39 = .ok (.aload_n 0, 1) := by decide +kernel
theorem dX10_findMean_40 : decode cX10_findMean 40 = .ok (.getfield 14, 3) := by decide +kernel
theorem dX10_findMean_43 : decode cX10_findMean 43 = .ok (.getfield 74, 3) := by decide +kernel
theorem dX10_findMean_46 : decode cX10_findMean 46 = .ok (.invokestatic 252, 3) := by decide +kernel
theorem dX10_findMean_49 : decode cX10_findMean 49 = .ok (.aload_n 0, 1) := by decide +kernel
theorem dX10_findMean_50 : decode cX10_findMean 50 = .ok (.getfield 38, 3) := by decide +kernel
theorem dX10_findMean_53 : decode cX10_findMean 53 = .ok (.getfield 123, 3) := by decide +kernel
theorem dX10_findMean_56 : decode cX10_findMean 56 = .ok (.getfield 140, 3) := by decide +kernel
theorem dX10_findMean_59 : decode cX10_findMean 59 = .ok (.iload_n 1, 1) := by decide +kernel
theorem dX10_findMean_60 : decode cX10_findMean 60 = .ok (.iaload, 1) := by decide +kernel
theorem dX10_findMean_61 : decode cX10_findMean 61 = .ok (.i2l, 1) := by decide +kernel
theorem dX10_findMean_62 : decode cX10_findMean 62 = .ok (.lmul, 1) := by decide +kernel
theorem dX10_findMean_63 : decode cX10_findMean 63 = .ok (.lstore 5, 2) := by decide +kernel
theorem dX10_findMean_65 : decode cX10_findMean 65 = .ok (.lload 5, 2) := by decide +kernel
theorem dX10_findMean_67 : decode cX10_findMean 67 = .ok (.iload_n 3, 1) := by decide +kernel
theorem dX10_findMean_68 : decode cX10_findMean 68 = .ok (.iload 4, 2) := by decide +kernel
theorem dX10_findMean_70 : decode cX10_findMean 70 = .ok (.invokestatic 290, 3) := by decide +kernel
theorem dX10_findMean_73 : decode cX10_findMean 73 = .ok (.lmul, 1) := by decide +kernel
theorem dX10_findMean_74 : decode cX10_findMean 74 = .ok (.lstore 5, 2) := by decide +kernel
theorem dX10_findMean_76 : decode cX10_findMean 76 = .ok (.lload 5, 2) := by decide +kernel
theorem dX10_findMean_78 : decode cX10_findMean 78 = .ok (.iload_n 2, 1) := by decide +kernel
theorem dX10_findMean_79 : decode cX10_findMean 79 = .ok (.iload_n 3, 1) := by decide +kernel
theorem dX10_findMean_80 : decode cX10_findMean 80 = .ok (.isub, 1) := by decide +kernel
theorem dX10_findMean_81 : decode cX10_findMean 81 = .ok (.bipush 6, 2) := by decide +kernel
theorem dX10_findMean_83 : decode cX10_findMean 83 = .ok (.iload 4, 2) := by decide +kernel
theorem dX10_findMean_85 : decode cX10_findMean 85 = .ok (.isub, 1) := by decide +kernel
theorem dX10_findMean_86 : decode cX10_findMean 86 = .ok (.invokestatic 290, 3) := by decide +kernel
theorem dX10_findMean_89 : decode cX10_findMean 89 = .ok (.lmul, 1) := by decide +kernel
theorem dX10_findMean_90 : decode cX10_findMean 90 = .ok (.lstore 5, 2) := by decide +kernel
theorem dX10_findMean_92 : decode cX10_findMean 92 = .ok (.aload_n 0, 1) := by decide +kernel
theorem dX10_findMean_93 : decode cX10_findMean 93 = .ok (.getfield 45, 3) := by decide +kernel
theorem dX10_findMean_96 : decode cX10_findMean 96 = .ok (.lload 5, 2) := by decide +kernel
theorem dX10_findMean_98 : decode cX10_findMean 98 = .ok (.iload_n 2, 1) := by decide +kernel
theorem dX10_findMean_99 : decode cX10_findMean 99 = .ok (.bipush 6, 2) := by decide +kernel
theorem dX10_findMean_101 : decode cX10_findMean 101 = .ok (.invokestatic 290, 3) := by decide +kernel
theorem dX10_findMean_104 : decode cX10_findMean 104 = .ok (.invokevirtual 256, 3) := by decide +kernel
theorem dX10_findMean_107 : decode cX10_findMean 107 = .ok (.return_, 1) := by decide +kernel
theorem dX10_factorsDown_0 : decode cX10_factorsDown 0 = .ok (.lconst 1, 1) := by decide +kernel
theorem dX10_factorsDown_1 : decode cX10_factorsDown 1 = .ok (.lstore_n 2, 1) := by decide +kernel
theorem dX10_factorsDown_2 : decode cX10_factorsDown 2 = .ok (.iconst 0, 1) := by decide +kernel
theorem dX10_factorsDown_3 : decode cX10_factorsDown 3 = .ok (.istore 4, 2) := by decide +kernel
theorem dX10_factorsDown_5 : decode cX10_factorsDown 5 = .ok (.iload 4, 2) := by decide +kernel
theorem dX10_factorsDown_7 : decode cX10_factorsDown 7 = .ok (.iload_n 1, 1) := by decide +kernel
theorem dX10_factorsDown_8 : decode cX10_factorsDown 8 = .ok (.if_icmp .ge 21, 3) := by decide +kernel
theorem dX10_factorsDown_11 : decode cX10_factorsDown 11 = .ok (.lload_n 2, 1) := by decide +kernel
theorem dX10_factorsDown_12 : decode cX10_factorsDown 12 = .ok (.iconst 0, 1) := by decide +kernel
theorem dX10_factorsDown_13 : decode cX10_factorsDown 13 = .ok (.iload_n 0, 1) := by decide +kernel
theorem dX10_factorsDown_14 : decode cX10_factorsDown 14 = .ok (.iload 4, 2) := by decide +kernel
theorem dX10_factorsDown_16 : decode cX10_factorsDown 16 = .ok (.isub, 1) := by decide +kernel
theorem dX10_factorsDown_17 : decode cX10_factorsDown 17 = .ok (.invokestatic 294, 3) := by decide +kernel
theorem dX10_factorsDown_20 : decode cX10_factorsDown 20 = .ok (.i2l, 1) := by decide +kernel
theorem dX10_factorsDown_21 : decode cX10_factorsDown 21 = .ok (.lmul, 1) := by decide +kernel
theorem dX10_factorsDown_22 : decode cX10_factorsDown 22 = .ok (.lstore_n 2, 1) := by decide +kernel
theorem dX10_factorsDown_23 : decode cX10_factorsDown 23 = .ok (.iinc 4 1, 3) := by decide +kernel
theorem dX10_factorsDown_26 : decode cX10_factorsDown 26 = .ok (.goto (-21), 3) := by decide +kernel
theorem dX10_factorsDown_29 : decode cX10_factorsDown 29 = .ok (.lload_n 2, 1) := by decide +kernel
theorem dX10_factorsDown_30 : decode cX10_factorsDown 30 = .ok (.lreturn, 1) := by decide +kernel
theorem dX11_init_0 : decode cX11_init 0 = .ok (.aload_n 0, 1) := by decide +kernel
theorem dX11_init_1 : decode cX11_init 1 = .ok (.invokespecial 1, 3) := by decide +kernel
theorem dX11_init_4 : decode cX11_init 4 = .ok (.aload_n 0, 1) := by decide +kernel
theorem dX11_init_5 : decode cX11_init 5 = .ok (.bipush 6, 2) := by decide +kernel
theorem dX11_init_7 : decode cX11_init 7 = .ok (.putfield 7, 3) := by decide +kernel
theorem dX11_init_10 : decode cX11_init 10 = .ok (.aload_n 0, 1) := by decide +kernel
theorem dX11_init_11 : decode cX11_init 11 = .ok (.sipush 256, 3) := by decide +kernel
theorem dX11_init_14 : decode cX11_init 14 = .ok (.newarray .boolean, 2) := by decide +kernel
theorem dX11_init_16 : decode cX11_init 16 = .ok (.putfield 13, 3) := by decide +kernel
theorem dX11_init_19 : decode cX11_init 19 = .ok (.aload_n 0, 1) := by decide +kernel
theorem dX11_init_20 : decode cX11_init 20 = .ok (.sipush 256, 3) := by decide +kernel
theorem dX11_init_23 : decode cX11_init 23 = .ok (.newarray .int, 2) := by decide +kernel
theorem dX11_init_25 : decode cX11_init 25 = .ok (.putfield 17, 3) := by decide +kernel
theorem dX11_init_28 : decode cX11_init 28 = .ok (.aload_n 0, 1) := by decide +kernel
theorem dX11_init_29 : decode cX11_init 29 = .ok (.sipush 256, 3) := by decide +kernel
theorem dX11_init_32 : decode cX11_init 32 = .ok (.newarray .int, 2) := by decide +kernel
theorem dX11_init_34 : decode cX11_init 34 = .ok (.putfield 21, 3) := by decide +kernel
theorem dX11_init_37 : decode cX11_init 37 = .ok (.aload_n 0, 1) := by decide +kernel
theorem dX11_init_38 : decode cX11_init 38 = .ok (.iconst 1, 1) := by decide +kernel
theorem dX11_init_39 : decode cX11_init 39 = .ok (.putfield 24, 3) := by decide +kernel
theorem dX11_init_42 : decode cX11_init 42 = .ok (.aload_n 0, 1) := by decide +kernel
theorem dX11_init_43 : decode cX11_init 43 = .ok (.iconst 4, 1) := by decide +kernel
theorem dX11_init_44 : decode cX11_init 44 = .ok (.newarray .int, 2) := by decide +kernel
theorem dX11_init_46 : decode cX11_init 46 = .ok (.putfield 27, 3) := by decide +kernel
theorem dX11_init_49 : decode cX11_init 49 = .ok (.aload_n 0, 1) := by decide +kernel
theorem dX11_init_50 : decode cX11_init 50 = .ok (.sipush 1024, 3) := by decide +kernel
theorem dX11_init_53 : decode cX11_init 53 = .ok (.newarray .boolean, 2) := by decide +kernel
theorem dX11_init_55 : decode cX11_init 55 = .ok (.putfield 30, 3) := by decide +kernel
theorem dX11_init_58 : decode cX11_init 58 = .ok (.aload_n 0, 1) := by decide +kernel
theorem dX11_init_59 : decode cX11_init 59 = .ok (.sipush 1024, 3) := by decide +kernel
theorem dX11_init_62 : decode cX11_init 62 = .ok (.newarray .int, 2) := by decide +kernel
theorem dX11_init_64 : decode cX11_init 64 = .ok (.putfield 33, 3) := by decide +kernel
theorem dX11_init_67 : decode cX11_init 67 = .ok (.aload_n 0, 1) := by decide +kernel
theorem dX11_init_68 : decode cX11_init 68 = .ok (.sipush 1024, 3) := by decide +kernel
theorem dX11_init_71 : decode cX11_init 71 = .ok (.newarray .int, 2) := by decide +kernel
theorem dX11_init_73 : decode cX11_init 73 = .ok (.putfield 36, 3) := by decide +kernel
theorem dX11_init_76 : decode cX11_init 76 = .ok (.aload_n 0, 1) := by decide +kernel
theorem dX11_init_77 : decode cX11_init 77 = .ok (.bipush 7, 2) := by decide +kernel
theorem dX11_init_79 : decode cX11_init 79 = .ok (.newarray .int, 2) := by decide +kernel
theorem dX11_init_81 : decode cX11_init 81 = .ok (.putfield 39, 3) := by decide +kernel
theorem dX11_init_84 : decode cX11_init 84 = .ok (.aload_n 0, 1) := by decide +kernel
theorem dX11_init_85 : decode cX11_init 85 = .ok (.bipush 64, 2) := by decide +kernel
theorem dX11_init_87 : decode cX11_init 87 = .ok (.newarray .int, 2) := by decide +kernel
theorem dX11_init_89 : decode cX11_init 89 = .ok (.putfield 42, 3) := by decide +kernel
theorem dX11_init_92 : decode cX11_init 92 = .ok (.aload_n 0, 1) := by decide +kernel
theorem dX11_init_93 : decode cX11_init 93 = .ok (.bipush 16, 2) := by decide +kernel
theorem dX11_init_95 : decode cX11_init 95 = .ok (.newarray .int, 2) := by decide +kernel
theorem dX11_init_97 : decode cX11_init 97 = .ok (.putfield 45, 3) := by decide +kernel
theorem dX11_init_100 : decode cX11_init 100 = .ok (.aload_n 0, 1) := by decide +kernel
theorem dX11_init_101 : decode cX11_init 101 = .ok (.bipush 64, 2) := by decide +kernel
theorem dX11_init_103 : decode cX11_init 103 = .ok (.newarray .int, 2) := by decide +kernel
theorem dX11_init_105 : decode cX11_init 105 = .ok (.putfield 48, 3) := by decide +kernel
theorem dX11_init_108 : decode cX11_init 108 = .ok (.aload_n 0, 1) := by decide +kernel
theorem dX11_init_109 : decode cX11_init 109 = .ok (.sipush 768, 3) := by decide +kernel
theorem dX11_init_112 : decode cX11_init 112 = .ok (.newarray .int, 2) := by decide +kernel
theorem dX11_init_114 : decode cX11_init 114 = .ok (.putfield 51, 3) := by decide +kernel
theorem dX11_init_117 : decode cX11_init 117 = .ok (.aload_n 0, 1) := by decide +kernel
theorem dX11_init_118 : decode cX11_init 118 = .ok (.bipush 16, 2) := by decide +kernel
theorem dX11_init_120 : decode cX11_init 120 = .ok (.newarray .int, 2) := by decide +kernel
theorem dX11_init_122 : decode cX11_init 122 = .ok (.putfield 54, 3) := by decide +kernel
theorem dX11_init_125 : decode cX11_init 125 = .ok (.aload_n 0, 1) := by decide +kernel
theorem dX11_init_126 : decode cX11_init 126 = .ok (.iconst 4, 1) := by decide +kernel
theorem dX11_init_127 : decode cX11_init 127 = .ok (.newarray .int, 2) := by decide +kernel
theorem dX11_init_129 : decode cX11_init 129 = .ok (.putfield 57, 3) := by decide +kernel
theorem dX11_init_132 : decode cX11_init 132 = .ok (.aload_n 0, 1) := by decide +kernel
theorem dX11_init_133 : decode cX11_init 133 = .ok (.bipush 120, 2) := by decide +kernel
theorem dX11_init_135 : decode cX11_init 135 = .ok (.newarray .int, 2) := by decide +kernel
theorem dX11_init_137 : decode cX11_init 137 = .ok (.putfield 60, 3) := by decide +kernel
theorem dX11_init_140 : decode cX11_init 140 = .ok (.aload_n 0, 1) := by decide +kernel
theorem dX11_init_141 : decode cX11_init 141 = .ok (.bipush 120, 2) := by decide +kernel
theorem dX11_init_143 : decode cX11_init 143 = .ok (.newarray .int, 2) := by decide +kernel
theorem dX11_init_145 : decode cX11_init 145 = .ok (.putfield 63, 3) := by decide +kernel
theorem dX11_init_148 : decode cX11_init 148 = .ok (.aload_n 0, 1) := by decide +kernel
theorem dX11_init_149 : decode cX11_init 149 = .ok (.bipush 120, 2) := by decide +kernel
theorem dX11_init_151 : decode cX11_init 151 = .ok (.newarray .int, 2) := by decide +kernel
theorem dX11_init_153 : decode cX11_init 153 = .ok (.putfield 66, 3) := by decide +kernel
theorem dX11_init_156 : decode cX11_init 156 = .ok (.aload_n 0, 1) := by decide +kernel
theorem dX11_init_157 : decode cX11_init 157 = .ok (.sipush 144, 3) := by decide +kernel
theorem dX11_init_160 : decode cX11_init 160 = .ok (.newarray .long, 2) := by decide +kernel
theorem dX11_init_162 : decode cX11_init 162 = .ok (.putfield 69, 3) := by decide +kernel
theorem dX11_init_165 : decode cX11_init 165 = .ok (.aload_n 0, 1) := by decide +kernel
theorem dX11_init_166 : decode cX11_init 166 = .ok (.sipush 144, 3) := by decide +kernel
theorem dX11_init_169 : decode cX11_init 169 = .ok (.newarray .long, 2) := by decide +kernel
theorem dX11_init_171 : decode cX11_init 171 = .ok (.putfield 73, 3) := by decide +kernel
theorem dX11_init_174 : decode cX11_init 174 = .ok (.aload_n 0, 1) := by decide +kernel
theorem dX11_init_175 : decode cX11_init 175 = .ok (.sipush 256, 3) := by decide +kernel
theorem dX11_init_178 : decode cX11_init 178 = .ok (.newarray .boolean, 2) := by decide +kernel
theorem dX11_init_180 : decode cX11_init 180 = .ok (.putfield 76, 3) := by decide +kernel
theorem dX11_init_183 : decode cX11_init 183 = .ok (.aload_n 0, 1) := by decide +kernel
theorem dX11_init_184 : decode cX11_init 184 = .ok (.bipush 16, 2) := by decide +kernel
theorem dX11_init_186 : decode cX11_init 186 = .ok (.newarray .int, 2) := by decide +kernel
theorem dX11_init_188 : decode cX11_init 188 = .ok (.putfield 79, 3) := by decide +kernel
theorem dX11_init_191 : decode cX11_init 191 = .ok (.iconst 0, 1) := by decide +kernel
theorem dX11_init_192 : decode cX11_init 192 = .ok (.istore_n 1, 1) := by decide +kernel
theorem dX11_init_193 : decode cX11_init 193 = .ok (.iconst 0, 1) := by decide +kernel
theorem dX11_init_194 : decode cX11_init 194 = .ok (.istore_n 2, 1) := by decide +kernel
theorem dX11_init_195 : decode cX11_init 195 = .ok (.iload_n 2, 1) := by decide +kernel
theorem dX11_init_196 : decode cX11_init 196 = .ok (.bipush 64, 2) := by decide +kernel
theorem dX11_init_198 : decode cX11_init 198 = .ok (.if_icmp .ge 78, 3) := by decide +kernel
theorem dX11_init_201 : decode cX11_init 201 = .ok (.bipush 64, 2) := by decide +kernel
theorem dX11_init_203 : decode cX11_init 203 = .ok (.istore_n 3, 1) := by decide +kernel
theorem dX11_init_204 : decode cX11_init 204 = .ok (.iconst 0, 1) := by decide +kernel
theorem dX11_init_205 : decode cX11_init 205 = .ok (.istore 4, 2) := by decide +kernel
theorem dX11_init_207 : decode cX11_init 207 = .ok (.iload 4, 2) := by decide +kernel
theorem dX11_init_209 : decode cX11_init 209 = .ok (.bipush 6, 2) := by decide +kernel
theorem dX11_init_211 : decode cX11_init 211 = .ok (.if_icmp .ge 30, 3) := by decide +kernel
theorem dX11_init_214 : decode cX11_init 214 = .ok (.iload_n 2, 1) := by decide +kernel
theorem dX11_init_215 : decode cX11_init 215 = .ok (.iload 4, 2) := by decide +kernel
theorem dX11_init_217 : decode cX11_init 217 = .ok (.invokestatic 82, 3) := by decide +kernel
theorem dX11_init_220 : decode cX11_init 220 = .ok (.istore 5, 2) := by decide +kernel
theorem dX11_init_222 : decode cX11_init 222 = .ok (.iload 5, 2) := by decide +kernel
theorem dX11_init_224 : decode cX11_init 224 = .ok (.iload_n 3, 1) := by decide +kernel
theorem dX11_init_225 : decode cX11_init 225 = .ok (.if_icmp .ge 8, 3) := by decide +kernel
theorem dX11_init_228 : decode cX11_init 228 = .ok (.iload 5, 2) := by decide +kernel
theorem dX11_init_230 : decode cX11_init 230 = .ok (.goto 4, 3) := by decide +kernel
theorem dX11_init_233 : decode cX11_init 233 = .ok (.iload_n 3, 1) := by decide +kernel
theorem dX11_init_234 : decode cX11_init 234 = .ok (.istore_n 3, 1) := by decide +kernel
theorem dX11_init_235 : decode cX11_init 235 = .ok (.iinc 4 1, 3) := by decide +kernel
theorem dX11_init_238 : decode cX11_init 238 = .ok (.goto (-31), 3) := by decide +kernel
theorem dX11_init_241 : decode cX11_init 241 = .ok (.aload_n 0, 1) := by decide +kernel
theorem dX11_init_242 : decode cX11_init 242 = .ok (.getfield 42, 3) := by decide +kernel
theorem dX11_init_245 : decode cX11_init 245 = .ok (.iload_n 2, 1) := by decide +kernel
theorem dX11_init_246 : decode cX11_init 246 = .ok (.iload_n 3, 1) := by decide +kernel
theorem dX11_init_247 : decode cX11_init 247 = .ok (.iastore, 1) := by decide +kernel
theorem dX11_init_248 : decode cX11_init 248 = .ok (.iload_n 3, 1) := by decide +kernel
theorem dX11_init_249 : decode cX11_init 249 = .ok (.iload_n 2, 1) := by decide +kernel
theorem dX11_init_250 : decode cX11_init 250 = .ok (.if_icmp .ne 20, 3) := by decide +kernel
theorem dX11_init_253 : decode cX11_init 253 = .ok (.aload_n 0, 1) := by decide +kernel
theorem dX11_init_254 : decode cX11_init 254 = .ok (.getfield 45, 3) := by decide +kernel
theorem dX11_init_257 : decode cX11_init 257 = .ok (.iload_n 1, 1) := by decide +kernel
theorem dX11_init_258 : decode cX11_init 258 = .ok (.iload_n 2, 1) := by decide +kernel
theorem dX11_init_259 : decode cX11_init 259 = .ok (.iastore, 1) := by decide +kernel
theorem dX11_init_260 : decode cX11_init 260 = .ok (.aload_n 0, 1) := by decide +kernel
theorem dX11_init_261 : decode cX11_init 261 = .ok (.getfield 48, 3) := by decide +kernel
theorem dX11_init_264 : decode cX11_init 264 = .ok (.iload_n 2, 1) := by decide +kernel
theorem dX11_init_265 : decode cX11_init 265 = .ok (.iload_n 1, 1) := by decide +kernel
theorem dX11_init_266 : decode cX11_init 266 = .ok (.iastore, 1) := by decide +kernel
theorem dX11_init_267 : decode cX11_init 267 = .ok (.iinc 1 1, 3) := by decide +kernel
theorem dX11_init_270 : decode cX11_init 270 = .ok (.iinc 2 1, 3) := by decide +kernel
theorem dX11_init_273 : decode cX11_init 273 = .ok (.goto (-78), 3) := by decide +kernel
theorem dX11_init_276 : decode cX11_init 276 = .ok (.return_, 1) := by decide +kernel
theorem dX11_in_0 : decode cX11_in 0 = .ok (.iload_n 0, 1) := by decide +kernel
theorem dX11_in_1 : decode cX11_in 1 = .ok (.iload_n 1, 1) := by decide +kernel
theorem dX11_in_2 : decode cX11_in 2 = .ok (.if_icmp .lt 12, 3) := by decide +kernel
theorem dX11_in_5 : decode cX11_in 5 = .ok (.iload_n 0, 1) := by decide +kernel
theorem dX11_in_6 : decode cX11_in 6 = .ok (.iload_n 2, 1) := by decide +kernel
theorem dX11_in_7 : decode cX11_in 7 = .ok (.if_icmp .gt 7, 3) := by decide +kernel
theorem dX11_in_10 : decode cX11_in 10 = .ok (.iconst 1, 1) := by decide +kernel
theorem dX11_in_11 : decode cX11_in 11 = .ok (.goto 4, 3) := by decide +kernel
theorem dX11_in_14 : decode cX11_in 14 = .ok (.iconst 0, 1) := by decide +kernel
theorem dX11_in_15 : decode cX11_in 15 = .ok (.ireturn, 1) := by decide +kernel
theorem dX11_refuse_0 : decode cX11_refuse 0 = .ok (.aload_n 0, 1) := by decide +kernel
theorem dX11_refuse_1 : decode cX11_refuse 1 = .ok (.getfield 39, 3) := by decide +kernel
theorem dX11_refuse_4 : decode cX11_refuse 4 = .ok (.iload_n 1, 1) := by decide +kernel
theorem dX11_refuse_5 : decode cX11_refuse 5 = .ok (.ineg, 1) := by decide +kernel
theorem dX11_refuse_6 : decode cX11_refuse 6 = .ok (.dup2, 1) := by decide +kernel
theorem dX11_refuse_7 : decode cX11_refuse 7 = .ok (.iaload, 1) := by decide +kernel
theorem dX11_refuse_8 : decode cX11_refuse 8 = .ok (.iconst 1, 1) := by decide +kernel
theorem dX11_refuse_9 : decode cX11_refuse 9 = .ok (.iadd, 1) := by decide +kernel
theorem dX11_refuse_10 : decode cX11_refuse 10 = .ok (.iastore, 1) := by decide +kernel
theorem dX11_refuse_11 : decode cX11_refuse 11 = .ok (.iload_n 1, 1) := by decide +kernel
theorem dX11_refuse_12 : decode cX11_refuse 12 = .ok (.ireturn, 1) := by decide +kernel
theorem dX11_isPost_0 : decode cX11_isPost 0 = .ok (.iload_n 1, 1) := by decide +kernel
theorem dX11_isPost_1 : decode cX11_isPost 1 = .ok (.iconst 0, 1) := by decide +kernel
theorem dX11_isPost_2 : decode cX11_isPost 2 = .ok (.aload_n 0, 1) := by decide +kernel
theorem dX11_isPost_3 : decode cX11_isPost 3 = .ok (.getfield 7, 3) := by decide +kernel
theorem dX11_isPost_6 : decode cX11_isPost 6 = .ok (.iconst 1, 1) := by decide +kernel
theorem dX11_isPost_7 : decode cX11_isPost 7 = .ok (.isub, 1) := by decide +kernel
theorem dX11_isPost_8 : decode cX11_isPost 8 = .ok (.invokestatic 86, 3) := by decide +kernel
theorem dX11_isPost_11 : decode cX11_isPost 11 = .ok (.ireturn, 1) := by decide +kernel
theorem dX11_isShape_0 : decode cX11_isShape 0 = .ok (.iload_n 0, 1) := by decide +kernel
theorem dX11_isShape_1 : decode cX11_isShape 1 = .ok (.iconst 0, 1) := by decide +kernel
theorem dX11_isShape_2 : decode cX11_isShape 2 = .ok (.bipush 15, 2) := by decide +kernel
theorem dX11_isShape_4 : decode cX11_isShape 4 = .ok (.invokestatic 86, 3) := by decide +kernel
theorem dX11_isShape_7 : decode cX11_isShape 7 = .ok (.ireturn, 1) := by decide +kernel
theorem dX11_atOrder_0 : decode cX11_atOrder 0 = .ok (.iload_n 0, 1) := by decide +kernel
theorem dX11_atOrder_1 : decode cX11_atOrder 1 = .ok (.iconst 2, 1) := by decide +kernel
theorem dX11_atOrder_2 : decode cX11_atOrder 2 = .ok (.idiv, 1) := by decide +kernel
theorem dX11_atOrder_3 : decode cX11_atOrder 3 = .ok (.istore_n 2, 1) := by decide +kernel
theorem dX11_atOrder_4 : decode cX11_atOrder 4 = .ok (.iload_n 0, 1) := by decide +kernel
theorem dX11_atOrder_5 : decode cX11_atOrder 5 = .ok (.iconst 2, 1) := by decide +kernel
theorem dX11_atOrder_6 : decode cX11_atOrder 6 = .ok (.irem, 1) := by decide +kernel
theorem dX11_atOrder_7 : decode cX11_atOrder 7 = .ok (.ifCond .ne 15, 3) := by decide +kernel
theorem dX11_atOrder_10 : decode cX11_atOrder 10 = .ok (.iload_n 2, 1) := by decide +kernel
theorem dX11_atOrder_11 : decode cX11_atOrder 11 = .ok (.ifCond .ne 7, 3) := by decide +kernel
theorem dX11_atOrder_14 : decode cX11_atOrder 14 = .ok (.iconst 1, 1) := by decide +kernel
theorem dX11_atOrder_15 : decode cX11_atOrder 15 = .ok (.goto 17, 3) := by decide +kernel
theorem dX11_atOrder_18 : decode cX11_atOrder 18 = .ok (.iconst 0, 1) := by decide +kernel
theorem dX11_atOrder_19 : decode cX11_atOrder 19 = .ok (.goto 13, 3) := by decide +kernel
theorem dX11_atOrder_22 : decode cX11_atOrder 22 = .ok (.iload_n 2, 1) := by decide +kernel
theorem dX11_atOrder_23 : decode cX11_atOrder 23 = .ok (.iconst 2, 1) := by decide +kernel
theorem dX11_atOrder_24 : decode cX11_atOrder 24 = .ok (.if_icmp .ne 7, 3) := by decide +kernel
theorem dX11_atOrder_27 : decode cX11_atOrder 27 = .ok (.iconst 1, 1) := by decide +kernel
theorem dX11_atOrder_28 : decode cX11_atOrder 28 = .ok (.goto 4, 3) := by decide +kernel
theorem dX11_atOrder_31 : decode cX11_atOrder 31 = .ok (.iconst 2, 1) := by decide +kernel
theorem dX11_atOrder_32 : decode cX11_atOrder 32 = .ok (.istore_n 3, 1) := by decide +kernel
theorem dX11_atOrder_33 : decode cX11_atOrder 33 = .ok (.iload_n 1, 1) := by decide +kernel
theorem dX11_atOrder_34 : decode cX11_atOrder 34 = .ok (.ifCond .ne 7, 3) := by decide +kernel
theorem dX11_atOrder_37 : decode cX11_atOrder 37 = .ok (.iload_n 2, 1) := by decide +kernel
theorem dX11_atOrder_38 : decode cX11_atOrder 38 = .ok (.goto 17, 3) := by decide +kernel
theorem dX11_atOrder_41 : decode cX11_atOrder 41 = .ok (.iload_n 1, 1) := by decide +kernel
theorem dX11_atOrder_42 : decode cX11_atOrder 42 = .ok (.iconst 1, 1) := by decide +kernel
theorem dX11_atOrder_43 : decode cX11_atOrder 43 = .ok (.if_icmp .ne 7, 3) := by decide +kernel
theorem dX11_atOrder_46 : decode cX11_atOrder 46 = .ok (.iload_n 3, 1) := by decide +kernel
theorem dX11_atOrder_47 : decode cX11_atOrder 47 = .ok (.goto 8, 3) := by decide +kernel
theorem dX11_atOrder_50 : decode cX11_atOrder 50 = .ok (.iconst 3, 1) := by decide +kernel
theorem dX11_atOrder_51 : decode cX11_atOrder 51 = .ok (.iload_n 2, 1) := by decide +kernel
theorem dX11_atOrder_52 : decode cX11_atOrder 52 = .ok (.isub, 1) := by decide +kernel
theorem dX11_atOrder_53 : decode cX11_atOrder 53 = .ok (.iload_n 3, 1) := by decide +kernel
theorem dX11_atOrder_54 : decode cX11_atOrder 54 = .ok (.isub, 1) := by decide +kernel
theorem dX11_atOrder_55 : decode cX11_atOrder 55 = .ok (.ireturn, 1) := by decide +kernel
theorem dX11_bit_0 : decode cX11_bit 0 = .ok (.iload_n 0, 1) := by decide +kernel
theorem dX11_bit_1 : decode cX11_bit 1 = .ok (.ifCond .ne 9, 3) := by decide +kernel
theorem dX11_bit_4 : decode cX11_bit 4 = .ok (.iload_n 1, 1) := by decide +kernel
theorem dX11_bit_5 : decode cX11_bit 5 = .ok (.iconst 1, 1) := by decide +kernel
theorem dX11_bit_6 : decode cX11_bit 6 = .ok (.isub, 1) := by decide +kernel
theorem dX11_bit_7 : decode cX11_bit 7 = .ok (.goto 23, 3) := by decide +kernel
theorem dX11_bit_10 : decode cX11_bit 10 = .ok (.iload_n 0, 1) := by decide +kernel
theorem dX11_bit_11 : decode cX11_bit 11 = .ok (.iconst 1, 1) := by decide +kernel
theorem dX11_bit_12 : decode cX11_bit 12 = .ok (.if_icmp .ne 15, 3) := by decide +kernel
theorem dX11_bit_15 : decode cX11_bit 15 = .ok (.iload_n 1, 1) := by decide +kernel
theorem dX11_bit_16 : decode cX11_bit 16 = .ok (.ifCond .ne 7, 3) := by decide +kernel
theorem dX11_bit_19 : decode cX11_bit 19 = .ok (.iconst 2, 1) := by decide +kernel
theorem dX11_bit_20 : decode cX11_bit 20 = .ok (.goto 10, 3) := by decide +kernel
theorem dX11_bit_23 : decode cX11_bit 23 = .ok (.iconst 3, 1) := by decide +kernel
theorem dX11_bit_24 : decode cX11_bit 24 = .ok (.goto 6, 3) := by decide +kernel
theorem dX11_bit_27 : decode cX11_bit 27 = .ok (.iconst 4, 1) := by decide +kernel
theorem dX11_bit_28 : decode cX11_bit 28 = .ok (.iload_n 1, 1) := by decide +kernel
theorem dX11_bit_29 : decode cX11_bit 29 = .ok (.iadd, 1) := by decide +kernel
theorem dX11_bit_30 : decode cX11_bit 30 = .ok (.ireturn, 1) := by decide +kernel
theorem dX11_inOrder_0 : decode cX11_inOrder 0 = .ok (.iconst 0, 1) := by decide +kernel
theorem dX11_inOrder_1 : decode cX11_inOrder 1 = .ok (.istore_n 2, 1) := by decide +kernel
theorem dX11_inOrder_2 : decode cX11_inOrder 2 = .ok (.iconst 0, 1) := by decide +kernel
theorem dX11_inOrder_3 : decode cX11_inOrder 3 = .ok (.istore_n 3, 1) := by decide +kernel
theorem dX11_inOrder_4 : decode cX11_inOrder 4 = .ok (.iload_n 3, 1) := by decide +kernel
theorem dX11_inOrder_5 : decode cX11_inOrder 5 = .ok (.iconst 3, 1) := by decide +kernel
theorem dX11_inOrder_6 : decode cX11_inOrder 6 = .ok (.if_icmp .ge 63, 3) := by decide +kernel
theorem dX11_inOrder_9 : decode cX11_inOrder 9 = .ok (.iconst 0, 1) := by decide +kernel
theorem dX11_inOrder_10 : decode cX11_inOrder 10 = .ok (.istore 4, 2) := by decide +kernel
theorem dX11_inOrder_12 : decode cX11_inOrder 12 = .ok (.iload 4, 2) := by decide +kernel
theorem dX11_inOrder_14 : decode cX11_inOrder 14 = .ok (.iconst 3, 1) := by decide +kernel
theorem dX11_inOrder_15 : decode cX11_inOrder 15 = .ok (.if_icmp .ge 48, 3) := by decide +kernel
theorem dX11_inOrder_18 : decode cX11_inOrder 18 = .ok (.iload_n 3, 1) := by decide +kernel
theorem dX11_inOrder_19 : decode cX11_inOrder 19 = .ok (.iload 4, 2) := by decide +kernel
theorem dX11_inOrder_21 : decode cX11_inOrder 21 = .ok (.if_icmp .eq 36, 3) := by decide +kernel
theorem dX11_inOrder_24 : decode cX11_inOrder 24 = .ok (.iload_n 0, 1) := by decide +kernel
theorem dX11_inOrder_25 : decode cX11_inOrder 25 = .ok (.iload_n 1, 1) := by decide +kernel
theorem dX11_inOrder_26 : decode cX11_inOrder 26 = .ok (.iload_n 3, 1) := by decide +kernel
theorem dX11_inOrder_27 : decode cX11_inOrder 27 = .ok (.invokestatic 90, 3) := by decide +kernel
theorem dX11_inOrder_30 : decode cX11_inOrder 30 = .ok (.iload_n 1, 1) := by decide +kernel
theorem dX11_inOrder_31 : decode cX11_inOrder 31 = .ok (.iload 4, 2) := by decide +kernel
theorem dX11_inOrder_33 : decode cX11_inOrder 33 = .ok (.invokestatic 90, 3) := by decide +kernel
theorem dX11_inOrder_36 : decode cX11_inOrder 36 = .ok (.invokestatic 93, 3) := by decide +kernel
theorem dX11_inOrder_39 : decode cX11_inOrder 39 = .ok (.ishr, 1) := by decide +kernel
theorem dX11_inOrder_40 : decode cX11_inOrder 40 = .ok (.iconst 1, 1) := by decide +kernel
theorem dX11_inOrder_41 : decode cX11_inOrder 41 = .ok (.iand, 1) := by decide +kernel
theorem dX11_inOrder_42 : decode cX11_inOrder 42 = .ok (.iconst 1, 1) := by decide +kernel
theorem dX11_inOrder_43 : decode cX11_inOrder 43 = .ok (.if_icmp .ne 14, 3) := by decide +kernel
theorem dX11_inOrder_46 : decode cX11_inOrder 46 = .ok (.iload_n 2, 1) := by decide +kernel
theorem dX11_inOrder_47 : decode cX11_inOrder 47 = .ok (.iconst 1, 1) := by decide +kernel
theorem dX11_inOrder_48 : decode cX11_inOrder 48 = .ok (.iload_n 3, 1) := by decide +kernel
theorem dX11_inOrder_49 : decode cX11_inOrder 49 = .ok (.iload 4, 2) := by decide +kernel
theorem dX11_inOrder_51 : decode cX11_inOrder 51 = .ok (.invokestatic 93, 3) := by decide +kernel
theorem dX11_inOrder_54 : decode cX11_inOrder 54 = .ok (.ishl, 1) := by decide +kernel
theorem dX11_inOrder_55 : decode cX11_inOrder 55 = .ok (.ior, 1) := by decide +kernel
theorem dX11_inOrder_56 : decode cX11_inOrder 56 = .ok (.istore_n 2, 1) := by decide +kernel
theorem dX11_inOrder_57 : decode cX11_inOrder 57 = .ok (.iinc 4 1, 3) := by decide +kernel
theorem dX11_inOrder_60 : decode cX11_inOrder 60 = .ok (.goto (-48), 3) := by decide +kernel
theorem dX11_inOrder_63 : decode cX11_inOrder 63 = .ok (.iinc 3 1, 3) := by decide +kernel
theorem dX11_inOrder_66 : decode cX11_inOrder 66 = .ok (.goto (-62), 3) := by decide +kernel
theorem dX11_inOrder_69 : decode cX11_inOrder 69 = .ok (.iload_n 2, 1) := by decide +kernel
theorem dX11_inOrder_70 : decode cX11_inOrder 70 = .ok (.ireturn, 1) := by decide +kernel
theorem dX11_has_0 : decode cX11_has 0 = .ok (.aload_n 0, 1) := by decide +kernel
theorem dX11_has_1 : decode cX11_has 1 = .ok (.getfield 13, 3) := by decide +kernel
theorem dX11_has_4 : decode cX11_has 4 = .ok (.bipush 16, 2) := by decide +kernel
theorem dX11_has_6 : decode cX11_has 6 = .ok (.iload_n 1, 1) := by decide +kernel
theorem dX11_has_7 : decode cX11_has 7 = .ok (.imul, 1) := by decide +kernel
theorem dX11_has_8 : decode cX11_has 8 = .ok (.iload_n 2, 1) := by decide +kernel
theorem dX11_has_9 : decode cX11_has 9 = .ok (.iadd, 1) := by decide +kernel
theorem dX11_has_10 : decode cX11_has 10 = .ok (.baload, 1) := by decide +kernel
theorem dX11_has_11 : decode cX11_has 11 = .ok (.ireturn, 1) := by decide +kernel
theorem dX11_codeOf_0 : decode cX11_codeOf 0 = .ok (.aload_n 0, 1) := by decide +kernel
theorem dX11_codeOf_1 : decode cX11_codeOf 1 = .ok (.iload_n 1, 1) := by decide +kernel
theorem dX11_codeOf_2 : decode cX11_codeOf 2 = .ok (.iload_n 2, 1) := by decide +kernel
theorem dX11_codeOf_3 : decode cX11_codeOf 3 = .ok (.invokevirtual 96, 3) := by decide +kernel
theorem dX11_codeOf_6 : decode cX11_codeOf 6 = .ok (.ifCond .eq 7, 3) := by decide +kernel
theorem dX11_codeOf_9 : decode cX11_codeOf 9 = .ok (.iconst 1, 1) := by decide +kernel
theorem dX11_codeOf_10 : decode cX11_codeOf 10 = .ok (.goto 4, 3) := by decide +kernel
theorem dX11_codeOf_13 : decode cX11_codeOf 13 = .ok (.iconst 0, 1) := by decide +kernel
theorem dX11_codeOf_14 : decode cX11_codeOf 14 = .ok (.aload_n 0, 1) := by decide +kernel
theorem dX11_codeOf_15 : decode cX11_codeOf 15 = .ok (.iload_n 1, 1) := by decide +kernel
theorem dX11_codeOf_16 : decode cX11_codeOf 16 = .ok (.iload_n 3, 1) := by decide +kernel
theorem dX11_codeOf_17 : decode cX11_codeOf 17 = .ok (.invokevirtual 96, 3) := by decide +kernel
theorem dX11_codeOf_20 : decode cX11_codeOf 20 = .ok (.ifCond .eq 7, 3) := by decide +kernel
theorem dX11_codeOf_23 : decode cX11_codeOf 23 = .ok (.iconst 2, 1) := by decide +kernel
theorem dX11_codeOf_24 : decode cX11_codeOf 24 = .ok (.goto 4, 3) := by decide +kernel
theorem dX11_codeOf_27 : decode cX11_codeOf 27 = .ok (.iconst 0, 1) := by decide +kernel
theorem dX11_codeOf_28 : decode cX11_codeOf 28 = .ok (.iadd, 1) := by decide +kernel
theorem dX11_codeOf_29 : decode cX11_codeOf 29 = .ok (.aload_n 0, 1) := by decide +kernel
theorem dX11_codeOf_30 : decode cX11_codeOf 30 = .ok (.iload_n 2, 1) := by decide +kernel
theorem dX11_codeOf_31 : decode cX11_codeOf 31 = .ok (.iload_n 1, 1) := by decide +kernel
theorem dX11_codeOf_32 : decode cX11_codeOf 32 = .ok (.invokevirtual 96, 3) := by decide +kernel
theorem dX11_codeOf_35 : decode cX11_codeOf 35 = .ok (.ifCond .eq 7, 3) := by decide +kernel
theorem dX11_codeOf_38 : decode cX11_codeOf 38 = .ok (.iconst 4, 1) := by decide +kernel
theorem dX11_codeOf_39 : decode cX11_codeOf 39 = .ok (.goto 4, 3) := by decide +kernel
theorem dX11_codeOf_42 : decode cX11_codeOf 42 = .ok (.iconst 0, 1) := by decide +kernel
theorem dX11_codeOf_43 : decode cX11_codeOf 43 = .ok (.iadd, 1) := by decide +kernel
theorem dX11_codeOf_44 : decode cX11_codeOf 44 = .ok (.aload_n 0, 1) := by decide +kernel
theorem dX11_codeOf_45 : decode cX11_codeOf 45 = .ok (.iload_n 2, 1) := by decide +kernel
theorem dX11_codeOf_46 : decode cX11_codeOf 46 = .ok (.iload_n 3, 1) := by decide +kernel
theorem dX11_codeOf_47 : decode cX11_codeOf 47 = .ok (.invokevirtual 96, 3) := by decide +kernel
theorem dX11_codeOf_50 : decode cX11_codeOf 50 = .ok (.ifCond .eq 8, 3) := by decide +kernel
theorem dX11_codeOf_53 : decode cX11_codeOf 53 = .ok (.bipush 8, 2) := by decide +kernel
theorem dX11_codeOf_55 : decode cX11_codeOf 55 = .ok (.goto 4, 3) := by decide +kernel
theorem dX11_codeOf_58 : decode cX11_codeOf 58 = .ok (.iconst 0, 1) := by decide +kernel
theorem dX11_codeOf_59 : decode cX11_codeOf 59 = .ok (.iadd, 1) := by decide +kernel
theorem dX11_codeOf_60 : decode cX11_codeOf 60 = .ok (.aload_n 0, 1) := by decide +kernel
theorem dX11_codeOf_61 : decode cX11_codeOf 61 = .ok (.iload_n 3, 1) := by decide +kernel
theorem dX11_codeOf_62 : decode cX11_codeOf 62 = .ok (.iload_n 1, 1) := by decide +kernel
theorem dX11_codeOf_63 : decode cX11_codeOf 63 = .ok (.invokevirtual 96, 3) := by decide +kernel
theorem dX11_codeOf_66 : decode cX11_codeOf 66 = .ok (.ifCond .eq 8, 3) := by decide +kernel
theorem dX11_codeOf_69 : decode cX11_codeOf 69 = .ok (.bipush 16, 2) := by decide +kernel
theorem dX11_codeOf_71 : decode cX11_codeOf 71 = .ok (.goto 4, 3) := by decide +kernel
theorem dX11_codeOf_74 : decode cX11_codeOf 74 = .ok (.iconst 0, 1) := by decide +kernel
theorem dX11_codeOf_75 : decode cX11_codeOf 75 = .ok (.iadd, 1) := by decide +kernel
theorem dX11_codeOf_76 : decode cX11_codeOf 76 = .ok (.aload_n 0, 1) := by decide +kernel
theorem dX11_codeOf_77 : decode cX11_codeOf 77 = .ok (.iload_n 3, 1) := by decide +kernel
theorem dX11_codeOf_78 : decode cX11_codeOf 78 = .ok (.iload_n 2, 1) := by decide +kernel
theorem dX11_codeOf_79 : decode cX11_codeOf 79 = .ok (.invokevirtual 96, 3) := by decide +kernel
theorem dX11_codeOf_82 : decode cX11_codeOf 82 = .ok (.ifCond .eq 8, 3) := by decide +kernel
theorem dX11_codeOf_85 : decode cX11_codeOf 85 = .ok (.bipush 32, 2) := by decide +kernel
theorem dX11_codeOf_87 : decode cX11_codeOf 87 = .ok (.goto 4, 3) := by decide +kernel
theorem dX11_codeOf_90 : decode cX11_codeOf 90 = .ok (.iconst 0, 1) := by decide +kernel
theorem dX11_codeOf_91 : decode cX11_codeOf 91 = .ok (.iadd, 1) := by decide +kernel
theorem dX11_codeOf_92 : decode cX11_codeOf 92 = .ok (.ireturn, 1) := by decide +kernel
theorem dX11_shapeOfThree_0 : decode cX11_shapeOfThree 0 = .ok (.aload_n 0, 1) := by decide +kernel
theorem dX11_shapeOfThree_1 : decode cX11_shapeOfThree 1 = .ok (.getfield 48, 3) := by decide +kernel
theorem dX11_shapeOfThree_4 : decode cX11_shapeOfThree 4 = .ok (.aload_n 0, 1) := by decide +kernel
theorem dX11_shapeOfThree_5 : decode cX11_shapeOfThree 5 = .ok (.getfield 42, 3) := by decide +kernel
theorem dX11_shapeOfThree_8 : decode cX11_shapeOfThree 8 = .ok (.aload_n 0, 1) := by decide +kernel
theorem dX11_shapeOfThree_9 : decode cX11_shapeOfThree 9 = .ok (.iload_n 1, 1) := by decide +kernel
theorem dX11_shapeOfThree_10 : decode cX11_shapeOfThree 10 = .ok (.iload_n 2, 1) := by decide +kernel
theorem dX11_shapeOfThree_11 : decode cX11_shapeOfThree 11 = .ok (.iload_n 3, 1) := by decide +kernel
theorem dX11_shapeOfThree_12 : decode cX11_shapeOfThree 12 = .ok (.invokevirtual 100, 3) := by decide +kernel
theorem dX11_shapeOfThree_15 : decode cX11_shapeOfThree 15 = .ok (.iaload, 1) := by decide +kernel
theorem dX11_shapeOfThree_16 : decode cX11_shapeOfThree 16 = .ok (.iaload, 1) := by decide +kernel
theorem dX11_shapeOfThree_17 : decode cX11_shapeOfThree 17 = .ok (.ireturn, 1) := by decide +kernel
theorem dX11_placeIn_0 : decode cX11_placeIn 0 = .ok (.iconst 3, 1) := by decide +kernel
theorem dX11_placeIn_1 : decode cX11_placeIn 1 = .ok (.istore_n 3, 1) := by decide +kernel
theorem dX11_placeIn_2 : decode cX11_placeIn 2 = .ok (.iconst 0, 1) := by decide +kernel
theorem dX11_placeIn_3 : decode cX11_placeIn 3 = .ok (.istore 4, 2) := by decide +kernel
theorem dX11_placeIn_5 : decode cX11_placeIn 5 = .ok (.iload 4, 2) := by decide +kernel
theorem dX11_placeIn_7 : decode cX11_placeIn 7 = .ok (.bipush 6, 2) := by decide +kernel
theorem dX11_placeIn_9 : decode cX11_placeIn 9 = .ok (.if_icmp .ge 59, 3) := by decide +kernel
theorem dX11_placeIn_12 : decode cX11_placeIn 12 = .ok (.iconst 0, 1) := by decide +kernel
theorem dX11_placeIn_13 : decode cX11_placeIn 13 = .ok (.istore 5, 2) := by decide +kernel
theorem dX11_placeIn_15 : decode cX11_placeIn 15 = .ok (.iload 5, 2) := by decide +kernel
theorem dX11_placeIn_17 : decode cX11_placeIn 17 = .ok (.iconst 3, 1) := by decide +kernel
theorem dX11_placeIn_18 : decode cX11_placeIn 18 = .ok (.if_icmp .ge 44, 3) := by decide +kernel
theorem dX11_placeIn_21 : decode cX11_placeIn 21 = .ok (.iload_n 1, 1) := by decide +kernel
theorem dX11_placeIn_22 : decode cX11_placeIn 22 = .ok (.iload 4, 2) := by decide +kernel
theorem dX11_placeIn_24 : decode cX11_placeIn 24 = .ok (.invokestatic 82, 3) := by decide +kernel
theorem dX11_placeIn_27 : decode cX11_placeIn 27 = .ok (.aload_n 0, 1) := by decide +kernel
theorem dX11_placeIn_28 : decode cX11_placeIn 28 = .ok (.getfield 42, 3) := by decide +kernel
theorem dX11_placeIn_31 : decode cX11_placeIn 31 = .ok (.iload_n 1, 1) := by decide +kernel
theorem dX11_placeIn_32 : decode cX11_placeIn 32 = .ok (.iaload, 1) := by decide +kernel
theorem dX11_placeIn_33 : decode cX11_placeIn 33 = .ok (.if_icmp .ne 23, 3) := by decide +kernel
theorem dX11_placeIn_36 : decode cX11_placeIn 36 = .ok (.iload 4, 2) := by decide +kernel
theorem dX11_placeIn_38 : decode cX11_placeIn 38 = .ok (.iload 5, 2) := by decide +kernel
theorem dX11_placeIn_40 : decode cX11_placeIn 40 = .ok (.invokestatic 90, 3) := by decide +kernel
theorem dX11_placeIn_43 : decode cX11_placeIn 43 = .ok (.iload_n 2, 1) := by decide +kernel
theorem dX11_placeIn_44 : decode cX11_placeIn 44 = .ok (.if_icmp .ne 12, 3) := by decide +kernel
theorem dX11_placeIn_47 : decode cX11_placeIn 47 = .ok (.iload 5, 2) := by decide +kernel
theorem dX11_placeIn_49 : decode cX11_placeIn 49 = .ok (.iload_n 3, 1) := by decide +kernel
theorem dX11_placeIn_50 : decode cX11_placeIn 50 = .ok (.if_icmp .ge 6, 3) := by decide +kernel
theorem dX11_placeIn_53 : decode cX11_placeIn 53 = .ok (.iload 5, 2) := by decide +kernel
theorem dX11_placeIn_55 : decode cX11_placeIn 55 = .ok (.istore_n 3, 1) := by decide +kernel
theorem dX11_placeIn_56 : decode cX11_placeIn 56 = .ok (.iinc 5 1, 3) := by decide +kernel
theorem dX11_placeIn_59 : decode cX11_placeIn 59 = .ok (.goto (-44), 3) := by decide +kernel
theorem dX11_placeIn_62 : decode cX11_placeIn 62 = .ok (.iinc 4 1, 3) := by decide +kernel
theorem dX11_placeIn_65 : decode cX11_placeIn 65 = .ok (.goto (-60), 3) := by decide +kernel
theorem dX11_placeIn_68 : decode cX11_placeIn 68 = .ok (.iload_n 3, 1) := by decide +kernel
theorem dX11_placeIn_69 : decode cX11_placeIn 69 = .ok (.ireturn, 1) := by decide +kernel
theorem dX11_ones_0 : decode cX11_ones 0 = .ok (.iconst 0, 1) := by decide +kernel
theorem dX11_ones_1 : decode cX11_ones 1 = .ok (.istore_n 1, 1) := by decide +kernel
theorem dX11_ones_2 : decode cX11_ones 2 = .ok (.iload_n 0, 1) := by decide +kernel
theorem dX11_ones_3 : decode cX11_ones 3 = .ok (.istore_n 2, 1) := by decide +kernel
theorem dX11_ones_4 : decode cX11_ones 4 = .ok (.iload_n 2, 1) := by decide +kernel
theorem dX11_ones_5 : decode cX11_ones 5 = .ok (.ifCond .le 16, 3) := by decide +kernel
theorem dX11_ones_8 : decode cX11_ones 8 = .ok (.iload_n 1, 1) := by decide +kernel
theorem dX11_ones_9 : decode cX11_ones 9 = .ok (.iload_n 2, 1) := by decide +kernel
theorem dX11_ones_10 : decode cX11_ones 10 = .ok (.iconst 2, 1) := by decide +kernel
theorem dX11_ones_11 : decode cX11_ones 11 = .ok (.irem, 1) := by decide +kernel
theorem dX11_ones_12 : decode cX11_ones 12 = .ok (.iadd, 1) := by decide +kernel
theorem dX11_ones_13 : decode cX11_ones 13 = .ok (.istore_n 1, 1) := by decide +kernel
theorem dX11_ones_14 : decode cX11_ones 14 = .ok (.iload_n 2, 1) := by decide +kernel
theorem dX11_ones_15 : decode cX11_ones 15 = .ok (.iconst 2, 1) := by decide +kernel
theorem dX11_ones_16 : decode cX11_ones 16 = .ok (.idiv, 1) := by decide +kernel
theorem dX11_ones_17 : decode cX11_ones 17 = .ok (.istore_n 2, 1) := by decide +kernel
theorem dX11_ones_18 : decode cX11_ones 18 = .ok (.goto (-14), 3) := by decide +kernel
theorem dX11_ones_21 : decode cX11_ones 21 = .ok (.iload_n 1, 1) := by decide +kernel
theorem dX11_ones_22 : decode cX11_ones 22 = .ok (.ireturn, 1) := by decide +kernel
theorem dX11_posts_0 : decode cX11_posts 0 = .ok (.iload_n 1, 1) := by decide +kernel
theorem dX11_posts_1 : decode cX11_posts 1 = .ok (.iconst 3, 1) := by decide +kernel
theorem dX11_posts_2 : decode cX11_posts 2 = .ok (.if_icmp .ge 10, 3) := by decide +kernel
theorem dX11_posts_5 : decode cX11_posts 5 = .ok (.aload_n 0, 1) := by decide +kernel
theorem dX11_posts_6 : decode cX11_posts 6 = .ok (.bipush (-4), 2) := by decide +kernel
theorem dX11_posts_8 : decode cX11_posts 8 = .ok (.invokevirtual 104, 3) := by decide +kernel
theorem dX11_posts_11 : decode cX11_posts 11 = .ok (.ireturn, 1) := by decide +kernel
theorem dX11_posts_12 : decode cX11_posts 12 = .ok (.iload_n 1, 1) := by decide +kernel
theorem dX11_posts_13 : decode cX11_posts 13 = .ok (.bipush 16, 2) := by decide +kernel
theorem dX11_posts_15 : decode cX11_posts 15 = .ok (.if_icmp .le 10, 3) := by decide +kernel
theorem dX11_posts_18 : decode cX11_posts 18 = .ok (.aload_n 0, 1) := by decide +kernel
theorem dX11_posts_19 : decode cX11_posts 19 = .ok (.bipush (-6), 2) := by decide +kernel
theorem dX11_posts_21 : decode cX11_posts 21 = .ok (.invokevirtual 104, 3) := by decide +kernel
theorem dX11_posts_24 : decode cX11_posts 24 = .ok (.ireturn, 1) := by decide +kernel
theorem dX11_posts_25 : decode cX11_posts 25 = .ok (.aload_n 0, 1) := by decide +kernel
theorem dX11_posts_26 : decode cX11_posts 26 = .ok (.getfield 7, 3) := by decide +kernel
theorem dX11_posts_29 : decode cX11_posts 29 = .ok (.istore_n 2, 1) := by decide +kernel
theorem dX11_posts_30 : decode cX11_posts 30 = .ok (.aload_n 0, 1) := by decide +kernel
theorem dX11_posts_31 : decode cX11_posts 31 = .ok (.iload_n 1, 1) := by decide +kernel
theorem dX11_posts_32 : decode cX11_posts 32 = .ok (.putfield 7, 3) := by decide +kernel
theorem dX11_posts_35 : decode cX11_posts 35 = .ok (.iconst 0, 1) := by decide +kernel
theorem dX11_posts_36 : decode cX11_posts 36 = .ok (.istore_n 3, 1) := by decide +kernel
theorem dX11_posts_37 : decode cX11_posts 37 = .ok (.iload_n 3, 1) := by decide +kernel
theorem dX11_posts_38 : decode cX11_posts 38 = .ok (.sipush 256, 3) := by decide +kernel
theorem dX11_posts_41 : decode cX11_posts 41 = .ok (.if_icmp .ge 30, 3) := by decide +kernel
theorem dX11_posts_44 : decode cX11_posts 44 = .ok (.aload_n 0, 1) := by decide +kernel
theorem dX11_posts_45 : decode cX11_posts 45 = .ok (.getfield 13, 3) := by decide +kernel
theorem dX11_posts_48 : decode cX11_posts 48 = .ok (.iload_n 3, 1) := by decide +kernel
theorem dX11_posts_49 : decode cX11_posts 49 = .ok (.iconst 0, 1) := by decide +kernel
theorem dX11_posts_50 : decode cX11_posts 50 = .ok (.bastore, 1) := by decide +kernel
theorem dX11_posts_51 : decode cX11_posts 51 = .ok (.aload_n 0, 1) := by decide +kernel
theorem dX11_posts_52 : decode cX11_posts 52 = .ok (.getfield 17, 3) := by decide +kernel
theorem dX11_posts_55 : decode cX11_posts 55 = .ok (.iload_n 3, 1) := by decide +kernel
theorem dX11_posts_56 : decode cX11_posts 56 = .ok (.iconst 0, 1) := by decide +kernel
theorem dX11_posts_57 : decode cX11_posts 57 = .ok (.iastore, 1) := by decide +kernel
theorem dX11_posts_58 : decode cX11_posts 58 = .ok (.aload_n 0, 1) := by decide +kernel
theorem dX11_posts_59 : decode cX11_posts 59 = .ok (.getfield 21, 3) := by decide +kernel
theorem dX11_posts_62 : decode cX11_posts 62 = .ok (.iload_n 3, 1) := by decide +kernel
theorem dX11_posts_63 : decode cX11_posts 63 = .ok (.iconst 0, 1) := by decide +kernel
theorem dX11_posts_64 : decode cX11_posts 64 = .ok (.iastore, 1) := by decide +kernel
theorem dX11_posts_65 : decode cX11_posts 65 = .ok (.iinc 3 1, 3) := by decide +kernel
theorem dX11_posts_68 : decode cX11_posts 68 = .ok (.goto (-31), 3) := by decide +kernel
theorem dX11_posts_71 : decode cX11_posts 71 = .ok (.iload_n 2, 1) := by decide +kernel
theorem dX11_posts_72 : decode cX11_posts 72 = .ok (.ireturn, 1) := by decide +kernel
theorem dX11_isTwo_0 : decode cX11_isTwo 0 = .ok (.aload_n 0, 1) := by decide +kernel
theorem dX11_isTwo_1 : decode cX11_isTwo 1 = .ok (.iload_n 1, 1) := by decide +kernel
theorem dX11_isTwo_2 : decode cX11_isTwo 2 = .ok (.invokevirtual 108, 3) := by decide +kernel
theorem dX11_isTwo_5 : decode cX11_isTwo 5 = .ok (.ifCond .eq 20, 3) := by decide +kernel
theorem dX11_isTwo_8 : decode cX11_isTwo 8 = .ok (.aload_n 0, 1) := by decide +kernel
theorem dX11_isTwo_9 : decode cX11_isTwo 9 = .ok (.iload_n 2, 1) := by decide +kernel
theorem dX11_isTwo_10 : decode cX11_isTwo 10 = .ok (.invokevirtual 108, 3) := by decide +kernel
theorem dX11_isTwo_13 : decode cX11_isTwo 13 = .ok (.ifCond .eq 12, 3) := by decide +kernel
theorem dX11_isTwo_16 : decode cX11_isTwo 16 = .ok (.iload_n 1, 1) := by decide +kernel
theorem dX11_isTwo_17 : decode cX11_isTwo 17 = .ok (.iload_n 2, 1) := by decide +kernel
theorem dX11_isTwo_18 : decode cX11_isTwo 18 = .ok (.if_icmp .eq 7, 3) := by decide +kernel
theorem dX11_isTwo_21 : decode cX11_isTwo 21 = .ok (.iconst 1, 1) := by decide +kernel
theorem dX11_isTwo_22 : decode cX11_isTwo 22 = .ok (.goto 4, 3) := by decide +kernel
theorem dX11_isTwo_25 : decode cX11_isTwo 25 = .ok (.iconst 0, 1) := by decide +kernel
theorem dX11_isTwo_26 : decode cX11_isTwo 26 = .ok (.ireturn, 1) := by decide +kernel
theorem dX11_link_0 : decode cX11_link 0 = .ok (.aload_n 0, 1) := by decide +kernel
theorem dX11_link_1 : decode cX11_link 1 = .ok (.iload_n 1, 1) := by decide +kernel
theorem dX11_link_2 : decode cX11_link 2 = .ok (.iload_n 2, 1) := by decide +kernel
theorem dX11_link_3 : decode cX11_link 3 = .ok (.invokevirtual 112, 3) := by decide +kernel
theorem dX11_link_6 : decode cX11_link 6 = .ok (.ifCond .ne 9, 3) := by decide +kernel
theorem dX11_link_9 : decode cX11_link 9 = .ok (.aload_n 0, 1) := by decide +kernel
theorem dX11_link_10 : decode cX11_link 10 = .ok (.iconst (-1), 1) := by decide +kernel
theorem dX11_link_11 : decode cX11_link 11 = .ok (.invokevirtual 104, 3) := by decide +kernel
theorem dX11_link_14 : decode cX11_link 14 = .ok (.ireturn, 1) := by decide +kernel
theorem dX11_link_15 : decode cX11_link 15 = .ok (.iload_n 3, 1) := by decide +kernel
theorem dX11_link_16 : decode cX11_link 16 = .ok (.ifCond .lt 8, 3) := by decide +kernel
theorem dX11_link_19 : decode cX11_link 19 = .ok (.iload 4, 2) := by decide +kernel
theorem dX11_link_21 : decode cX11_link 21 = .ok (.ifCond .ge 10, 3) := by decide +kernel
theorem dX11_link_24 : decode cX11_link 24 = .ok (.aload_n 0, 1) := by decide +kernel
theorem dX11_link_25 : decode cX11_link 25 = .ok (.bipush (-4), 2) := by decide +kernel
theorem dX11_link_27 : decode cX11_link 27 = .ok (.invokevirtual 104, 3) := by decide +kernel
theorem dX11_link_30 : decode cX11_link 30 = .ok (.ireturn, 1) := by decide +kernel
theorem dX11_link_31 : decode cX11_link 31 = .ok (.iload_n 3, 1) := by decide +kernel
theorem dX11_link_32 : decode cX11_link 32 = .ok (.iconst 1, 1) := by decide +kernel
theorem dX11_link_33 : decode cX11_link 33 = .ok (.if_icmp .gt 11, 3) := by decide +kernel
theorem dX11_link_36 : decode cX11_link 36 = .ok (.iload 4, 2) := by decide +kernel
theorem dX11_link_38 : decode cX11_link 38 = .ok (.sipush 1000, 3) := by decide +kernel
theorem dX11_link_41 : decode cX11_link 41 = .ok (.if_icmp .le 10, 3) := by decide +kernel
theorem dX11_link_44 : decode cX11_link 44 = .ok (.aload_n 0, 1) := by decide +kernel
theorem dX11_link_45 : decode cX11_link 45 = .ok (.bipush (-6), 2) := by decide +kernel
theorem dX11_link_47 : decode cX11_link 47 = .ok (.invokevirtual 104, 3) := by decide +kernel
theorem dX11_link_50 : decode cX11_link 50 = .ok (.ireturn, 1) := by decide +kernel
theorem dX11_link_51 : decode cX11_link 51 = .ok (.aload_n 0, 1) := by decide +kernel
theorem dX11_link_52 : decode cX11_link 52 = .ok (.iload_n 1, 1) := by decide +kernel
theorem dX11_link_53 : decode cX11_link 53 = .ok (.iload_n 2, 1) := by decide +kernel
theorem dX11_link_54 : decode cX11_link 54 = .ok (.invokevirtual 96, 3) := by decide +kernel
theorem dX11_link_57 : decode cX11_link 57 = .ok (.istore 5, 2) := by decide +kernel
theorem dX11_link_59 : decode cX11_link 59 = .ok (.aload_n 0, 1) := by decide +kernel
theorem dX11_link_60 : decode cX11_link 60 = .ok (.getfield 13, 3) := by decide +kernel
theorem dX11_link_63 : decode cX11_link 63 = .ok (.bipush 16, 2) := by decide +kernel
theorem dX11_link_65 : decode cX11_link 65 = .ok (.iload_n 1, 1) := by decide +kernel
theorem dX11_link_66 : decode cX11_link 66 = .ok (.imul, 1) := by decide +kernel
theorem dX11_link_67 : decode cX11_link 67 = .ok (.iload_n 2, 1) := by decide +kernel
theorem dX11_link_68 : decode cX11_link 68 = .ok (.iadd, 1) := by decide +kernel
theorem dX11_link_69 : decode cX11_link 69 = .ok (.iconst 1, 1) := by decide +kernel
theorem dX11_link_70 : decode cX11_link 70 = .ok (.bastore, 1) := by decide +kernel
theorem dX11_link_71 : decode cX11_link 71 = .ok (.aload_n 0, 1) := by decide +kernel
theorem dX11_link_72 : decode cX11_link 72 = .ok (.getfield 17, 3) := by decide +kernel
theorem dX11_link_75 : decode cX11_link 75 = .ok (.bipush 16, 2) := by decide +kernel
theorem dX11_link_77 : decode cX11_link 77 = .ok (.iload_n 1, 1) := by decide +kernel
theorem dX11_link_78 : decode cX11_link 78 = .ok (.imul, 1) := by decide +kernel
theorem dX11_link_79 : decode cX11_link 79 = .ok (.iload_n 2, 1) := by decide +kernel
theorem dX11_link_80 : decode cX11_link 80 = .ok (.iadd, 1) := by decide +kernel
theorem dX11_link_81 : decode cX11_link 81 = .ok (.iload_n 3, 1) := by decide +kernel
theorem dX11_link_82 : decode cX11_link 82 = .ok (.iastore, 1) := by decide +kernel
theorem dX11_link_83 : decode cX11_link 83 = .ok (.aload_n 0, 1) := by decide +kernel
theorem dX11_link_84 : decode cX11_link 84 = .ok (.getfield 21, 3) := by decide +kernel
theorem dX11_link_87 : decode cX11_link 87 = .ok (.bipush 16, 2) := by decide +kernel
theorem dX11_link_89 : decode cX11_link 89 = .ok (.iload_n 1, 1) := by decide +kernel
theorem dX11_link_90 : decode cX11_link 90 = .ok (.imul, 1) := by decide +kernel
theorem dX11_link_91 : decode cX11_link 91 = .ok (.iload_n 2, 1) := by decide +kernel
theorem dX11_link_92 : decode cX11_link 92 = .ok (.iadd, 1) := by decide +kernel
theorem dX11_link_93 : decode cX11_link 93 = .ok (.iload 4, 2) := by decide +kernel
theorem dX11_link_95 : decode cX11_link 95 = .ok (.iastore, 1) := by decide +kernel
theorem dX11_link_96 : decode cX11_link 96 = .ok (.iload 5, 2) := by decide +kernel
theorem dX11_link_98 : decode cX11_link 98 = .ok (.ifCond .eq 7, 3) := by decide +kernel
theorem dX11_link_101 : decode cX11_link 101 = .ok (.iconst 0, 1) := by decide +kernel
theorem dX11_link_102 : decode cX11_link 102 = .ok (.goto 4, 3) := by decide +kernel
theorem dX11_link_105 : decode cX11_link 105 = .ok (.iconst 1, 1) := by decide +kernel
theorem dX11_link_106 : decode cX11_link 106 = .ok (.ireturn, 1) := by decide +kernel
theorem dX11_cut_0 : decode cX11_cut 0 = .ok (.aload_n 0, 1) := by decide +kernel
theorem dX11_cut_1 : decode cX11_cut 1 = .ok (.iload_n 1, 1) := by decide +kernel
theorem dX11_cut_2 : decode cX11_cut 2 = .ok (.iload_n 2, 1) := by decide +kernel
theorem dX11_cut_3 : decode cX11_cut 3 = .ok (.invokevirtual 112, 3) := by decide +kernel
theorem dX11_cut_6 : decode cX11_cut 6 = .ok (.ifCond .ne 9, 3) := by decide +kernel
theorem dX11_cut_9 : decode cX11_cut 9 = .ok (.aload_n 0, 1) := by decide +kernel
theorem dX11_cut_10 : decode cX11_cut 10 = .ok (.iconst (-1), 1) := by decide +kernel
theorem dX11_cut_11 : decode cX11_cut 11 = .ok (.invokevirtual 104, 3) := by decide +kernel
theorem dX11_cut_14 : decode cX11_cut 14 = .ok (.ireturn, 1) := by decide +kernel
theorem dX11_cut_15 : decode cX11_cut 15 = .ok (.aload_n 0, 1) := by decide +kernel
theorem dX11_cut_16 : decode cX11_cut 16 = .ok (.iload_n 1, 1) := by decide +kernel
theorem dX11_cut_17 : decode cX11_cut 17 = .ok (.iload_n 2, 1) := by decide +kernel
theorem dX11_cut_18 : decode cX11_cut 18 = .ok (.invokevirtual 96, 3) := by decide +kernel
theorem dX11_cut_21 : decode cX11_cut 21 = .ok (.ifCond .ne 10, 3) := by decide +kernel
theorem dX11_cut_24 : decode cX11_cut 24 = .ok (.aload_n 0, 1) := by decide +kernel
theorem dX11_cut_25 : decode cX11_cut 25 = .ok (.bipush (-3), 2) := by decide +kernel
theorem dX11_cut_27 : decode cX11_cut 27 = .ok (.invokevirtual 104, 3) := by decide +kernel
theorem dX11_cut_30 : decode cX11_cut 30 = .ok (.ireturn, 1) := by decide +kernel
theorem dX11_cut_31 : decode cX11_cut 31 = .ok (.aload_n 0, 1) := by decide +kernel
theorem dX11_cut_32 : decode cX11_cut 32 = .ok (.getfield 13, 3) := by decide +kernel
theorem dX11_cut_35 : decode cX11_cut 35 = .ok (.bipush 16, 2) := by decide +kernel
theorem dX11_cut_37 : decode cX11_cut 37 = .ok (.iload_n 1, 1) := by decide +kernel
theorem dX11_cut_38 : decode cX11_cut 38 = .ok (.imul, 1) := by decide +kernel
theorem dX11_cut_39 : decode cX11_cut 39 = .ok (.iload_n 2, 1) := by decide +kernel
theorem dX11_cut_40 : decode cX11_cut 40 = .ok (.iadd, 1) := by decide +kernel
theorem dX11_cut_41 : decode cX11_cut 41 = .ok (.iconst 0, 1) := by decide +kernel
theorem dX11_cut_42 : decode cX11_cut 42 = .ok (.bastore, 1) := by decide +kernel
theorem dX11_cut_43 : decode cX11_cut 43 = .ok (.aload_n 0, 1) := by decide +kernel
theorem dX11_cut_44 : decode cX11_cut 44 = .ok (.getfield 17, 3) := by decide +kernel
theorem dX11_cut_47 : decode cX11_cut 47 = .ok (.bipush 16, 2) := by decide +kernel
theorem dX11_cut_49 : decode cX11_cut 49 = .ok (.iload_n 1, 1) := by decide +kernel
theorem dX11_cut_50 : decode cX11_cut 50 = .ok (.imul, 1) := by decide +kernel
theorem dX11_cut_51 : decode cX11_cut 51 = .ok (.iload_n 2, 1) := by decide +kernel
theorem dX11_cut_52 : decode cX11_cut 52 = .ok (.iadd, 1) := by decide +kernel
theorem dX11_cut_53 : decode cX11_cut 53 = .ok (.iconst 0, 1) := by decide +kernel
theorem dX11_cut_54 : decode cX11_cut 54 = .ok (.iastore, 1) := by decide +kernel
theorem dX11_cut_55 : decode cX11_cut 55 = .ok (.aload_n 0, 1) := by decide +kernel
theorem dX11_cut_56 : decode cX11_cut 56 = .ok (.getfield 21, 3) := by decide +kernel
theorem dX11_cut_59 : decode cX11_cut 59 = .ok (.bipush 16, 2) := by decide +kernel
theorem dX11_cut_61 : decode cX11_cut 61 = .ok (.iload_n 1, 1) := by decide +kernel
theorem dX11_cut_62 : decode cX11_cut 62 = .ok (.imul, 1) := by decide +kernel
theorem dX11_cut_63 : decode cX11_cut 63 = .ok (.iload_n 2, 1) := by decide +kernel
theorem dX11_cut_64 : decode cX11_cut 64 = .ok (.iadd, 1) := by decide +kernel
theorem dX11_cut_65 : decode cX11_cut 65 = .ok (.iconst 0, 1) := by decide +kernel
end
section
theorem dX11_cut_66 : decode cX11_cut 66 = .ok (.iastore, 1) := by decide +kernel
theorem dX11_cut_67 : decode cX11_cut 67 = .ok (.iconst 1, 1) := by decide +kernel
theorem dX11_cut_68 : decode cX11_cut 68 = .ok (.ireturn, 1) := by decide +kernel
theorem dX11_linkOf_0 : decode cX11_linkOf 0 = .ok (.aload_n 0, 1) := by decide +kernel
theorem dX11_linkOf_1 : decode cX11_linkOf 1 = .ok (.iload_n 1, 1) := by decide +kernel
theorem dX11_linkOf_2 : decode cX11_linkOf 2 = .ok (.iload_n 2, 1) := by decide +kernel
theorem dX11_linkOf_3 : decode cX11_linkOf 3 = .ok (.invokevirtual 112, 3) := by decide +kernel
theorem dX11_linkOf_6 : decode cX11_linkOf 6 = .ok (.ifCond .ne 9, 3) := by decide +kernel
theorem dX11_linkOf_9 : decode cX11_linkOf 9 = .ok (.aload_n 0, 1) := by decide +kernel
theorem dX11_linkOf_10 : decode cX11_linkOf 10 = .ok (.iconst (-1), 1) := by decide +kernel
theorem dX11_linkOf_11 : decode cX11_linkOf 11 = .ok (.invokevirtual 104, 3) := by decide +kernel
theorem dX11_linkOf_14 : decode cX11_linkOf 14 = .ok (.ireturn, 1) := by decide +kernel
theorem dX11_linkOf_15 : decode cX11_linkOf 15 = .ok (.iload_n 3, 1) := by decide +kernel
theorem dX11_linkOf_16 : decode cX11_linkOf 16 = .ok (.iconst 0, 1) := by decide +kernel
theorem dX11_linkOf_17 : decode cX11_linkOf 17 = .ok (.iconst 2, 1) := by decide +kernel
theorem dX11_linkOf_18 : decode cX11_linkOf 18 = .ok (.invokestatic 86, 3) := by decide +kernel
theorem dX11_linkOf_21 : decode cX11_linkOf 21 = .ok (.ifCond .ne 10, 3) := by decide +kernel
theorem dX11_linkOf_24 : decode cX11_linkOf 24 = .ok (.aload_n 0, 1) := by decide +kernel
theorem dX11_linkOf_25 : decode cX11_linkOf 25 = .ok (.bipush (-2), 2) := by decide +kernel
theorem dX11_linkOf_27 : decode cX11_linkOf 27 = .ok (.invokevirtual 104, 3) := by decide +kernel
theorem dX11_linkOf_30 : decode cX11_linkOf 30 = .ok (.ireturn, 1) := by decide +kernel
theorem dX11_linkOf_31 : decode cX11_linkOf 31 = .ok (.iload_n 3, 1) := by decide +kernel
theorem dX11_linkOf_32 : decode cX11_linkOf 32 = .ok (.ifCond .ne 20, 3) := by decide +kernel
theorem dX11_linkOf_35 : decode cX11_linkOf 35 = .ok (.aload_n 0, 1) := by decide +kernel
theorem dX11_linkOf_36 : decode cX11_linkOf 36 = .ok (.iload_n 1, 1) := by decide +kernel
theorem dX11_linkOf_37 : decode cX11_linkOf 37 = .ok (.iload_n 2, 1) := by decide +kernel
theorem dX11_linkOf_38 : decode cX11_linkOf 38 = .ok (.invokevirtual 96, 3) := by decide +kernel
theorem dX11_linkOf_41 : decode cX11_linkOf 41 = .ok (.ifCond .eq 7, 3) := by decide +kernel
theorem dX11_linkOf_44 : decode cX11_linkOf 44 = .ok (.iconst 1, 1) := by decide +kernel
theorem dX11_linkOf_45 : decode cX11_linkOf 45 = .ok (.goto 37, 3) := by decide +kernel
theorem dX11_linkOf_48 : decode cX11_linkOf 48 = .ok (.iconst 0, 1) := by decide +kernel
theorem dX11_linkOf_49 : decode cX11_linkOf 49 = .ok (.goto 33, 3) := by decide +kernel
theorem dX11_linkOf_52 : decode cX11_linkOf 52 = .ok (.iload_n 3, 1) := by decide +kernel
theorem dX11_linkOf_53 : decode cX11_linkOf 53 = .ok (.iconst 1, 1) := by decide +kernel
theorem dX11_linkOf_54 : decode cX11_linkOf 54 = .ok (.if_icmp .ne 17, 3) := by decide +kernel
theorem dX11_linkOf_57 : decode cX11_linkOf 57 = .ok (.aload_n 0, 1) := by decide +kernel
theorem dX11_linkOf_58 : decode cX11_linkOf 58 = .ok (.getfield 17, 3) := by decide +kernel
theorem dX11_linkOf_61 : decode cX11_linkOf 61 = .ok (.bipush 16, 2) := by decide +kernel
theorem dX11_linkOf_63 : decode cX11_linkOf 63 = .ok (.iload_n 1, 1) := by decide +kernel
theorem dX11_linkOf_64 : decode cX11_linkOf 64 = .ok (.imul, 1) := by decide +kernel
theorem dX11_linkOf_65 : decode cX11_linkOf 65 = .ok (.iload_n 2, 1) := by decide +kernel
theorem dX11_linkOf_66 : decode cX11_linkOf 66 = .ok (.iadd, 1) := by decide +kernel
theorem dX11_linkOf_67 : decode cX11_linkOf 67 = .ok (.iaload, 1) := by decide +kernel
theorem dX11_linkOf_68 : decode cX11_linkOf 68 = .ok (.goto 14, 3) := by decide +kernel
theorem dX11_linkOf_71 : decode cX11_linkOf 71 = .ok (.aload_n 0, 1) := by decide +kernel
theorem dX11_linkOf_72 : decode cX11_linkOf 72 = .ok (.getfield 21, 3) := by decide +kernel
theorem dX11_linkOf_75 : decode cX11_linkOf 75 = .ok (.bipush 16, 2) := by decide +kernel
theorem dX11_linkOf_77 : decode cX11_linkOf 77 = .ok (.iload_n 1, 1) := by decide +kernel
theorem dX11_linkOf_78 : decode cX11_linkOf 78 = .ok (.imul, 1) := by decide +kernel
theorem dX11_linkOf_79 : decode cX11_linkOf 79 = .ok (.iload_n 2, 1) := by decide +kernel
theorem dX11_linkOf_80 : decode cX11_linkOf 80 = .ok (.iadd, 1) := by decide +kernel
theorem dX11_linkOf_81 : decode cX11_linkOf 81 = .ok (.iaload, 1) := by decide +kernel
theorem dX11_linkOf_82 : decode cX11_linkOf 82 = .ok (.ireturn, 1) := by decide +kernel
theorem dX11_links_0 : decode cX11_links 0 = .ok (.iconst 0, 1) := by decide +kernel
theorem dX11_links_1 : decode cX11_links 1 = .ok (.istore_n 1, 1) := by decide +kernel
theorem dX11_links_2 : decode cX11_links 2 = .ok (.iconst 0, 1) := by decide +kernel
theorem dX11_links_3 : decode cX11_links 3 = .ok (.istore_n 2, 1) := by decide +kernel
theorem dX11_links_4 : decode cX11_links 4 = .ok (.iload_n 2, 1) := by decide +kernel
theorem dX11_links_5 : decode cX11_links 5 = .ok (.sipush 256, 3) := by decide +kernel
theorem dX11_links_8 : decode cX11_links 8 = .ok (.if_icmp .ge 26, 3) := by decide +kernel
theorem dX11_links_11 : decode cX11_links 11 = .ok (.iload_n 1, 1) := by decide +kernel
theorem dX11_links_12 : decode cX11_links 12 = .ok (.aload_n 0, 1) := by decide +kernel
theorem dX11_links_13 : decode cX11_links 13 = .ok (.getfield 13, 3) := by decide +kernel
theorem dX11_links_16 : decode cX11_links 16 = .ok (.iload_n 2, 1) := by decide +kernel
theorem dX11_links_17 : decode cX11_links 17 = .ok (.baload, 1) := by decide +kernel
theorem dX11_links_18 : decode cX11_links 18 = .ok (.ifCond .eq 7, 3) := by decide +kernel
theorem dX11_links_21 : decode cX11_links 21 = .ok (.iconst 1, 1) := by decide +kernel
theorem dX11_links_22 : decode cX11_links 22 = .ok (.goto 4, 3) := by decide +kernel
theorem dX11_links_25 : decode cX11_links 25 = .ok (.iconst 0, 1) := by decide +kernel
theorem dX11_links_26 : decode cX11_links 26 = .ok (.iadd, 1) := by decide +kernel
theorem dX11_links_27 : decode cX11_links 27 = .ok (.istore_n 1, 1) := by decide +kernel
theorem dX11_links_28 : decode cX11_links 28 = .ok (.iinc 2 1, 3) := by decide +kernel
theorem dX11_links_31 : decode cX11_links 31 = .ok (.goto (-27), 3) := by decide +kernel
theorem dX11_links_34 : decode cX11_links 34 = .ok (.iload_n 1, 1) := by decide +kernel
theorem dX11_links_35 : decode cX11_links 35 = .ok (.ireturn, 1) := by decide +kernel
theorem dX11_linkAt_0 : decode cX11_linkAt 0 = .ok (.iload_n 1, 1) := by decide +kernel
theorem dX11_linkAt_1 : decode cX11_linkAt 1 = .ok (.istore_n 2, 1) := by decide +kernel
theorem dX11_linkAt_2 : decode cX11_linkAt 2 = .ok (.iconst 0, 1) := by decide +kernel
theorem dX11_linkAt_3 : decode cX11_linkAt 3 = .ok (.istore_n 3, 1) := by decide +kernel
theorem dX11_linkAt_4 : decode cX11_linkAt 4 = .ok (.iload_n 3, 1) := by decide +kernel
theorem dX11_linkAt_5 : decode cX11_linkAt 5 = .ok (.sipush 256, 3) := by decide +kernel
theorem dX11_linkAt_8 : decode cX11_linkAt 8 = .ok (.if_icmp .ge 31, 3) := by decide +kernel
theorem dX11_linkAt_11 : decode cX11_linkAt 11 = .ok (.iload_n 1, 1) := by decide +kernel
theorem dX11_linkAt_12 : decode cX11_linkAt 12 = .ok (.ifCond .lt 27, 3) := by decide +kernel
theorem dX11_linkAt_15 : decode cX11_linkAt 15 = .ok (.aload_n 0, 1) := by decide +kernel
theorem dX11_linkAt_16 : decode cX11_linkAt 16 = .ok (.getfield 13, 3) := by decide +kernel
theorem dX11_linkAt_19 : decode cX11_linkAt 19 = .ok (.iload_n 3, 1) := by decide +kernel
theorem dX11_linkAt_20 : decode cX11_linkAt 20 = .ok (.baload, 1) := by decide +kernel
theorem dX11_linkAt_21 : decode cX11_linkAt 21 = .ok (.ifCond .eq 12, 3) := by decide +kernel
theorem dX11_linkAt_24 : decode cX11_linkAt 24 = .ok (.iload_n 2, 1) := by decide +kernel
theorem dX11_linkAt_25 : decode cX11_linkAt 25 = .ok (.ifCond .ne 5, 3) := by decide +kernel
theorem dX11_linkAt_28 : decode cX11_linkAt 28 = .ok (.iload_n 3, 1) := by decide +kernel
theorem dX11_linkAt_29 : decode cX11_linkAt 29 = .ok (.ireturn, 1) := by decide +kernel
theorem dX11_linkAt_30 : decode cX11_linkAt 30 = .ok (.iinc 2 (-1), 3) := by decide +kernel
theorem dX11_linkAt_33 : decode cX11_linkAt 33 = .ok (.iinc 3 1, 3) := by decide +kernel
theorem dX11_linkAt_36 : decode cX11_linkAt 36 = .ok (.goto (-32), 3) := by decide +kernel
theorem dX11_linkAt_39 : decode cX11_linkAt 39 = .ok (.iconst (-1), 1) := by decide +kernel
theorem dX11_linkAt_40 : decode cX11_linkAt 40 = .ok (.ireturn, 1) := by decide +kernel
theorem dX11_at_0 : decode cX11_at 0 = .ok (.aload_n 0, 1) := by decide +kernel
theorem dX11_at_1 : decode cX11_at 1 = .ok (.iload_n 1, 1) := by decide +kernel
theorem dX11_at_2 : decode cX11_at 2 = .ok (.invokevirtual 115, 3) := by decide +kernel
theorem dX11_at_5 : decode cX11_at 5 = .ok (.istore_n 3, 1) := by decide +kernel
theorem dX11_at_6 : decode cX11_at 6 = .ok (.iload_n 3, 1) := by decide +kernel
theorem dX11_at_7 : decode cX11_at 7 = .ok (.ifCond .ge 9, 3) := by decide +kernel
theorem dX11_at_10 : decode cX11_at 10 = .ok (.aload_n 0, 1) := by decide +kernel
theorem dX11_at_11 : decode cX11_at 11 = .ok (.iconst (-1), 1) := by decide +kernel
theorem dX11_at_12 : decode cX11_at 12 = .ok (.invokevirtual 104, 3) := by decide +kernel
theorem dX11_at_15 : decode cX11_at 15 = .ok (.ireturn, 1) := by decide +kernel
theorem dX11_at_16 : decode cX11_at 16 = .ok (.iload_n 2, 1) := by decide +kernel
theorem dX11_at_17 : decode cX11_at 17 = .ok (.iconst 0, 1) := by decide +kernel
theorem dX11_at_18 : decode cX11_at 18 = .ok (.iconst 1, 1) := by decide +kernel
theorem dX11_at_19 : decode cX11_at 19 = .ok (.invokestatic 86, 3) := by decide +kernel
theorem dX11_at_22 : decode cX11_at 22 = .ok (.ifCond .ne 10, 3) := by decide +kernel
theorem dX11_at_25 : decode cX11_at 25 = .ok (.aload_n 0, 1) := by decide +kernel
theorem dX11_at_26 : decode cX11_at 26 = .ok (.bipush (-2), 2) := by decide +kernel
theorem dX11_at_28 : decode cX11_at 28 = .ok (.invokevirtual 104, 3) := by decide +kernel
theorem dX11_at_31 : decode cX11_at 31 = .ok (.ireturn, 1) := by decide +kernel
theorem dX11_at_32 : decode cX11_at 32 = .ok (.iload_n 2, 1) := by decide +kernel
theorem dX11_at_33 : decode cX11_at 33 = .ok (.ifCond .ne 10, 3) := by decide +kernel
theorem dX11_at_36 : decode cX11_at 36 = .ok (.iload_n 3, 1) := by decide +kernel
theorem dX11_at_37 : decode cX11_at 37 = .ok (.bipush 16, 2) := by decide +kernel
theorem dX11_at_39 : decode cX11_at 39 = .ok (.idiv, 1) := by decide +kernel
theorem dX11_at_40 : decode cX11_at 40 = .ok (.goto 7, 3) := by decide +kernel
theorem dX11_at_43 : decode cX11_at 43 = .ok (.iload_n 3, 1) := by decide +kernel
theorem dX11_at_44 : decode cX11_at 44 = .ok (.bipush 16, 2) := by decide +kernel
theorem dX11_at_46 : decode cX11_at 46 = .ok (.irem, 1) := by decide +kernel
theorem dX11_at_47 : decode cX11_at 47 = .ok (.ireturn, 1) := by decide +kernel
theorem dX11_areThree_0 : decode cX11_areThree 0 = .ok (.aload_n 0, 1) := by decide +kernel
theorem dX11_areThree_1 : decode cX11_areThree 1 = .ok (.iload_n 1, 1) := by decide +kernel
theorem dX11_areThree_2 : decode cX11_areThree 2 = .ok (.iload_n 2, 1) := by decide +kernel
theorem dX11_areThree_3 : decode cX11_areThree 3 = .ok (.invokevirtual 112, 3) := by decide +kernel
theorem dX11_areThree_6 : decode cX11_areThree 6 = .ok (.ifCond .eq 25, 3) := by decide +kernel
theorem dX11_areThree_9 : decode cX11_areThree 9 = .ok (.aload_n 0, 1) := by decide +kernel
theorem dX11_areThree_10 : decode cX11_areThree 10 = .ok (.iload_n 1, 1) := by decide +kernel
theorem dX11_areThree_11 : decode cX11_areThree 11 = .ok (.iload_n 3, 1) := by decide +kernel
theorem dX11_areThree_12 : decode cX11_areThree 12 = .ok (.invokevirtual 112, 3) := by decide +kernel
theorem dX11_areThree_15 : decode cX11_areThree 15 = .ok (.ifCond .eq 16, 3) := by decide +kernel
theorem dX11_areThree_18 : decode cX11_areThree 18 = .ok (.aload_n 0, 1) := by decide +kernel
theorem dX11_areThree_19 : decode cX11_areThree 19 = .ok (.iload_n 2, 1) := by decide +kernel
theorem dX11_areThree_20 : decode cX11_areThree 20 = .ok (.iload_n 3, 1) := by decide +kernel
theorem dX11_areThree_21 : decode cX11_areThree 21 = .ok (.invokevirtual 112, 3) := by decide +kernel
theorem dX11_areThree_24 : decode cX11_areThree 24 = .ok (.ifCond .eq 7, 3) := by decide +kernel
theorem dX11_areThree_27 : decode cX11_areThree 27 = .ok (.iconst 1, 1) := by decide +kernel
theorem dX11_areThree_28 : decode cX11_areThree 28 = .ok (.goto 4, 3) := by decide +kernel
theorem dX11_areThree_31 : decode cX11_areThree 31 = .ok (.iconst 0, 1) := by decide +kernel
theorem dX11_areThree_32 : decode cX11_areThree 32 = .ok (.ireturn, 1) := by decide +kernel
theorem dX11_shape_0 : decode cX11_shape 0 = .ok (.aload_n 0, 1) := by decide +kernel
theorem dX11_shape_1 : decode cX11_shape 1 = .ok (.iload_n 1, 1) := by decide +kernel
theorem dX11_shape_2 : decode cX11_shape 2 = .ok (.iload_n 2, 1) := by decide +kernel
theorem dX11_shape_3 : decode cX11_shape 3 = .ok (.iload_n 3, 1) := by decide +kernel
theorem dX11_shape_4 : decode cX11_shape 4 = .ok (.invokevirtual 118, 3) := by decide +kernel
theorem dX11_shape_7 : decode cX11_shape 7 = .ok (.ifCond .eq 13, 3) := by decide +kernel
theorem dX11_shape_10 : decode cX11_shape 10 = .ok (.aload_n 0, 1) := by decide +kernel
theorem dX11_shape_11 : decode cX11_shape 11 = .ok (.iload_n 1, 1) := by decide +kernel
theorem dX11_shape_12 : decode cX11_shape 12 = .ok (.iload_n 2, 1) := by decide +kernel
theorem dX11_shape_13 : decode cX11_shape 13 = .ok (.iload_n 3, 1) := by decide +kernel
theorem dX11_shape_14 : decode cX11_shape 14 = .ok (.invokevirtual 121, 3) := by decide +kernel
theorem dX11_shape_17 : decode cX11_shape 17 = .ok (.goto 8, 3) := by decide +kernel
theorem dX11_shape_20 : decode cX11_shape 20 = .ok (.aload_n 0, 1) := by decide +kernel
theorem dX11_shape_21 : decode cX11_shape 21 = .ok (.iconst (-1), 1) := by decide +kernel
theorem dX11_shape_22 : decode cX11_shape 22 = .ok (.invokevirtual 104, 3) := by decide +kernel
theorem dX11_shape_25 : decode cX11_shape 25 = .ok (.ireturn, 1) := by decide +kernel
theorem dX11_shapeOf_0 : decode cX11_shapeOf 0 = .ok (.iload_n 1, 1) := by decide +kernel
theorem dX11_shapeOf_1 : decode cX11_shapeOf 1 = .ok (.invokestatic 124, 3) := by decide +kernel
theorem dX11_shapeOf_4 : decode cX11_shapeOf 4 = .ok (.ifCond .ne 9, 3) := by decide +kernel
theorem dX11_shapeOf_7 : decode cX11_shapeOf 7 = .ok (.aload_n 0, 1) := by decide +kernel
theorem dX11_shapeOf_8 : decode cX11_shapeOf 8 = .ok (.iconst (-1), 1) := by decide +kernel
theorem dX11_shapeOf_9 : decode cX11_shapeOf 9 = .ok (.invokevirtual 104, 3) := by decide +kernel
theorem dX11_shapeOf_12 : decode cX11_shapeOf 12 = .ok (.ireturn, 1) := by decide +kernel
theorem dX11_shapeOf_13 : decode cX11_shapeOf 13 = .ok (.iload_n 2, 1) := by decide +kernel
theorem dX11_shapeOf_14 : decode cX11_shapeOf 14 = .ok (.iconst 0, 1) := by decide +kernel
theorem dX11_shapeOf_15 : decode cX11_shapeOf 15 = .ok (.iconst 3, 1) := by decide +kernel
theorem dX11_shapeOf_16 : decode cX11_shapeOf 16 = .ok (.invokestatic 86, 3) := by decide +kernel
theorem dX11_shapeOf_19 : decode cX11_shapeOf 19 = .ok (.ifCond .ne 10, 3) := by decide +kernel
theorem dX11_shapeOf_22 : decode cX11_shapeOf 22 = .ok (.aload_n 0, 1) := by decide +kernel
theorem dX11_shapeOf_23 : decode cX11_shapeOf 23 = .ok (.bipush (-2), 2) := by decide +kernel
theorem dX11_shapeOf_25 : decode cX11_shapeOf 25 = .ok (.invokevirtual 104, 3) := by decide +kernel
theorem dX11_shapeOf_28 : decode cX11_shapeOf 28 = .ok (.ireturn, 1) := by decide +kernel
theorem dX11_shapeOf_29 : decode cX11_shapeOf 29 = .ok (.aload_n 0, 1) := by decide +kernel
theorem dX11_shapeOf_30 : decode cX11_shapeOf 30 = .ok (.getfield 45, 3) := by decide +kernel
theorem dX11_shapeOf_33 : decode cX11_shapeOf 33 = .ok (.iload_n 1, 1) := by decide +kernel
theorem dX11_shapeOf_34 : decode cX11_shapeOf 34 = .ok (.iaload, 1) := by decide +kernel
theorem dX11_shapeOf_35 : decode cX11_shapeOf 35 = .ok (.istore_n 3, 1) := by decide +kernel
theorem dX11_shapeOf_36 : decode cX11_shapeOf 36 = .ok (.iload_n 2, 1) := by decide +kernel
theorem dX11_shapeOf_37 : decode cX11_shapeOf 37 = .ok (.ifCond .ne 5, 3) := by decide +kernel
theorem dX11_shapeOf_40 : decode cX11_shapeOf 40 = .ok (.iload_n 3, 1) := by decide +kernel
theorem dX11_shapeOf_41 : decode cX11_shapeOf 41 = .ok (.ireturn, 1) := by decide +kernel
theorem dX11_shapeOf_42 : decode cX11_shapeOf 42 = .ok (.iload_n 2, 1) := by decide +kernel
theorem dX11_shapeOf_43 : decode cX11_shapeOf 43 = .ok (.iconst 2, 1) := by decide +kernel
theorem dX11_shapeOf_44 : decode cX11_shapeOf 44 = .ok (.if_icmp .ne 8, 3) := by decide +kernel
theorem dX11_shapeOf_47 : decode cX11_shapeOf 47 = .ok (.iload_n 3, 1) := by decide +kernel
theorem dX11_shapeOf_48 : decode cX11_shapeOf 48 = .ok (.invokestatic 127, 3) := by decide +kernel
theorem dX11_shapeOf_51 : decode cX11_shapeOf 51 = .ok (.ireturn, 1) := by decide +kernel
theorem dX11_shapeOf_52 : decode cX11_shapeOf 52 = .ok (.iconst 0, 1) := by decide +kernel
theorem dX11_shapeOf_53 : decode cX11_shapeOf 53 = .ok (.istore 4, 2) := by decide +kernel
theorem dX11_shapeOf_55 : decode cX11_shapeOf 55 = .ok (.iconst 0, 1) := by decide +kernel
theorem dX11_shapeOf_56 : decode cX11_shapeOf 56 = .ok (.istore 5, 2) := by decide +kernel
theorem dX11_shapeOf_58 : decode cX11_shapeOf 58 = .ok (.iload 5, 2) := by decide +kernel
theorem dX11_shapeOf_60 : decode cX11_shapeOf 60 = .ok (.bipush 64, 2) := by decide +kernel
theorem dX11_shapeOf_62 : decode cX11_shapeOf 62 = .ok (.if_icmp .ge 35, 3) := by decide +kernel
theorem dX11_shapeOf_65 : decode cX11_shapeOf 65 = .ok (.iload_n 2, 1) := by decide +kernel
theorem dX11_shapeOf_66 : decode cX11_shapeOf 66 = .ok (.iconst 1, 1) := by decide +kernel
theorem dX11_shapeOf_67 : decode cX11_shapeOf 67 = .ok (.if_icmp .ne 30, 3) := by decide +kernel
theorem dX11_shapeOf_70 : decode cX11_shapeOf 70 = .ok (.iload 4, 2) := by decide +kernel
theorem dX11_shapeOf_72 : decode cX11_shapeOf 72 = .ok (.aload_n 0, 1) := by decide +kernel
theorem dX11_shapeOf_73 : decode cX11_shapeOf 73 = .ok (.getfield 42, 3) := by decide +kernel
theorem dX11_shapeOf_76 : decode cX11_shapeOf 76 = .ok (.iload 5, 2) := by decide +kernel
theorem dX11_shapeOf_78 : decode cX11_shapeOf 78 = .ok (.iaload, 1) := by decide +kernel
theorem dX11_shapeOf_79 : decode cX11_shapeOf 79 = .ok (.iload_n 3, 1) := by decide +kernel
theorem dX11_shapeOf_80 : decode cX11_shapeOf 80 = .ok (.if_icmp .ne 7, 3) := by decide +kernel
theorem dX11_shapeOf_83 : decode cX11_shapeOf 83 = .ok (.iconst 1, 1) := by decide +kernel
theorem dX11_shapeOf_84 : decode cX11_shapeOf 84 = .ok (.goto 4, 3) := by decide +kernel
theorem dX11_shapeOf_87 : decode cX11_shapeOf 87 = .ok (.iconst 0, 1) := by decide +kernel
theorem dX11_shapeOf_88 : decode cX11_shapeOf 88 = .ok (.iadd, 1) := by decide +kernel
theorem dX11_shapeOf_89 : decode cX11_shapeOf 89 = .ok (.istore 4, 2) := by decide +kernel
theorem dX11_shapeOf_91 : decode cX11_shapeOf 91 = .ok (.iinc 5 1, 3) := by decide +kernel
theorem dX11_shapeOf_94 : decode cX11_shapeOf 94 = .ok (.goto (-36), 3) := by decide +kernel
theorem dX11_shapeOf_97 : decode cX11_shapeOf 97 = .ok (.iconst 0, 1) := by decide +kernel
theorem dX11_shapeOf_98 : decode cX11_shapeOf 98 = .ok (.istore 5, 2) := by decide +kernel
theorem dX11_shapeOf_100 : decode cX11_shapeOf 100 = .ok (.iload 5, 2) := by decide +kernel
theorem dX11_shapeOf_102 : decode cX11_shapeOf 102 = .ok (.iconst 3, 1) := by decide +kernel
theorem dX11_shapeOf_103 : decode cX11_shapeOf 103 = .ok (.if_icmp .ge 71, 3) := by decide +kernel
theorem dX11_shapeOf_106 : decode cX11_shapeOf 106 = .ok (.iload_n 2, 1) := by decide +kernel
theorem dX11_shapeOf_107 : decode cX11_shapeOf 107 = .ok (.iconst 3, 1) := by decide +kernel
theorem dX11_shapeOf_108 : decode cX11_shapeOf 108 = .ok (.if_icmp .ne 66, 3) := by decide +kernel
theorem dX11_shapeOf_111 : decode cX11_shapeOf 111 = .ok (.iconst 0, 1) := by decide +kernel
theorem dX11_shapeOf_112 : decode cX11_shapeOf 112 = .ok (.istore 6, 2) := by decide +kernel
theorem dX11_shapeOf_114 : decode cX11_shapeOf 114 = .ok (.iconst 0, 1) := by decide +kernel
theorem dX11_shapeOf_115 : decode cX11_shapeOf 115 = .ok (.istore 7, 2) := by decide +kernel
theorem dX11_shapeOf_117 : decode cX11_shapeOf 117 = .ok (.iload 7, 2) := by decide +kernel
theorem dX11_shapeOf_119 : decode cX11_shapeOf 119 = .ok (.iconst 3, 1) := by decide +kernel
theorem dX11_shapeOf_120 : decode cX11_shapeOf 120 = .ok (.if_icmp .ge 33, 3) := by decide +kernel
theorem dX11_shapeOf_123 : decode cX11_shapeOf 123 = .ok (.iload 6, 2) := by decide +kernel
theorem dX11_shapeOf_125 : decode cX11_shapeOf 125 = .ok (.ifCond .ne 15, 3) := by decide +kernel
theorem dX11_shapeOf_128 : decode cX11_shapeOf 128 = .ok (.aload_n 0, 1) := by decide +kernel
theorem dX11_shapeOf_129 : decode cX11_shapeOf 129 = .ok (.iload_n 3, 1) := by decide +kernel
theorem dX11_shapeOf_130 : decode cX11_shapeOf 130 = .ok (.iload 7, 2) := by decide +kernel
theorem dX11_shapeOf_132 : decode cX11_shapeOf 132 = .ok (.invokevirtual 130, 3) := by decide +kernel
theorem dX11_shapeOf_135 : decode cX11_shapeOf 135 = .ok (.iload 5, 2) := by decide +kernel
theorem dX11_shapeOf_137 : decode cX11_shapeOf 137 = .ok (.if_icmp .ne 7, 3) := by decide +kernel
theorem dX11_shapeOf_140 : decode cX11_shapeOf 140 = .ok (.iconst 1, 1) := by decide +kernel
theorem dX11_shapeOf_141 : decode cX11_shapeOf 141 = .ok (.goto 4, 3) := by decide +kernel
theorem dX11_shapeOf_144 : decode cX11_shapeOf 144 = .ok (.iconst 0, 1) := by decide +kernel
theorem dX11_shapeOf_145 : decode cX11_shapeOf 145 = .ok (.istore 6, 2) := by decide +kernel
theorem dX11_shapeOf_147 : decode cX11_shapeOf 147 = .ok (.iinc 7 1, 3) := by decide +kernel
theorem dX11_shapeOf_150 : decode cX11_shapeOf 150 = .ok (.goto (-33), 3) := by decide +kernel
theorem dX11_shapeOf_153 : decode cX11_shapeOf 153 = .ok (.iload 4, 2) := by decide +kernel
theorem dX11_shapeOf_155 : decode cX11_shapeOf 155 = .ok (.iload 6, 2) := by decide +kernel
theorem dX11_shapeOf_157 : decode cX11_shapeOf 157 = .ok (.ifCond .eq 7, 3) := by decide +kernel
theorem dX11_shapeOf_160 : decode cX11_shapeOf 160 = .ok (.iconst 1, 1) := by decide +kernel
theorem dX11_shapeOf_161 : decode cX11_shapeOf 161 = .ok (.goto 4, 3) := by decide +kernel
theorem dX11_shapeOf_164 : decode cX11_shapeOf 164 = .ok (.iconst 0, 1) := by decide +kernel
theorem dX11_shapeOf_165 : decode cX11_shapeOf 165 = .ok (.iadd, 1) := by decide +kernel
theorem dX11_shapeOf_166 : decode cX11_shapeOf 166 = .ok (.istore 4, 2) := by decide +kernel
theorem dX11_shapeOf_168 : decode cX11_shapeOf 168 = .ok (.iinc 5 1, 3) := by decide +kernel
theorem dX11_shapeOf_171 : decode cX11_shapeOf 171 = .ok (.goto (-71), 3) := by decide +kernel
theorem dX11_shapeOf_174 : decode cX11_shapeOf 174 = .ok (.iload 4, 2) := by decide +kernel
theorem dX11_shapeOf_176 : decode cX11_shapeOf 176 = .ok (.ireturn, 1) := by decide +kernel
theorem dX11_place_0 : decode cX11_place 0 = .ok (.aload_n 0, 1) := by decide +kernel
theorem dX11_place_1 : decode cX11_place 1 = .ok (.iload_n 1, 1) := by decide +kernel
theorem dX11_place_2 : decode cX11_place 2 = .ok (.iload_n 2, 1) := by decide +kernel
theorem dX11_place_3 : decode cX11_place 3 = .ok (.iload_n 3, 1) := by decide +kernel
theorem dX11_place_4 : decode cX11_place 4 = .ok (.invokevirtual 118, 3) := by decide +kernel
theorem dX11_place_7 : decode cX11_place 7 = .ok (.ifCond .eq 18, 3) := by decide +kernel
theorem dX11_place_10 : decode cX11_place 10 = .ok (.aload_n 0, 1) := by decide +kernel
theorem dX11_place_11 : decode cX11_place 11 = .ok (.aload_n 0, 1) := by decide +kernel
theorem dX11_place_12 : decode cX11_place 12 = .ok (.iload_n 1, 1) := by decide +kernel
theorem dX11_place_13 : decode cX11_place 13 = .ok (.iload_n 2, 1) := by decide +kernel
theorem dX11_place_14 : decode cX11_place 14 = .ok (.iload_n 3, 1) := by decide +kernel
theorem dX11_place_15 : decode cX11_place 15 = .ok (.invokevirtual 100, 3) := by decide +kernel
theorem dX11_place_18 : decode cX11_place 18 = .ok (.iconst 0, 1) := by decide +kernel
theorem dX11_place_19 : decode cX11_place 19 = .ok (.invokevirtual 130, 3) := by decide +kernel
theorem dX11_place_22 : decode cX11_place 22 = .ok (.goto 8, 3) := by decide +kernel
theorem dX11_place_25 : decode cX11_place 25 = .ok (.aload_n 0, 1) := by decide +kernel
theorem dX11_place_26 : decode cX11_place 26 = .ok (.iconst (-1), 1) := by decide +kernel
theorem dX11_place_27 : decode cX11_place 27 = .ok (.invokevirtual 104, 3) := by decide +kernel
theorem dX11_place_30 : decode cX11_place 30 = .ok (.ireturn, 1) := by decide +kernel
theorem dX11_countShape_0 : decode cX11_countShape 0 = .ok (.iconst 0, 1) := by decide +kernel
theorem dX11_countShape_1 : decode cX11_countShape 1 = .ok (.istore_n 2, 1) := by decide +kernel
theorem dX11_countShape_2 : decode cX11_countShape 2 = .ok (.iconst 0, 1) := by decide +kernel
theorem dX11_countShape_3 : decode cX11_countShape 3 = .ok (.istore_n 3, 1) := by decide +kernel
theorem dX11_countShape_4 : decode cX11_countShape 4 = .ok (.iload_n 3, 1) := by decide +kernel
theorem dX11_countShape_5 : decode cX11_countShape 5 = .ok (.aload_n 0, 1) := by decide +kernel
theorem dX11_countShape_6 : decode cX11_countShape 6 = .ok (.getfield 7, 3) := by decide +kernel
theorem dX11_countShape_9 : decode cX11_countShape 9 = .ok (.if_icmp .ge 71, 3) := by decide +kernel
theorem dX11_countShape_12 : decode cX11_countShape 12 = .ok (.iload_n 3, 1) := by decide +kernel
theorem dX11_countShape_13 : decode cX11_countShape 13 = .ok (.iconst 1, 1) := by decide +kernel
theorem dX11_countShape_14 : decode cX11_countShape 14 = .ok (.iadd, 1) := by decide +kernel
theorem dX11_countShape_15 : decode cX11_countShape 15 = .ok (.istore 4, 2) := by decide +kernel
theorem dX11_countShape_17 : decode cX11_countShape 17 = .ok (.iload 4, 2) := by decide +kernel
theorem dX11_countShape_19 : decode cX11_countShape 19 = .ok (.aload_n 0, 1) := by decide +kernel
theorem dX11_countShape_20 : decode cX11_countShape 20 = .ok (.getfield 7, 3) := by decide +kernel
theorem dX11_countShape_23 : decode cX11_countShape 23 = .ok (.if_icmp .ge 51, 3) := by decide +kernel
theorem dX11_countShape_26 : decode cX11_countShape 26 = .ok (.iload 4, 2) := by decide +kernel
theorem dX11_countShape_28 : decode cX11_countShape 28 = .ok (.iconst 1, 1) := by decide +kernel
theorem dX11_countShape_29 : decode cX11_countShape 29 = .ok (.iadd, 1) := by decide +kernel
theorem dX11_countShape_30 : decode cX11_countShape 30 = .ok (.istore 5, 2) := by decide +kernel
theorem dX11_countShape_32 : decode cX11_countShape 32 = .ok (.iload 5, 2) := by decide +kernel
theorem dX11_countShape_34 : decode cX11_countShape 34 = .ok (.aload_n 0, 1) := by decide +kernel
theorem dX11_countShape_35 : decode cX11_countShape 35 = .ok (.getfield 7, 3) := by decide +kernel
theorem dX11_countShape_38 : decode cX11_countShape 38 = .ok (.if_icmp .ge 30, 3) := by decide +kernel
theorem dX11_countShape_41 : decode cX11_countShape 41 = .ok (.iload_n 2, 1) := by decide +kernel
theorem dX11_countShape_42 : decode cX11_countShape 42 = .ok (.aload_n 0, 1) := by decide +kernel
theorem dX11_countShape_43 : decode cX11_countShape 43 = .ok (.iload_n 3, 1) := by decide +kernel
theorem dX11_countShape_44 : decode cX11_countShape 44 = .ok (.iload 4, 2) := by decide +kernel
theorem dX11_countShape_46 : decode cX11_countShape 46 = .ok (.iload 5, 2) := by decide +kernel
theorem dX11_countShape_48 : decode cX11_countShape 48 = .ok (.invokevirtual 121, 3) := by decide +kernel
theorem dX11_countShape_51 : decode cX11_countShape 51 = .ok (.iload_n 1, 1) := by decide +kernel
theorem dX11_countShape_52 : decode cX11_countShape 52 = .ok (.if_icmp .ne 7, 3) := by decide +kernel
theorem dX11_countShape_55 : decode cX11_countShape 55 = .ok (.iconst 1, 1) := by decide +kernel
theorem dX11_countShape_56 : decode cX11_countShape 56 = .ok (.goto 4, 3) := by decide +kernel
theorem dX11_countShape_59 : decode cX11_countShape 59 = .ok (.iconst 0, 1) := by decide +kernel
theorem dX11_countShape_60 : decode cX11_countShape 60 = .ok (.iadd, 1) := by decide +kernel
theorem dX11_countShape_61 : decode cX11_countShape 61 = .ok (.istore_n 2, 1) := by decide +kernel
theorem dX11_countShape_62 : decode cX11_countShape 62 = .ok (.iinc 5 1, 3) := by decide +kernel
theorem dX11_countShape_65 : decode cX11_countShape 65 = .ok (.goto (-33), 3) := by decide +kernel
theorem dX11_countShape_68 : decode cX11_countShape 68 = .ok (.iinc 4 1, 3) := by decide +kernel
theorem dX11_countShape_71 : decode cX11_countShape 71 = .ok (.goto (-54), 3) := by decide +kernel
theorem dX11_countShape_74 : decode cX11_countShape 74 = .ok (.iinc 3 1, 3) := by decide +kernel
theorem dX11_countShape_77 : decode cX11_countShape 77 = .ok (.goto (-73), 3) := by decide +kernel
theorem dX11_countShape_80 : decode cX11_countShape 80 = .ok (.iload_n 2, 1) := by decide +kernel
theorem dX11_countShape_81 : decode cX11_countShape 81 = .ok (.ireturn, 1) := by decide +kernel
theorem dX11_count_0 : decode cX11_count 0 = .ok (.iload_n 1, 1) := by decide +kernel
theorem dX11_count_1 : decode cX11_count 1 = .ok (.invokestatic 124, 3) := by decide +kernel
theorem dX11_count_4 : decode cX11_count 4 = .ok (.ifCond .eq 11, 3) := by decide +kernel
theorem dX11_count_7 : decode cX11_count 7 = .ok (.aload_n 0, 1) := by decide +kernel
theorem dX11_count_8 : decode cX11_count 8 = .ok (.iload_n 1, 1) := by decide +kernel
theorem dX11_count_9 : decode cX11_count 9 = .ok (.invokevirtual 133, 3) := by decide +kernel
theorem dX11_count_12 : decode cX11_count 12 = .ok (.goto 8, 3) := by decide +kernel
theorem dX11_count_15 : decode cX11_count 15 = .ok (.aload_n 0, 1) := by decide +kernel
theorem dX11_count_16 : decode cX11_count 16 = .ok (.iconst (-1), 1) := by decide +kernel
theorem dX11_count_17 : decode cX11_count 17 = .ok (.invokevirtual 104, 3) := by decide +kernel
theorem dX11_count_20 : decode cX11_count 20 = .ok (.ireturn, 1) := by decide +kernel
theorem dX11_findCounts_0 : decode cX11_findCounts 0 = .ok (.iconst 0, 1) := by decide +kernel
theorem dX11_findCounts_1 : decode cX11_findCounts 1 = .ok (.istore_n 1, 1) := by decide +kernel
theorem dX11_findCounts_2 : decode cX11_findCounts 2 = .ok (.iload_n 1, 1) := by decide +kernel
theorem dX11_findCounts_3 : decode cX11_findCounts 3 = .ok (.sipush 768, 3) := by decide +kernel
theorem dX11_findCounts_6 : decode cX11_findCounts 6 = .ok (.if_icmp .ge 16, 3) := by decide +kernel
theorem dX11_findCounts_9 : decode cX11_findCounts 9 = .ok (.aload_n 0, 1) := by decide +kernel
theorem dX11_findCounts_10 : decode cX11_findCounts 10 = .ok (.getfield 51, 3) := by decide +kernel
theorem dX11_findCounts_13 : decode cX11_findCounts 13 = .ok (.iload_n 1, 1) := by decide +kernel
theorem dX11_findCounts_14 : decode cX11_findCounts 14 = .ok (.iconst 0, 1) := by decide +kernel
theorem dX11_findCounts_15 : decode cX11_findCounts 15 = .ok (.iastore, 1) := by decide +kernel
theorem dX11_findCounts_16 : decode cX11_findCounts 16 = .ok (.iinc 1 1, 3) := by decide +kernel
theorem dX11_findCounts_19 : decode cX11_findCounts 19 = .ok (.goto (-17), 3) := by decide +kernel
theorem dX11_findCounts_22 : decode cX11_findCounts 22 = .ok (.iconst 0, 1) := by decide +kernel
theorem dX11_findCounts_23 : decode cX11_findCounts 23 = .ok (.istore_n 1, 1) := by decide +kernel
theorem dX11_findCounts_24 : decode cX11_findCounts 24 = .ok (.iload_n 1, 1) := by decide +kernel
theorem dX11_findCounts_25 : decode cX11_findCounts 25 = .ok (.aload_n 0, 1) := by decide +kernel
theorem dX11_findCounts_26 : decode cX11_findCounts 26 = .ok (.getfield 7, 3) := by decide +kernel
theorem dX11_findCounts_29 : decode cX11_findCounts 29 = .ok (.if_icmp .ge 98, 3) := by decide +kernel
theorem dX11_findCounts_32 : decode cX11_findCounts 32 = .ok (.iconst 0, 1) := by decide +kernel
theorem dX11_findCounts_33 : decode cX11_findCounts 33 = .ok (.istore_n 2, 1) := by decide +kernel
theorem dX11_findCounts_34 : decode cX11_findCounts 34 = .ok (.iload_n 2, 1) := by decide +kernel
theorem dX11_findCounts_35 : decode cX11_findCounts 35 = .ok (.aload_n 0, 1) := by decide +kernel
theorem dX11_findCounts_36 : decode cX11_findCounts 36 = .ok (.getfield 7, 3) := by decide +kernel
theorem dX11_findCounts_39 : decode cX11_findCounts 39 = .ok (.if_icmp .ge 82, 3) := by decide +kernel
theorem dX11_findCounts_42 : decode cX11_findCounts 42 = .ok (.iload_n 2, 1) := by decide +kernel
theorem dX11_findCounts_43 : decode cX11_findCounts 43 = .ok (.iconst 1, 1) := by decide +kernel
theorem dX11_findCounts_44 : decode cX11_findCounts 44 = .ok (.iadd, 1) := by decide +kernel
theorem dX11_findCounts_45 : decode cX11_findCounts 45 = .ok (.istore_n 3, 1) := by decide +kernel
theorem dX11_findCounts_46 : decode cX11_findCounts 46 = .ok (.iload_n 3, 1) := by decide +kernel
theorem dX11_findCounts_47 : decode cX11_findCounts 47 = .ok (.aload_n 0, 1) := by decide +kernel
theorem dX11_findCounts_48 : decode cX11_findCounts 48 = .ok (.getfield 7, 3) := by decide +kernel
theorem dX11_findCounts_51 : decode cX11_findCounts 51 = .ok (.if_icmp .ge 64, 3) := by decide +kernel
theorem dX11_findCounts_54 : decode cX11_findCounts 54 = .ok (.iload_n 1, 1) := by decide +kernel
theorem dX11_findCounts_55 : decode cX11_findCounts 55 = .ok (.iload_n 2, 1) := by decide +kernel
theorem dX11_findCounts_56 : decode cX11_findCounts 56 = .ok (.if_icmp .eq 53, 3) := by decide +kernel
theorem dX11_findCounts_59 : decode cX11_findCounts 59 = .ok (.iload_n 1, 1) := by decide +kernel
theorem dX11_findCounts_60 : decode cX11_findCounts 60 = .ok (.iload_n 3, 1) := by decide +kernel
theorem dX11_findCounts_61 : decode cX11_findCounts 61 = .ok (.if_icmp .eq 48, 3) := by decide +kernel
theorem dX11_findCounts_64 : decode cX11_findCounts 64 = .ok (.aload_n 0, 1) := by decide +kernel
theorem dX11_findCounts_65 : decode cX11_findCounts 65 = .ok (.iload_n 1, 1) := by decide +kernel
theorem dX11_findCounts_66 : decode cX11_findCounts 66 = .ok (.iload_n 2, 1) := by decide +kernel
theorem dX11_findCounts_67 : decode cX11_findCounts 67 = .ok (.iload_n 3, 1) := by decide +kernel
theorem dX11_findCounts_68 : decode cX11_findCounts 68 = .ok (.invokevirtual 100, 3) := by decide +kernel
theorem dX11_findCounts_71 : decode cX11_findCounts 71 = .ok (.istore 4, 2) := by decide +kernel
theorem dX11_findCounts_73 : decode cX11_findCounts 73 = .ok (.aload_n 0, 1) := by decide +kernel
theorem dX11_findCounts_74 : decode cX11_findCounts 74 = .ok (.getfield 51, 3) := by decide +kernel
theorem dX11_findCounts_77 : decode cX11_findCounts 77 = .ok (.bipush 48, 2) := by decide +kernel
theorem dX11_findCounts_79 : decode cX11_findCounts 79 = .ok (.iload_n 1, 1) := by decide +kernel
theorem dX11_findCounts_80 : decode cX11_findCounts 80 = .ok (.imul, 1) := by decide +kernel
theorem dX11_findCounts_81 : decode cX11_findCounts 81 = .ok (.iconst 3, 1) := by decide +kernel
theorem dX11_findCounts_82 : decode cX11_findCounts 82 = .ok (.aload_n 0, 1) := by decide +kernel
theorem dX11_findCounts_83 : decode cX11_findCounts 83 = .ok (.getfield 48, 3) := by decide +kernel
theorem dX11_findCounts_86 : decode cX11_findCounts 86 = .ok (.aload_n 0, 1) := by decide +kernel
theorem dX11_findCounts_87 : decode cX11_findCounts 87 = .ok (.getfield 42, 3) := by decide +kernel
theorem dX11_findCounts_90 : decode cX11_findCounts 90 = .ok (.iload 4, 2) := by decide +kernel
theorem dX11_findCounts_92 : decode cX11_findCounts 92 = .ok (.iaload, 1) := by decide +kernel
theorem dX11_findCounts_93 : decode cX11_findCounts 93 = .ok (.iaload, 1) := by decide +kernel
theorem dX11_findCounts_94 : decode cX11_findCounts 94 = .ok (.imul, 1) := by decide +kernel
theorem dX11_findCounts_95 : decode cX11_findCounts 95 = .ok (.iadd, 1) := by decide +kernel
theorem dX11_findCounts_96 : decode cX11_findCounts 96 = .ok (.aload_n 0, 1) := by decide +kernel
theorem dX11_findCounts_97 : decode cX11_findCounts 97 = .ok (.iload 4, 2) := by decide +kernel
theorem dX11_findCounts_99 : decode cX11_findCounts 99 = .ok (.iconst 0, 1) := by decide +kernel
theorem dX11_findCounts_100 : decode cX11_findCounts 100 = .ok (.invokevirtual 130, 3) := by decide +kernel
theorem dX11_findCounts_103 : decode cX11_findCounts 103 = .ok (.iadd, 1) := by decide +kernel
theorem dX11_findCounts_104 : decode cX11_findCounts 104 = .ok (.dup2, 1) := by decide +kernel
theorem dX11_findCounts_105 : decode cX11_findCounts 105 = .ok (.iaload, 1) := by decide +kernel
theorem dX11_findCounts_106 : decode cX11_findCounts 106 = .ok (.iconst 1, 1) := by decide +kernel
theorem dX11_findCounts_107 : decode cX11_findCounts 107 = .ok (.iadd, 1) := by decide +kernel
theorem dX11_findCounts_108 : decode cX11_findCounts 108 = .ok (.iastore, 1) := by decide +kernel
theorem dX11_findCounts_109 : decode cX11_findCounts 109 = .ok (.iinc 3 1, 3) := by decide +kernel
theorem dX11_findCounts_112 : decode cX11_findCounts 112 = .ok (.goto (-66), 3) := by decide +kernel
theorem dX11_findCounts_115 : decode cX11_findCounts 115 = .ok (.iinc 2 1, 3) := by decide +kernel
theorem dX11_findCounts_118 : decode cX11_findCounts 118 = .ok (.goto (-84), 3) := by decide +kernel
theorem dX11_findCounts_121 : decode cX11_findCounts 121 = .ok (.iinc 1 1, 3) := by decide +kernel
theorem dX11_findCounts_124 : decode cX11_findCounts 124 = .ok (.goto (-100), 3) := by decide +kernel
theorem dX11_findCounts_127 : decode cX11_findCounts 127 = .ok (.return_, 1) := by decide +kernel
theorem dX11_countOf_0 : decode cX11_countOf 0 = .ok (.aload_n 0, 1) := by decide +kernel
theorem dX11_countOf_1 : decode cX11_countOf 1 = .ok (.iload_n 1, 1) := by decide +kernel
theorem dX11_countOf_2 : decode cX11_countOf 2 = .ok (.invokevirtual 108, 3) := by decide +kernel
theorem dX11_countOf_5 : decode cX11_countOf 5 = .ok (.ifCond .eq 10, 3) := by decide +kernel
theorem dX11_countOf_8 : decode cX11_countOf 8 = .ok (.iload_n 2, 1) := by decide +kernel
theorem dX11_countOf_9 : decode cX11_countOf 9 = .ok (.invokestatic 124, 3) := by decide +kernel
theorem dX11_countOf_12 : decode cX11_countOf 12 = .ok (.ifCond .ne 9, 3) := by decide +kernel
theorem dX11_countOf_15 : decode cX11_countOf 15 = .ok (.aload_n 0, 1) := by decide +kernel
theorem dX11_countOf_16 : decode cX11_countOf 16 = .ok (.iconst (-1), 1) := by decide +kernel
theorem dX11_countOf_17 : decode cX11_countOf 17 = .ok (.invokevirtual 104, 3) := by decide +kernel
theorem dX11_countOf_20 : decode cX11_countOf 20 = .ok (.ireturn, 1) := by decide +kernel
theorem dX11_countOf_21 : decode cX11_countOf 21 = .ok (.iload_n 3, 1) := by decide +kernel
theorem dX11_countOf_22 : decode cX11_countOf 22 = .ok (.iconst 0, 1) := by decide +kernel
theorem dX11_countOf_23 : decode cX11_countOf 23 = .ok (.iconst 2, 1) := by decide +kernel
theorem dX11_countOf_24 : decode cX11_countOf 24 = .ok (.invokestatic 86, 3) := by decide +kernel
theorem dX11_countOf_27 : decode cX11_countOf 27 = .ok (.ifCond .ne 10, 3) := by decide +kernel
theorem dX11_countOf_30 : decode cX11_countOf 30 = .ok (.aload_n 0, 1) := by decide +kernel
theorem dX11_countOf_31 : decode cX11_countOf 31 = .ok (.bipush (-2), 2) := by decide +kernel
theorem dX11_countOf_33 : decode cX11_countOf 33 = .ok (.invokevirtual 104, 3) := by decide +kernel
theorem dX11_countOf_36 : decode cX11_countOf 36 = .ok (.ireturn, 1) := by decide +kernel
theorem dX11_countOf_37 : decode cX11_countOf 37 = .ok (.aload_n 0, 1) := by decide +kernel
theorem dX11_countOf_38 : decode cX11_countOf 38 = .ok (.invokevirtual 136, 3) := by decide +kernel
theorem dX11_countOf_41 : decode cX11_countOf 41 = .ok (.aload_n 0, 1) := by decide +kernel
theorem dX11_countOf_42 : decode cX11_countOf 42 = .ok (.getfield 51, 3) := by decide +kernel
theorem dX11_countOf_45 : decode cX11_countOf 45 = .ok (.bipush 48, 2) := by decide +kernel
theorem dX11_countOf_47 : decode cX11_countOf 47 = .ok (.iload_n 1, 1) := by decide +kernel
theorem dX11_countOf_48 : decode cX11_countOf 48 = .ok (.imul, 1) := by decide +kernel
theorem dX11_countOf_49 : decode cX11_countOf 49 = .ok (.iconst 3, 1) := by decide +kernel
theorem dX11_countOf_50 : decode cX11_countOf 50 = .ok (.iload_n 2, 1) := by decide +kernel
theorem dX11_countOf_51 : decode cX11_countOf 51 = .ok (.imul, 1) := by decide +kernel
theorem dX11_countOf_52 : decode cX11_countOf 52 = .ok (.iadd, 1) := by decide +kernel
theorem dX11_countOf_53 : decode cX11_countOf 53 = .ok (.iload_n 3, 1) := by decide +kernel
theorem dX11_countOf_54 : decode cX11_countOf 54 = .ok (.iadd, 1) := by decide +kernel
theorem dX11_countOf_55 : decode cX11_countOf 55 = .ok (.iaload, 1) := by decide +kernel
theorem dX11_countOf_56 : decode cX11_countOf 56 = .ok (.ireturn, 1) := by decide +kernel
theorem dX11_findRoles_0 : decode cX11_findRoles 0 = .ok (.aload_n 0, 1) := by decide +kernel
theorem dX11_findRoles_1 : decode cX11_findRoles 1 = .ok (.invokevirtual 136, 3) := by decide +kernel
theorem dX11_findRoles_4 : decode cX11_findRoles 4 = .ok (.iconst 0, 1) := by decide +kernel
theorem dX11_findRoles_5 : decode cX11_findRoles 5 = .ok (.istore_n 1, 1) := by decide +kernel
theorem dX11_findRoles_6 : decode cX11_findRoles 6 = .ok (.iconst 0, 1) := by decide +kernel
theorem dX11_findRoles_7 : decode cX11_findRoles 7 = .ok (.istore_n 2, 1) := by decide +kernel
theorem dX11_findRoles_8 : decode cX11_findRoles 8 = .ok (.iload_n 2, 1) := by decide +kernel
theorem dX11_findRoles_9 : decode cX11_findRoles 9 = .ok (.aload_n 0, 1) := by decide +kernel
theorem dX11_findRoles_10 : decode cX11_findRoles 10 = .ok (.getfield 7, 3) := by decide +kernel
theorem dX11_findRoles_13 : decode cX11_findRoles 13 = .ok (.if_icmp .ge 136, 3) := by decide +kernel
theorem dX11_findRoles_16 : decode cX11_findRoles 16 = .ok (.aload_n 0, 1) := by decide +kernel
theorem dX11_findRoles_17 : decode cX11_findRoles 17 = .ok (.getfield 54, 3) := by decide +kernel
theorem dX11_findRoles_20 : decode cX11_findRoles 20 = .ok (.iload_n 2, 1) := by decide +kernel
theorem dX11_findRoles_21 : decode cX11_findRoles 21 = .ok (.iconst (-1), 1) := by decide +kernel
theorem dX11_findRoles_22 : decode cX11_findRoles 22 = .ok (.iastore, 1) := by decide +kernel
theorem dX11_findRoles_23 : decode cX11_findRoles 23 = .ok (.iconst 0, 1) := by decide +kernel
theorem dX11_findRoles_24 : decode cX11_findRoles 24 = .ok (.istore_n 3, 1) := by decide +kernel
theorem dX11_findRoles_25 : decode cX11_findRoles 25 = .ok (.iload_n 3, 1) := by decide +kernel
theorem dX11_findRoles_26 : decode cX11_findRoles 26 = .ok (.iload_n 2, 1) := by decide +kernel
theorem dX11_findRoles_27 : decode cX11_findRoles 27 = .ok (.if_icmp .ge 97, 3) := by decide +kernel
theorem dX11_findRoles_30 : decode cX11_findRoles 30 = .ok (.aload_n 0, 1) := by decide +kernel
theorem dX11_findRoles_31 : decode cX11_findRoles 31 = .ok (.getfield 54, 3) := by decide +kernel
theorem dX11_findRoles_34 : decode cX11_findRoles 34 = .ok (.iload_n 2, 1) := by decide +kernel
theorem dX11_findRoles_35 : decode cX11_findRoles 35 = .ok (.iaload, 1) := by decide +kernel
theorem dX11_findRoles_36 : decode cX11_findRoles 36 = .ok (.ifCond .ge 88, 3) := by decide +kernel
theorem dX11_findRoles_39 : decode cX11_findRoles 39 = .ok (.iconst 1, 1) := by decide +kernel
theorem dX11_findRoles_40 : decode cX11_findRoles 40 = .ok (.istore 4, 2) := by decide +kernel
theorem dX11_findRoles_42 : decode cX11_findRoles 42 = .ok (.iconst 0, 1) := by decide +kernel
theorem dX11_findRoles_43 : decode cX11_findRoles 43 = .ok (.istore 5, 2) := by decide +kernel
theorem dX11_findRoles_45 : decode cX11_findRoles 45 = .ok (.iload 5, 2) := by decide +kernel
theorem dX11_findRoles_47 : decode cX11_findRoles 47 = .ok (.bipush 48, 2) := by decide +kernel
theorem dX11_findRoles_49 : decode cX11_findRoles 49 = .ok (.if_icmp .ge 48, 3) := by decide +kernel
theorem dX11_findRoles_52 : decode cX11_findRoles 52 = .ok (.iload 4, 2) := by decide +kernel
theorem dX11_findRoles_54 : decode cX11_findRoles 54 = .ok (.ifCond .eq 34, 3) := by decide +kernel
theorem dX11_findRoles_57 : decode cX11_findRoles 57 = .ok (.aload_n 0, 1) := by decide +kernel
theorem dX11_findRoles_58 : decode cX11_findRoles 58 = .ok (.getfield 51, 3) := by decide +kernel
theorem dX11_findRoles_61 : decode cX11_findRoles 61 = .ok (.bipush 48, 2) := by decide +kernel
theorem dX11_findRoles_63 : decode cX11_findRoles 63 = .ok (.iload_n 2, 1) := by decide +kernel
theorem dX11_findRoles_64 : decode cX11_findRoles 64 = .ok (.imul, 1) := by decide +kernel
theorem dX11_findRoles_65 : decode cX11_findRoles 65 = .ok (.iload 5, 2) := by decide +kernel
theorem dX11_findRoles_67 : decode cX11_findRoles 67 = .ok (.iadd, 1) := by decide +kernel
theorem dX11_findRoles_68 : decode cX11_findRoles 68 = .ok (.iaload, 1) := by decide +kernel
theorem dX11_findRoles_69 : decode cX11_findRoles 69 = .ok (.aload_n 0, 1) := by decide +kernel
theorem dX11_findRoles_70 : decode cX11_findRoles 70 = .ok (.getfield 51, 3) := by decide +kernel
theorem dX11_findRoles_73 : decode cX11_findRoles 73 = .ok (.bipush 48, 2) := by decide +kernel
theorem dX11_findRoles_75 : decode cX11_findRoles 75 = .ok (.iload_n 3, 1) := by decide +kernel
theorem dX11_findRoles_76 : decode cX11_findRoles 76 = .ok (.imul, 1) := by decide +kernel
theorem dX11_findRoles_77 : decode cX11_findRoles 77 = .ok (.iload 5, 2) := by decide +kernel
theorem dX11_findRoles_79 : decode cX11_findRoles 79 = .ok (.iadd, 1) := by decide +kernel
theorem dX11_findRoles_80 : decode cX11_findRoles 80 = .ok (.iaload, 1) := by decide +kernel
theorem dX11_findRoles_81 : decode cX11_findRoles 81 = .ok (.if_icmp .ne 7, 3) := by decide +kernel
theorem dX11_findRoles_84 : decode cX11_findRoles 84 = .ok (.iconst 1, 1) := by decide +kernel
theorem dX11_findRoles_85 : decode cX11_findRoles 85 = .ok (.goto 4, 3) := by decide +kernel
theorem dX11_findRoles_88 : decode cX11_findRoles 88 = .ok (.iconst 0, 1) := by decide +kernel
theorem dX11_findRoles_89 : decode cX11_findRoles 89 = .ok (.istore 4, 2) := by decide +kernel
theorem dX11_findRoles_91 : decode cX11_findRoles 91 = .ok (.iinc 5 1, 3) := by decide +kernel
theorem dX11_findRoles_94 : decode cX11_findRoles 94 = .ok (.goto (-49), 3) := by decide +kernel
theorem dX11_findRoles_97 : decode cX11_findRoles 97 = .ok (.aload_n 0, 1) := by decide +kernel
theorem dX11_findRoles_98 : decode cX11_findRoles 98 = .ok (.getfield 54, 3) := by decide +kernel
theorem dX11_findRoles_101 : decode cX11_findRoles 101 = .ok (.iload_n 2, 1) := by decide +kernel
theorem dX11_findRoles_102 : decode cX11_findRoles 102 = .ok (.iload 4, 2) := by decide +kernel
theorem dX11_findRoles_104 : decode cX11_findRoles 104 = .ok (.ifCond .eq 12, 3) := by decide +kernel
theorem dX11_findRoles_107 : decode cX11_findRoles 107 = .ok (.aload_n 0, 1) := by decide +kernel
theorem dX11_findRoles_108 : decode cX11_findRoles 108 = .ok (.getfield 54, 3) := by decide +kernel
theorem dX11_findRoles_111 : decode cX11_findRoles 111 = .ok (.iload_n 3, 1) := by decide +kernel
theorem dX11_findRoles_112 : decode cX11_findRoles 112 = .ok (.iaload, 1) := by decide +kernel
theorem dX11_findRoles_113 : decode cX11_findRoles 113 = .ok (.goto 4, 3) := by decide +kernel
theorem dX11_findRoles_116 : decode cX11_findRoles 116 = .ok (.iconst (-1), 1) := by decide +kernel
theorem dX11_findRoles_117 : decode cX11_findRoles 117 = .ok (.iastore, 1) := by decide +kernel
theorem dX11_findRoles_118 : decode cX11_findRoles 118 = .ok (.iinc 3 1, 3) := by decide +kernel
theorem dX11_findRoles_121 : decode cX11_findRoles 121 = .ok (.goto (-96), 3) := by decide +kernel
theorem dX11_findRoles_124 : decode cX11_findRoles 124 = .ok (.aload_n 0, 1) := by decide +kernel
theorem dX11_findRoles_125 : decode cX11_findRoles 125 = .ok (.getfield 54, 3) := by decide +kernel
theorem dX11_findRoles_128 : decode cX11_findRoles 128 = .ok (.iload_n 2, 1) := by decide +kernel
theorem dX11_findRoles_129 : decode cX11_findRoles 129 = .ok (.iaload, 1) := by decide +kernel
theorem dX11_findRoles_130 : decode cX11_findRoles 130 = .ok (.ifCond .ge 13, 3) := by decide +kernel
theorem dX11_findRoles_133 : decode cX11_findRoles 133 = .ok (.aload_n 0, 1) := by decide +kernel
theorem dX11_findRoles_134 : decode cX11_findRoles 134 = .ok (.getfield 54, 3) := by decide +kernel
theorem dX11_findRoles_137 : decode cX11_findRoles 137 = .ok (.iload_n 2, 1) := by decide +kernel
theorem dX11_findRoles_138 : decode cX11_findRoles 138 = .ok (.iload_n 1, 1) := by decide +kernel
theorem dX11_findRoles_139 : decode cX11_findRoles 139 = .ok (.iastore, 1) := by decide +kernel
theorem dX11_findRoles_140 : decode cX11_findRoles 140 = .ok (.iinc 1 1, 3) := by decide +kernel
theorem dX11_findRoles_143 : decode cX11_findRoles 143 = .ok (.iinc 2 1, 3) := by decide +kernel
theorem dX11_findRoles_146 : decode cX11_findRoles 146 = .ok (.goto (-138), 3) := by decide +kernel
theorem dX11_findRoles_149 : decode cX11_findRoles 149 = .ok (.iload_n 1, 1) := by decide +kernel
theorem dX11_findRoles_150 : decode cX11_findRoles 150 = .ok (.ireturn, 1) := by decide +kernel
theorem dX11_role_0 : decode cX11_role 0 = .ok (.aload_n 0, 1) := by decide +kernel
theorem dX11_role_1 : decode cX11_role 1 = .ok (.iload_n 1, 1) := by decide +kernel
theorem dX11_role_2 : decode cX11_role 2 = .ok (.invokevirtual 108, 3) := by decide +kernel
theorem dX11_role_5 : decode cX11_role 5 = .ok (.ifCond .ne 9, 3) := by decide +kernel
theorem dX11_role_8 : decode cX11_role 8 = .ok (.aload_n 0, 1) := by decide +kernel
theorem dX11_role_9 : decode cX11_role 9 = .ok (.iconst (-1), 1) := by decide +kernel
theorem dX11_role_10 : decode cX11_role 10 = .ok (.invokevirtual 104, 3) := by decide +kernel
theorem dX11_role_13 : decode cX11_role 13 = .ok (.ireturn, 1) := by decide +kernel
theorem dX11_role_14 : decode cX11_role 14 = .ok (.aload_n 0, 1) := by decide +kernel
theorem dX11_role_15 : decode cX11_role 15 = .ok (.invokevirtual 139, 3) := by decide +kernel
theorem dX11_role_18 : decode cX11_role 18 = .ok (.istore_n 2, 1) := by decide +kernel
theorem dX11_role_19 : decode cX11_role 19 = .ok (.aload_n 0, 1) := by decide +kernel
theorem dX11_role_20 : decode cX11_role 20 = .ok (.getfield 54, 3) := by decide +kernel
theorem dX11_role_23 : decode cX11_role 23 = .ok (.iload_n 1, 1) := by decide +kernel
theorem dX11_role_24 : decode cX11_role 24 = .ok (.iaload, 1) := by decide +kernel
theorem dX11_role_25 : decode cX11_role 25 = .ok (.ireturn, 1) := by decide +kernel
theorem dX11_roles_0 : decode cX11_roles 0 = .ok (.aload_n 0, 1) := by decide +kernel
theorem dX11_roles_1 : decode cX11_roles 1 = .ok (.invokevirtual 139, 3) := by decide +kernel
theorem dX11_roles_4 : decode cX11_roles 4 = .ok (.ireturn, 1) := by decide +kernel
theorem dX11_isBeside_0 : decode cX11_isBeside 0 = .ok (.aload_n 0, 1) := by decide +kernel
theorem dX11_isBeside_1 : decode cX11_isBeside 1 = .ok (.iload_n 1, 1) := by decide +kernel
theorem dX11_isBeside_2 : decode cX11_isBeside 2 = .ok (.iload_n 2, 1) := by decide +kernel
theorem dX11_isBeside_3 : decode cX11_isBeside 3 = .ok (.invokevirtual 96, 3) := by decide +kernel
theorem dX11_isBeside_6 : decode cX11_isBeside 6 = .ok (.ifCond .ne 12, 3) := by decide +kernel
theorem dX11_isBeside_9 : decode cX11_isBeside 9 = .ok (.aload_n 0, 1) := by decide +kernel
theorem dX11_isBeside_10 : decode cX11_isBeside 10 = .ok (.iload_n 2, 1) := by decide +kernel
theorem dX11_isBeside_11 : decode cX11_isBeside 11 = .ok (.iload_n 1, 1) := by decide +kernel
theorem dX11_isBeside_12 : decode cX11_isBeside 12 = .ok (.invokevirtual 96, 3) := by decide +kernel
theorem dX11_isBeside_15 : decode cX11_isBeside 15 = .ok (.ifCond .eq 7, 3) := by decide +kernel
theorem dX11_isBeside_18 : decode cX11_isBeside 18 = .ok (.iconst 1, 1) := by decide +kernel
theorem dX11_isBeside_19 : decode cX11_isBeside 19 = .ok (.goto 4, 3) := by decide +kernel
theorem dX11_isBeside_22 : decode cX11_isBeside 22 = .ok (.iconst 0, 1) := by decide +kernel
theorem dX11_isBeside_23 : decode cX11_isBeside 23 = .ok (.ireturn, 1) := by decide +kernel
theorem dX11_kindOfFour_0 : decode cX11_kindOfFour 0 = .ok (.iconst 0, 1) := by decide +kernel
theorem dX11_kindOfFour_1 : decode cX11_kindOfFour 1 = .ok (.istore_n 1, 1) := by decide +kernel
theorem dX11_kindOfFour_2 : decode cX11_kindOfFour 2 = .ok (.iconst 0, 1) := by decide +kernel
theorem dX11_kindOfFour_3 : decode cX11_kindOfFour 3 = .ok (.istore_n 2, 1) := by decide +kernel
theorem dX11_kindOfFour_4 : decode cX11_kindOfFour 4 = .ok (.iconst 3, 1) := by decide +kernel
theorem dX11_kindOfFour_5 : decode cX11_kindOfFour 5 = .ok (.istore_n 3, 1) := by decide +kernel
theorem dX11_kindOfFour_6 : decode cX11_kindOfFour 6 = .ok (.iconst 0, 1) := by decide +kernel
theorem dX11_kindOfFour_7 : decode cX11_kindOfFour 7 = .ok (.istore 4, 2) := by decide +kernel
theorem dX11_kindOfFour_9 : decode cX11_kindOfFour 9 = .ok (.iload 4, 2) := by decide +kernel
theorem dX11_kindOfFour_11 : decode cX11_kindOfFour 11 = .ok (.iconst 4, 1) := by decide +kernel
theorem dX11_kindOfFour_12 : decode cX11_kindOfFour 12 = .ok (.if_icmp .ge 96, 3) := by decide +kernel
theorem dX11_kindOfFour_15 : decode cX11_kindOfFour 15 = .ok (.iconst 0, 1) := by decide +kernel
theorem dX11_kindOfFour_16 : decode cX11_kindOfFour 16 = .ok (.istore 5, 2) := by decide +kernel
theorem dX11_kindOfFour_18 : decode cX11_kindOfFour 18 = .ok (.iconst 0, 1) := by decide +kernel
theorem dX11_kindOfFour_19 : decode cX11_kindOfFour 19 = .ok (.istore 6, 2) := by decide +kernel
theorem dX11_kindOfFour_21 : decode cX11_kindOfFour 21 = .ok (.iload 6, 2) := by decide +kernel
theorem dX11_kindOfFour_23 : decode cX11_kindOfFour 23 = .ok (.iconst 4, 1) := by decide +kernel
theorem dX11_kindOfFour_24 : decode cX11_kindOfFour 24 = .ok (.if_icmp .ge 47, 3) := by decide +kernel
theorem dX11_kindOfFour_27 : decode cX11_kindOfFour 27 = .ok (.iload 5, 2) := by decide +kernel
theorem dX11_kindOfFour_29 : decode cX11_kindOfFour 29 = .ok (.iload 4, 2) := by decide +kernel
theorem dX11_kindOfFour_31 : decode cX11_kindOfFour 31 = .ok (.iload 6, 2) := by decide +kernel
theorem dX11_kindOfFour_33 : decode cX11_kindOfFour 33 = .ok (.if_icmp .eq 28, 3) := by decide +kernel
theorem dX11_kindOfFour_36 : decode cX11_kindOfFour 36 = .ok (.aload_n 0, 1) := by decide +kernel
theorem dX11_kindOfFour_37 : decode cX11_kindOfFour 37 = .ok (.aload_n 0, 1) := by decide +kernel
theorem dX11_kindOfFour_38 : decode cX11_kindOfFour 38 = .ok (.getfield 57, 3) := by decide +kernel
theorem dX11_kindOfFour_41 : decode cX11_kindOfFour 41 = .ok (.iload 4, 2) := by decide +kernel
theorem dX11_kindOfFour_43 : decode cX11_kindOfFour 43 = .ok (.iaload, 1) := by decide +kernel
theorem dX11_kindOfFour_44 : decode cX11_kindOfFour 44 = .ok (.aload_n 0, 1) := by decide +kernel
theorem dX11_kindOfFour_45 : decode cX11_kindOfFour 45 = .ok (.getfield 57, 3) := by decide +kernel
theorem dX11_kindOfFour_48 : decode cX11_kindOfFour 48 = .ok (.iload 6, 2) := by decide +kernel
theorem dX11_kindOfFour_50 : decode cX11_kindOfFour 50 = .ok (.iaload, 1) := by decide +kernel
theorem dX11_kindOfFour_51 : decode cX11_kindOfFour 51 = .ok (.invokevirtual 143, 3) := by decide +kernel
theorem dX11_kindOfFour_54 : decode cX11_kindOfFour 54 = .ok (.ifCond .eq 7, 3) := by decide +kernel
theorem dX11_kindOfFour_57 : decode cX11_kindOfFour 57 = .ok (.iconst 1, 1) := by decide +kernel
theorem dX11_kindOfFour_58 : decode cX11_kindOfFour 58 = .ok (.goto 4, 3) := by decide +kernel
theorem dX11_kindOfFour_61 : decode cX11_kindOfFour 61 = .ok (.iconst 0, 1) := by decide +kernel
theorem dX11_kindOfFour_62 : decode cX11_kindOfFour 62 = .ok (.iadd, 1) := by decide +kernel
theorem dX11_kindOfFour_63 : decode cX11_kindOfFour 63 = .ok (.istore 5, 2) := by decide +kernel
theorem dX11_kindOfFour_65 : decode cX11_kindOfFour 65 = .ok (.iinc 6 1, 3) := by decide +kernel
theorem dX11_kindOfFour_68 : decode cX11_kindOfFour 68 = .ok (.goto (-47), 3) := by decide +kernel
theorem dX11_kindOfFour_71 : decode cX11_kindOfFour 71 = .ok (.iload_n 1, 1) := by decide +kernel
theorem dX11_kindOfFour_72 : decode cX11_kindOfFour 72 = .ok (.iload 5, 2) := by decide +kernel
theorem dX11_kindOfFour_74 : decode cX11_kindOfFour 74 = .ok (.iadd, 1) := by decide +kernel
theorem dX11_kindOfFour_75 : decode cX11_kindOfFour 75 = .ok (.istore_n 1, 1) := by decide +kernel
theorem dX11_kindOfFour_76 : decode cX11_kindOfFour 76 = .ok (.iload 5, 2) := by decide +kernel
theorem dX11_kindOfFour_78 : decode cX11_kindOfFour 78 = .ok (.iload_n 2, 1) := by decide +kernel
theorem dX11_kindOfFour_79 : decode cX11_kindOfFour 79 = .ok (.if_icmp .le 8, 3) := by decide +kernel
theorem dX11_kindOfFour_82 : decode cX11_kindOfFour 82 = .ok (.iload 5, 2) := by decide +kernel
theorem dX11_kindOfFour_84 : decode cX11_kindOfFour 84 = .ok (.goto 4, 3) := by decide +kernel
theorem dX11_kindOfFour_87 : decode cX11_kindOfFour 87 = .ok (.iload_n 2, 1) := by decide +kernel
theorem dX11_kindOfFour_88 : decode cX11_kindOfFour 88 = .ok (.istore_n 2, 1) := by decide +kernel
theorem dX11_kindOfFour_89 : decode cX11_kindOfFour 89 = .ok (.iload 5, 2) := by decide +kernel
theorem dX11_kindOfFour_91 : decode cX11_kindOfFour 91 = .ok (.iload_n 3, 1) := by decide +kernel
theorem dX11_kindOfFour_92 : decode cX11_kindOfFour 92 = .ok (.if_icmp .ge 8, 3) := by decide +kernel
theorem dX11_kindOfFour_95 : decode cX11_kindOfFour 95 = .ok (.iload 5, 2) := by decide +kernel
theorem dX11_kindOfFour_97 : decode cX11_kindOfFour 97 = .ok (.goto 4, 3) := by decide +kernel
theorem dX11_kindOfFour_100 : decode cX11_kindOfFour 100 = .ok (.iload_n 3, 1) := by decide +kernel
theorem dX11_kindOfFour_101 : decode cX11_kindOfFour 101 = .ok (.istore_n 3, 1) := by decide +kernel
theorem dX11_kindOfFour_102 : decode cX11_kindOfFour 102 = .ok (.iinc 4 1, 3) := by decide +kernel
theorem dX11_kindOfFour_105 : decode cX11_kindOfFour 105 = .ok (.goto (-96), 3) := by decide +kernel
theorem dX11_kindOfFour_108 : decode cX11_kindOfFour 108 = .ok (.iload_n 3, 1) := by decide +kernel
theorem dX11_kindOfFour_109 : decode cX11_kindOfFour 109 = .ok (.ifCond .eq 9, 3) := by decide +kernel
theorem dX11_kindOfFour_112 : decode cX11_kindOfFour 112 = .ok (.iload_n 1, 1) := by decide +kernel
theorem dX11_kindOfFour_113 : decode cX11_kindOfFour 113 = .ok (.bipush 6, 2) := by decide +kernel
theorem dX11_kindOfFour_115 : decode cX11_kindOfFour 115 = .ok (.if_icmp .ge 5, 3) := by decide +kernel
theorem dX11_kindOfFour_118 : decode cX11_kindOfFour 118 = .ok (.iconst (-1), 1) := by decide +kernel
theorem dX11_kindOfFour_119 : decode cX11_kindOfFour 119 = .ok (.ireturn, 1) := by decide +kernel
theorem dX11_kindOfFour_120 : decode cX11_kindOfFour 120 = .ok (.iload_n 1, 1) := by decide +kernel
theorem dX11_kindOfFour_121 : decode cX11_kindOfFour 121 = .ok (.bipush 6, 2) := by decide +kernel
theorem dX11_kindOfFour_123 : decode cX11_kindOfFour 123 = .ok (.if_icmp .ne 16, 3) := by decide +kernel
theorem dX11_kindOfFour_126 : decode cX11_kindOfFour 126 = .ok (.iload_n 2, 1) := by decide +kernel
theorem dX11_kindOfFour_127 : decode cX11_kindOfFour 127 = .ok (.iconst 3, 1) := by decide +kernel
theorem dX11_kindOfFour_128 : decode cX11_kindOfFour 128 = .ok (.if_icmp .ne 7, 3) := by decide +kernel
theorem dX11_kindOfFour_131 : decode cX11_kindOfFour 131 = .ok (.iconst 1, 1) := by decide +kernel
theorem dX11_kindOfFour_132 : decode cX11_kindOfFour 132 = .ok (.goto 37, 3) := by decide +kernel
theorem dX11_kindOfFour_135 : decode cX11_kindOfFour 135 = .ok (.iconst 0, 1) := by decide +kernel
theorem dX11_kindOfFour_136 : decode cX11_kindOfFour 136 = .ok (.goto 33, 3) := by decide +kernel
theorem dX11_kindOfFour_139 : decode cX11_kindOfFour 139 = .ok (.iload_n 1, 1) := by decide +kernel
theorem dX11_kindOfFour_140 : decode cX11_kindOfFour 140 = .ok (.bipush 8, 2) := by decide +kernel
theorem dX11_kindOfFour_142 : decode cX11_kindOfFour 142 = .ok (.if_icmp .ne 16, 3) := by decide +kernel
theorem dX11_kindOfFour_145 : decode cX11_kindOfFour 145 = .ok (.iload_n 2, 1) := by decide +kernel
theorem dX11_kindOfFour_146 : decode cX11_kindOfFour 146 = .ok (.iconst 3, 1) := by decide +kernel
theorem dX11_kindOfFour_147 : decode cX11_kindOfFour 147 = .ok (.if_icmp .ne 7, 3) := by decide +kernel
theorem dX11_kindOfFour_150 : decode cX11_kindOfFour 150 = .ok (.iconst 3, 1) := by decide +kernel
theorem dX11_kindOfFour_151 : decode cX11_kindOfFour 151 = .ok (.goto 18, 3) := by decide +kernel
theorem dX11_kindOfFour_154 : decode cX11_kindOfFour 154 = .ok (.iconst 2, 1) := by decide +kernel
theorem dX11_kindOfFour_155 : decode cX11_kindOfFour 155 = .ok (.goto 14, 3) := by decide +kernel
theorem dX11_kindOfFour_158 : decode cX11_kindOfFour 158 = .ok (.iload_n 1, 1) := by decide +kernel
theorem dX11_kindOfFour_159 : decode cX11_kindOfFour 159 = .ok (.bipush 10, 2) := by decide +kernel
theorem dX11_kindOfFour_161 : decode cX11_kindOfFour 161 = .ok (.if_icmp .ne 7, 3) := by decide +kernel
theorem dX11_kindOfFour_164 : decode cX11_kindOfFour 164 = .ok (.iconst 4, 1) := by decide +kernel
theorem dX11_kindOfFour_165 : decode cX11_kindOfFour 165 = .ok (.goto 4, 3) := by decide +kernel
theorem dX11_kindOfFour_168 : decode cX11_kindOfFour 168 = .ok (.iconst 5, 1) := by decide +kernel
theorem dX11_kindOfFour_169 : decode cX11_kindOfFour 169 = .ok (.ireturn, 1) := by decide +kernel
theorem dX11_fours_0 : decode cX11_fours 0 = .ok (.iload_n 1, 1) := by decide +kernel
theorem dX11_fours_1 : decode cX11_fours 1 = .ok (.iconst 0, 1) := by decide +kernel
theorem dX11_fours_2 : decode cX11_fours 2 = .ok (.iconst 5, 1) := by decide +kernel
theorem dX11_fours_3 : decode cX11_fours 3 = .ok (.invokestatic 86, 3) := by decide +kernel
theorem dX11_fours_6 : decode cX11_fours 6 = .ok (.ifCond .ne 10, 3) := by decide +kernel
theorem dX11_fours_9 : decode cX11_fours 9 = .ok (.aload_n 0, 1) := by decide +kernel
theorem dX11_fours_10 : decode cX11_fours 10 = .ok (.bipush (-2), 2) := by decide +kernel
theorem dX11_fours_12 : decode cX11_fours 12 = .ok (.invokevirtual 104, 3) := by decide +kernel
theorem dX11_fours_15 : decode cX11_fours 15 = .ok (.ireturn, 1) := by decide +kernel
theorem dX11_fours_16 : decode cX11_fours 16 = .ok (.iconst 0, 1) := by decide +kernel
theorem dX11_fours_17 : decode cX11_fours 17 = .ok (.istore_n 2, 1) := by decide +kernel
theorem dX11_fours_18 : decode cX11_fours 18 = .ok (.iconst 0, 1) := by decide +kernel
theorem dX11_fours_19 : decode cX11_fours 19 = .ok (.istore_n 3, 1) := by decide +kernel
theorem dX11_fours_20 : decode cX11_fours 20 = .ok (.iload_n 3, 1) := by decide +kernel
theorem dX11_fours_21 : decode cX11_fours 21 = .ok (.iconst 1, 1) := by decide +kernel
theorem dX11_fours_22 : decode cX11_fours 22 = .ok (.aload_n 0, 1) := by decide +kernel
theorem dX11_fours_23 : decode cX11_fours 23 = .ok (.getfield 7, 3) := by decide +kernel
theorem dX11_fours_26 : decode cX11_fours 26 = .ok (.ishl, 1) := by decide +kernel
theorem dX11_fours_27 : decode cX11_fours 27 = .ok (.if_icmp .ge 76, 3) := by decide +kernel
theorem dX11_fours_30 : decode cX11_fours 30 = .ok (.iload_n 3, 1) := by decide +kernel
theorem dX11_fours_31 : decode cX11_fours 31 = .ok (.invokestatic 127, 3) := by decide +kernel
theorem dX11_fours_34 : decode cX11_fours 34 = .ok (.iconst 4, 1) := by decide +kernel
theorem dX11_fours_35 : decode cX11_fours 35 = .ok (.if_icmp .ne 62, 3) := by decide +kernel
theorem dX11_fours_38 : decode cX11_fours 38 = .ok (.iconst 0, 1) := by decide +kernel
theorem dX11_fours_39 : decode cX11_fours 39 = .ok (.istore 4, 2) := by decide +kernel
theorem dX11_fours_41 : decode cX11_fours 41 = .ok (.iconst 0, 1) := by decide +kernel
theorem dX11_fours_42 : decode cX11_fours 42 = .ok (.istore 5, 2) := by decide +kernel
theorem dX11_fours_44 : decode cX11_fours 44 = .ok (.iload 5, 2) := by decide +kernel
theorem dX11_fours_46 : decode cX11_fours 46 = .ok (.aload_n 0, 1) := by decide +kernel
theorem dX11_fours_47 : decode cX11_fours 47 = .ok (.getfield 7, 3) := by decide +kernel
theorem dX11_fours_50 : decode cX11_fours 50 = .ok (.if_icmp .ge 31, 3) := by decide +kernel
theorem dX11_fours_53 : decode cX11_fours 53 = .ok (.iload_n 3, 1) := by decide +kernel
theorem dX11_fours_54 : decode cX11_fours 54 = .ok (.iload 5, 2) := by decide +kernel
theorem dX11_fours_56 : decode cX11_fours 56 = .ok (.ishr, 1) := by decide +kernel
theorem dX11_fours_57 : decode cX11_fours 57 = .ok (.iconst 1, 1) := by decide +kernel
theorem dX11_fours_58 : decode cX11_fours 58 = .ok (.iand, 1) := by decide +kernel
theorem dX11_fours_59 : decode cX11_fours 59 = .ok (.iconst 1, 1) := by decide +kernel
theorem dX11_fours_60 : decode cX11_fours 60 = .ok (.if_icmp .ne 15, 3) := by decide +kernel
theorem dX11_fours_63 : decode cX11_fours 63 = .ok (.aload_n 0, 1) := by decide +kernel
theorem dX11_fours_64 : decode cX11_fours 64 = .ok (.getfield 57, 3) := by decide +kernel
theorem dX11_fours_67 : decode cX11_fours 67 = .ok (.iload 4, 2) := by decide +kernel
theorem dX11_fours_69 : decode cX11_fours 69 = .ok (.iload 5, 2) := by decide +kernel
theorem dX11_fours_71 : decode cX11_fours 71 = .ok (.iastore, 1) := by decide +kernel
theorem dX11_fours_72 : decode cX11_fours 72 = .ok (.iinc 4 1, 3) := by decide +kernel
theorem dX11_fours_75 : decode cX11_fours 75 = .ok (.iinc 5 1, 3) := by decide +kernel
theorem dX11_fours_78 : decode cX11_fours 78 = .ok (.goto (-34), 3) := by decide +kernel
theorem dX11_fours_81 : decode cX11_fours 81 = .ok (.iload_n 2, 1) := by decide +kernel
theorem dX11_fours_82 : decode cX11_fours 82 = .ok (.aload_n 0, 1) := by decide +kernel
theorem dX11_fours_83 : decode cX11_fours 83 = .ok (.invokevirtual 146, 3) := by decide +kernel
theorem dX11_fours_86 : decode cX11_fours 86 = .ok (.iload_n 1, 1) := by decide +kernel
theorem dX11_fours_87 : decode cX11_fours 87 = .ok (.if_icmp .ne 7, 3) := by decide +kernel
theorem dX11_fours_90 : decode cX11_fours 90 = .ok (.iconst 1, 1) := by decide +kernel
theorem dX11_fours_91 : decode cX11_fours 91 = .ok (.goto 4, 3) := by decide +kernel
theorem dX11_fours_94 : decode cX11_fours 94 = .ok (.iconst 0, 1) := by decide +kernel
theorem dX11_fours_95 : decode cX11_fours 95 = .ok (.iadd, 1) := by decide +kernel
theorem dX11_fours_96 : decode cX11_fours 96 = .ok (.istore_n 2, 1) := by decide +kernel
theorem dX11_fours_97 : decode cX11_fours 97 = .ok (.iinc 3 1, 3) := by decide +kernel
theorem dX11_fours_100 : decode cX11_fours 100 = .ok (.goto (-80), 3) := by decide +kernel
theorem dX11_fours_103 : decode cX11_fours 103 = .ok (.iload_n 2, 1) := by decide +kernel
theorem dX11_fours_104 : decode cX11_fours 104 = .ok (.ireturn, 1) := by decide +kernel
theorem dX11_seed_0 : decode cX11_seed 0 = .ok (.aload_n 0, 1) := by decide +kernel
theorem dX11_seed_1 : decode cX11_seed 1 = .ok (.getfield 24, 3) := by decide +kernel
theorem dX11_seed_4 : decode cX11_seed 4 = .ok (.istore_n 2, 1) := by decide +kernel
theorem dX11_seed_5 : decode cX11_seed 5 = .ok (.aload_n 0, 1) := by decide +kernel
theorem dX11_seed_6 : decode cX11_seed 6 = .ok (.iload_n 1, 1) := by decide +kernel
theorem dX11_seed_7 : decode cX11_seed 7 = .ok (.putfield 24, 3) := by decide +kernel
theorem dX11_seed_10 : decode cX11_seed 10 = .ok (.iload_n 2, 1) := by decide +kernel
theorem dX11_seed_11 : decode cX11_seed 11 = .ok (.ireturn, 1) := by decide +kernel
theorem dX11_drawBelow_0 : decode cX11_drawBelow 0 = .ok (.aload_n 0, 1) := by decide +kernel
theorem dX11_drawBelow_1 : decode cX11_drawBelow 1 = .ok (.aload_n 0, 1) := by decide +kernel
theorem dX11_drawBelow_2 : decode cX11_drawBelow 2 = .ok (.getfield 24, 3) := by decide +kernel
theorem dX11_drawBelow_5 : decode cX11_drawBelow 5 = .ok (.ldc 149, 2) := by decide +kernel
theorem dX11_drawBelow_7 : decode cX11_drawBelow 7 = .ok (.imul, 1) := by decide +kernel
theorem dX11_drawBelow_8 : decode cX11_drawBelow 8 = .ok (.sipush 12345, 3) := by decide +kernel
theorem dX11_drawBelow_11 : decode cX11_drawBelow 11 = .ok (.iadd, 1) := by decide +kernel
theorem dX11_drawBelow_12 : decode cX11_drawBelow 12 = .ok (.putfield 24, 3) := by decide +kernel
theorem dX11_drawBelow_15 : decode cX11_drawBelow 15 = .ok (.aload_n 0, 1) := by decide +kernel
theorem dX11_drawBelow_16 : decode cX11_drawBelow 16 = .ok (.getfield 24, 3) := by decide +kernel
theorem dX11_drawBelow_19 : decode cX11_drawBelow 19 = .ok (.bipush 16, 2) := by decide +kernel
theorem dX11_drawBelow_21 : decode cX11_drawBelow 21 = .ok (.iushr, 1) := by decide +kernel
theorem dX11_drawBelow_22 : decode cX11_drawBelow 22 = .ok (.iload_n 1, 1) := by decide +kernel
theorem dX11_drawBelow_23 : decode cX11_drawBelow 23 = .ok (.irem, 1) := by decide +kernel
theorem dX11_drawBelow_24 : decode cX11_drawBelow 24 = .ok (.ireturn, 1) := by decide +kernel
theorem dX11_putLink_0 : decode cX11_putLink 0 = .ok (.aload_n 0, 1) := by decide +kernel
theorem dX11_putLink_1 : decode cX11_putLink 1 = .ok (.getfield 13, 3) := by decide +kernel
theorem dX11_putLink_4 : decode cX11_putLink 4 = .ok (.iload_n 1, 1) := by decide +kernel
theorem dX11_putLink_5 : decode cX11_putLink 5 = .ok (.iload_n 2, 1) := by decide +kernel
theorem dX11_putLink_6 : decode cX11_putLink 6 = .ok (.bastore, 1) := by decide +kernel
theorem dX11_putLink_7 : decode cX11_putLink 7 = .ok (.aload_n 0, 1) := by decide +kernel
theorem dX11_putLink_8 : decode cX11_putLink 8 = .ok (.getfield 17, 3) := by decide +kernel
theorem dX11_putLink_11 : decode cX11_putLink 11 = .ok (.iload_n 1, 1) := by decide +kernel
theorem dX11_putLink_12 : decode cX11_putLink 12 = .ok (.iload_n 3, 1) := by decide +kernel
theorem dX11_putLink_13 : decode cX11_putLink 13 = .ok (.iastore, 1) := by decide +kernel
theorem dX11_putLink_14 : decode cX11_putLink 14 = .ok (.aload_n 0, 1) := by decide +kernel
theorem dX11_putLink_15 : decode cX11_putLink 15 = .ok (.getfield 21, 3) := by decide +kernel
theorem dX11_putLink_18 : decode cX11_putLink 18 = .ok (.iload_n 1, 1) := by decide +kernel
theorem dX11_putLink_19 : decode cX11_putLink 19 = .ok (.iload 4, 2) := by decide +kernel
theorem dX11_putLink_21 : decode cX11_putLink 21 = .ok (.iastore, 1) := by decide +kernel
theorem dX11_putLink_22 : decode cX11_putLink 22 = .ok (.return_, 1) := by decide +kernel
theorem dX11_maySwap_0 : decode cX11_maySwap 0 = .ok (.iload_n 1, 1) := by decide +kernel
theorem dX11_maySwap_1 : decode cX11_maySwap 1 = .ok (.bipush 16, 2) := by decide +kernel
theorem dX11_maySwap_3 : decode cX11_maySwap 3 = .ok (.idiv, 1) := by decide +kernel
theorem dX11_maySwap_4 : decode cX11_maySwap 4 = .ok (.istore_n 3, 1) := by decide +kernel
theorem dX11_maySwap_5 : decode cX11_maySwap 5 = .ok (.iload_n 1, 1) := by decide +kernel
theorem dX11_maySwap_6 : decode cX11_maySwap 6 = .ok (.bipush 16, 2) := by decide +kernel
theorem dX11_maySwap_8 : decode cX11_maySwap 8 = .ok (.irem, 1) := by decide +kernel
theorem dX11_maySwap_9 : decode cX11_maySwap 9 = .ok (.istore 4, 2) := by decide +kernel
theorem dX11_maySwap_11 : decode cX11_maySwap 11 = .ok (.iload_n 2, 1) := by decide +kernel
theorem dX11_maySwap_12 : decode cX11_maySwap 12 = .ok (.bipush 16, 2) := by decide +kernel
theorem dX11_maySwap_14 : decode cX11_maySwap 14 = .ok (.idiv, 1) := by decide +kernel
theorem dX11_maySwap_15 : decode cX11_maySwap 15 = .ok (.istore 5, 2) := by decide +kernel
theorem dX11_maySwap_17 : decode cX11_maySwap 17 = .ok (.iload_n 2, 1) := by decide +kernel
theorem dX11_maySwap_18 : decode cX11_maySwap 18 = .ok (.bipush 16, 2) := by decide +kernel
theorem dX11_maySwap_20 : decode cX11_maySwap 20 = .ok (.irem, 1) := by decide +kernel
theorem dX11_maySwap_21 : decode cX11_maySwap 21 = .ok (.istore 6, 2) := by decide +kernel
theorem dX11_maySwap_23 : decode cX11_maySwap 23 = .ok (.iload_n 3, 1) := by decide +kernel
theorem dX11_maySwap_24 : decode cX11_maySwap 24 = .ok (.iload 5, 2) := by decide +kernel
theorem dX11_maySwap_26 : decode cX11_maySwap 26 = .ok (.if_icmp .eq 48, 3) := by decide +kernel
theorem dX11_maySwap_29 : decode cX11_maySwap 29 = .ok (.iload 4, 2) := by decide +kernel
theorem dX11_maySwap_31 : decode cX11_maySwap 31 = .ok (.iload 6, 2) := by decide +kernel
theorem dX11_maySwap_33 : decode cX11_maySwap 33 = .ok (.if_icmp .eq 41, 3) := by decide +kernel
theorem dX11_maySwap_36 : decode cX11_maySwap 36 = .ok (.iload_n 3, 1) := by decide +kernel
theorem dX11_maySwap_37 : decode cX11_maySwap 37 = .ok (.iload 6, 2) := by decide +kernel
theorem dX11_maySwap_39 : decode cX11_maySwap 39 = .ok (.if_icmp .eq 35, 3) := by decide +kernel
theorem dX11_maySwap_42 : decode cX11_maySwap 42 = .ok (.iload 5, 2) := by decide +kernel
theorem dX11_maySwap_44 : decode cX11_maySwap 44 = .ok (.iload 4, 2) := by decide +kernel
theorem dX11_maySwap_46 : decode cX11_maySwap 46 = .ok (.if_icmp .eq 28, 3) := by decide +kernel
theorem dX11_maySwap_49 : decode cX11_maySwap 49 = .ok (.aload_n 0, 1) := by decide +kernel
theorem dX11_maySwap_50 : decode cX11_maySwap 50 = .ok (.iload_n 3, 1) := by decide +kernel
theorem dX11_maySwap_51 : decode cX11_maySwap 51 = .ok (.iload 6, 2) := by decide +kernel
theorem dX11_maySwap_53 : decode cX11_maySwap 53 = .ok (.invokevirtual 96, 3) := by decide +kernel
theorem dX11_maySwap_56 : decode cX11_maySwap 56 = .ok (.ifCond .ne 18, 3) := by decide +kernel
theorem dX11_maySwap_59 : decode cX11_maySwap 59 = .ok (.aload_n 0, 1) := by decide +kernel
theorem dX11_maySwap_60 : decode cX11_maySwap 60 = .ok (.iload 5, 2) := by decide +kernel
theorem dX11_maySwap_62 : decode cX11_maySwap 62 = .ok (.iload 4, 2) := by decide +kernel
theorem dX11_maySwap_64 : decode cX11_maySwap 64 = .ok (.invokevirtual 96, 3) := by decide +kernel
theorem dX11_maySwap_67 : decode cX11_maySwap 67 = .ok (.ifCond .ne 7, 3) := by decide +kernel
theorem dX11_maySwap_70 : decode cX11_maySwap 70 = .ok (.iconst 1, 1) := by decide +kernel
theorem dX11_maySwap_71 : decode cX11_maySwap 71 = .ok (.goto 4, 3) := by decide +kernel
theorem dX11_maySwap_74 : decode cX11_maySwap 74 = .ok (.iconst 0, 1) := by decide +kernel
theorem dX11_maySwap_75 : decode cX11_maySwap 75 = .ok (.ireturn, 1) := by decide +kernel
theorem dX11_doSwap_0 : decode cX11_doSwap 0 = .ok (.bipush 16, 2) := by decide +kernel
theorem dX11_doSwap_2 : decode cX11_doSwap 2 = .ok (.iload_n 1, 1) := by decide +kernel
theorem dX11_doSwap_3 : decode cX11_doSwap 3 = .ok (.bipush 16, 2) := by decide +kernel
theorem dX11_doSwap_5 : decode cX11_doSwap 5 = .ok (.idiv, 1) := by decide +kernel
theorem dX11_doSwap_6 : decode cX11_doSwap 6 = .ok (.imul, 1) := by decide +kernel
theorem dX11_doSwap_7 : decode cX11_doSwap 7 = .ok (.iload_n 2, 1) := by decide +kernel
theorem dX11_doSwap_8 : decode cX11_doSwap 8 = .ok (.bipush 16, 2) := by decide +kernel
theorem dX11_doSwap_10 : decode cX11_doSwap 10 = .ok (.irem, 1) := by decide +kernel
theorem dX11_doSwap_11 : decode cX11_doSwap 11 = .ok (.iadd, 1) := by decide +kernel
theorem dX11_doSwap_12 : decode cX11_doSwap 12 = .ok (.istore_n 3, 1) := by decide +kernel
theorem dX11_doSwap_13 : decode cX11_doSwap 13 = .ok (.bipush 16, 2) := by decide +kernel
theorem dX11_doSwap_15 : decode cX11_doSwap 15 = .ok (.iload_n 2, 1) := by decide +kernel
theorem dX11_doSwap_16 : decode cX11_doSwap 16 = .ok (.bipush 16, 2) := by decide +kernel
theorem dX11_doSwap_18 : decode cX11_doSwap 18 = .ok (.idiv, 1) := by decide +kernel
theorem dX11_doSwap_19 : decode cX11_doSwap 19 = .ok (.imul, 1) := by decide +kernel
theorem dX11_doSwap_20 : decode cX11_doSwap 20 = .ok (.iload_n 1, 1) := by decide +kernel
theorem dX11_doSwap_21 : decode cX11_doSwap 21 = .ok (.bipush 16, 2) := by decide +kernel
theorem dX11_doSwap_23 : decode cX11_doSwap 23 = .ok (.irem, 1) := by decide +kernel
theorem dX11_doSwap_24 : decode cX11_doSwap 24 = .ok (.iadd, 1) := by decide +kernel
theorem dX11_doSwap_25 : decode cX11_doSwap 25 = .ok (.istore 4, 2) := by decide +kernel
theorem dX11_doSwap_27 : decode cX11_doSwap 27 = .ok (.aload_n 0, 1) := by decide +kernel
theorem dX11_doSwap_28 : decode cX11_doSwap 28 = .ok (.iload_n 3, 1) := by decide +kernel
theorem dX11_doSwap_29 : decode cX11_doSwap 29 = .ok (.iconst 1, 1) := by decide +kernel
theorem dX11_doSwap_30 : decode cX11_doSwap 30 = .ok (.aload_n 0, 1) := by decide +kernel
theorem dX11_doSwap_31 : decode cX11_doSwap 31 = .ok (.getfield 17, 3) := by decide +kernel
theorem dX11_doSwap_34 : decode cX11_doSwap 34 = .ok (.iload_n 1, 1) := by decide +kernel
theorem dX11_doSwap_35 : decode cX11_doSwap 35 = .ok (.iaload, 1) := by decide +kernel
theorem dX11_doSwap_36 : decode cX11_doSwap 36 = .ok (.aload_n 0, 1) := by decide +kernel
theorem dX11_doSwap_37 : decode cX11_doSwap 37 = .ok (.getfield 21, 3) := by decide +kernel
theorem dX11_doSwap_40 : decode cX11_doSwap 40 = .ok (.iload_n 1, 1) := by decide +kernel
theorem dX11_doSwap_41 : decode cX11_doSwap 41 = .ok (.iaload, 1) := by decide +kernel
theorem dX11_doSwap_42 : decode cX11_doSwap 42 = .ok (.invokevirtual 150, 3) := by decide +kernel
theorem dX11_doSwap_45 : decode cX11_doSwap 45 = .ok (.aload_n 0, 1) := by decide +kernel
theorem dX11_doSwap_46 : decode cX11_doSwap 46 = .ok (.iload 4, 2) := by decide +kernel
theorem dX11_doSwap_48 : decode cX11_doSwap 48 = .ok (.iconst 1, 1) := by decide +kernel
theorem dX11_doSwap_49 : decode cX11_doSwap 49 = .ok (.aload_n 0, 1) := by decide +kernel
theorem dX11_doSwap_50 : decode cX11_doSwap 50 = .ok (.getfield 17, 3) := by decide +kernel
theorem dX11_doSwap_53 : decode cX11_doSwap 53 = .ok (.iload_n 2, 1) := by decide +kernel
theorem dX11_doSwap_54 : decode cX11_doSwap 54 = .ok (.iaload, 1) := by decide +kernel
theorem dX11_doSwap_55 : decode cX11_doSwap 55 = .ok (.aload_n 0, 1) := by decide +kernel
theorem dX11_doSwap_56 : decode cX11_doSwap 56 = .ok (.getfield 21, 3) := by decide +kernel
theorem dX11_doSwap_59 : decode cX11_doSwap 59 = .ok (.iload_n 2, 1) := by decide +kernel
theorem dX11_doSwap_60 : decode cX11_doSwap 60 = .ok (.iaload, 1) := by decide +kernel
theorem dX11_doSwap_61 : decode cX11_doSwap 61 = .ok (.invokevirtual 150, 3) := by decide +kernel
theorem dX11_doSwap_64 : decode cX11_doSwap 64 = .ok (.aload_n 0, 1) := by decide +kernel
theorem dX11_doSwap_65 : decode cX11_doSwap 65 = .ok (.iload_n 1, 1) := by decide +kernel
theorem dX11_doSwap_66 : decode cX11_doSwap 66 = .ok (.iconst 0, 1) := by decide +kernel
theorem dX11_doSwap_67 : decode cX11_doSwap 67 = .ok (.iconst 0, 1) := by decide +kernel
theorem dX11_doSwap_68 : decode cX11_doSwap 68 = .ok (.iconst 0, 1) := by decide +kernel
theorem dX11_doSwap_69 : decode cX11_doSwap 69 = .ok (.invokevirtual 150, 3) := by decide +kernel
theorem dX11_doSwap_72 : decode cX11_doSwap 72 = .ok (.aload_n 0, 1) := by decide +kernel
theorem dX11_doSwap_73 : decode cX11_doSwap 73 = .ok (.iload_n 2, 1) := by decide +kernel
theorem dX11_doSwap_74 : decode cX11_doSwap 74 = .ok (.iconst 0, 1) := by decide +kernel
theorem dX11_doSwap_75 : decode cX11_doSwap 75 = .ok (.iconst 0, 1) := by decide +kernel
theorem dX11_doSwap_76 : decode cX11_doSwap 76 = .ok (.iconst 0, 1) := by decide +kernel
theorem dX11_doSwap_77 : decode cX11_doSwap 77 = .ok (.invokevirtual 150, 3) := by decide +kernel
theorem dX11_doSwap_80 : decode cX11_doSwap 80 = .ok (.return_, 1) := by decide +kernel
theorem dX11_swap_0 : decode cX11_swap 0 = .ok (.aload_n 0, 1) := by decide +kernel
theorem dX11_swap_1 : decode cX11_swap 1 = .ok (.iload_n 1, 1) := by decide +kernel
theorem dX11_swap_2 : decode cX11_swap 2 = .ok (.invokevirtual 115, 3) := by decide +kernel
theorem dX11_swap_5 : decode cX11_swap 5 = .ok (.istore_n 3, 1) := by decide +kernel
theorem dX11_swap_6 : decode cX11_swap 6 = .ok (.aload_n 0, 1) := by decide +kernel
theorem dX11_swap_7 : decode cX11_swap 7 = .ok (.iload_n 2, 1) := by decide +kernel
theorem dX11_swap_8 : decode cX11_swap 8 = .ok (.invokevirtual 115, 3) := by decide +kernel
theorem dX11_swap_11 : decode cX11_swap 11 = .ok (.istore 4, 2) := by decide +kernel
theorem dX11_swap_13 : decode cX11_swap 13 = .ok (.iload_n 3, 1) := by decide +kernel
theorem dX11_swap_14 : decode cX11_swap 14 = .ok (.ifCond .lt 14, 3) := by decide +kernel
theorem dX11_swap_17 : decode cX11_swap 17 = .ok (.iload 4, 2) := by decide +kernel
theorem dX11_swap_19 : decode cX11_swap 19 = .ok (.ifCond .lt 9, 3) := by decide +kernel
theorem dX11_swap_22 : decode cX11_swap 22 = .ok (.iload_n 3, 1) := by decide +kernel
theorem dX11_swap_23 : decode cX11_swap 23 = .ok (.iload 4, 2) := by decide +kernel
theorem dX11_swap_25 : decode cX11_swap 25 = .ok (.if_icmp .ne 9, 3) := by decide +kernel
theorem dX11_swap_28 : decode cX11_swap 28 = .ok (.aload_n 0, 1) := by decide +kernel
theorem dX11_swap_29 : decode cX11_swap 29 = .ok (.iconst (-1), 1) := by decide +kernel
theorem dX11_swap_30 : decode cX11_swap 30 = .ok (.invokevirtual 104, 3) := by decide +kernel
theorem dX11_swap_33 : decode cX11_swap 33 = .ok (.ireturn, 1) := by decide +kernel
theorem dX11_swap_34 : decode cX11_swap 34 = .ok (.aload_n 0, 1) := by decide +kernel
theorem dX11_swap_35 : decode cX11_swap 35 = .ok (.iload_n 3, 1) := by decide +kernel
theorem dX11_swap_36 : decode cX11_swap 36 = .ok (.iload 4, 2) := by decide +kernel
theorem dX11_swap_38 : decode cX11_swap 38 = .ok (.invokevirtual 154, 3) := by decide +kernel
theorem dX11_swap_41 : decode cX11_swap 41 = .ok (.ifCond .ne 10, 3) := by decide +kernel
theorem dX11_swap_44 : decode cX11_swap 44 = .ok (.aload_n 0, 1) := by decide +kernel
theorem dX11_swap_45 : decode cX11_swap 45 = .ok (.bipush (-3), 2) := by decide +kernel
theorem dX11_swap_47 : decode cX11_swap 47 = .ok (.invokevirtual 104, 3) := by decide +kernel
theorem dX11_swap_50 : decode cX11_swap 50 = .ok (.ireturn, 1) := by decide +kernel
theorem dX11_swap_51 : decode cX11_swap 51 = .ok (.aload_n 0, 1) := by decide +kernel
theorem dX11_swap_52 : decode cX11_swap 52 = .ok (.iload_n 3, 1) := by decide +kernel
theorem dX11_swap_53 : decode cX11_swap 53 = .ok (.iload 4, 2) := by decide +kernel
theorem dX11_swap_55 : decode cX11_swap 55 = .ok (.invokevirtual 157, 3) := by decide +kernel
theorem dX11_swap_58 : decode cX11_swap 58 = .ok (.iconst 1, 1) := by decide +kernel
theorem dX11_swap_59 : decode cX11_swap 59 = .ok (.ireturn, 1) := by decide +kernel
theorem dX11_mix_0 : decode cX11_mix 0 = .ok (.iload_n 1, 1) := by decide +kernel
theorem dX11_mix_1 : decode cX11_mix 1 = .ok (.ifCond .ge 10, 3) := by decide +kernel
theorem dX11_mix_4 : decode cX11_mix 4 = .ok (.aload_n 0, 1) := by decide +kernel
theorem dX11_mix_5 : decode cX11_mix 5 = .ok (.bipush (-4), 2) := by decide +kernel
theorem dX11_mix_7 : decode cX11_mix 7 = .ok (.invokevirtual 104, 3) := by decide +kernel
theorem dX11_mix_10 : decode cX11_mix 10 = .ok (.ireturn, 1) := by decide +kernel
theorem dX11_mix_11 : decode cX11_mix 11 = .ok (.iload_n 1, 1) := by decide +kernel
theorem dX11_mix_12 : decode cX11_mix 12 = .ok (.sipush 500, 3) := by decide +kernel
theorem dX11_mix_15 : decode cX11_mix 15 = .ok (.if_icmp .le 10, 3) := by decide +kernel
theorem dX11_mix_18 : decode cX11_mix 18 = .ok (.aload_n 0, 1) := by decide +kernel
theorem dX11_mix_19 : decode cX11_mix 19 = .ok (.bipush (-6), 2) := by decide +kernel
theorem dX11_mix_21 : decode cX11_mix 21 = .ok (.invokevirtual 104, 3) := by decide +kernel
theorem dX11_mix_24 : decode cX11_mix 24 = .ok (.ireturn, 1) := by decide +kernel
theorem dX11_mix_25 : decode cX11_mix 25 = .ok (.aload_n 0, 1) := by decide +kernel
theorem dX11_mix_26 : decode cX11_mix 26 = .ok (.invokevirtual 161, 3) := by decide +kernel
theorem dX11_mix_29 : decode cX11_mix 29 = .ok (.istore_n 2, 1) := by decide +kernel
theorem dX11_mix_30 : decode cX11_mix 30 = .ok (.iload_n 2, 1) := by decide +kernel
theorem dX11_mix_31 : decode cX11_mix 31 = .ok (.iconst 2, 1) := by decide +kernel
theorem dX11_mix_32 : decode cX11_mix 32 = .ok (.if_icmp .ge 10, 3) := by decide +kernel
theorem dX11_mix_35 : decode cX11_mix 35 = .ok (.aload_n 0, 1) := by decide +kernel
theorem dX11_mix_36 : decode cX11_mix 36 = .ok (.bipush (-3), 2) := by decide +kernel
theorem dX11_mix_38 : decode cX11_mix 38 = .ok (.invokevirtual 104, 3) := by decide +kernel
theorem dX11_mix_41 : decode cX11_mix 41 = .ok (.ireturn, 1) := by decide +kernel
theorem dX11_mix_42 : decode cX11_mix 42 = .ok (.iconst 0, 1) := by decide +kernel
theorem dX11_mix_43 : decode cX11_mix 43 = .ok (.istore_n 3, 1) := by decide +kernel
theorem dX11_mix_44 : decode cX11_mix 44 = .ok (.iconst 0, 1) := by decide +kernel
theorem dX11_mix_45 : decode cX11_mix 45 = .ok (.istore 4, 2) := by decide +kernel
theorem dX11_mix_47 : decode cX11_mix 47 = .ok (.iload 4, 2) := by decide +kernel
theorem dX11_mix_49 : decode cX11_mix 49 = .ok (.iload_n 1, 1) := by decide +kernel
theorem dX11_mix_50 : decode cX11_mix 50 = .ok (.if_icmp .ge 60, 3) := by decide +kernel
theorem dX11_mix_53 : decode cX11_mix 53 = .ok (.aload_n 0, 1) := by decide +kernel
theorem dX11_mix_54 : decode cX11_mix 54 = .ok (.aload_n 0, 1) := by decide +kernel
theorem dX11_mix_55 : decode cX11_mix 55 = .ok (.iload_n 2, 1) := by decide +kernel
theorem dX11_mix_56 : decode cX11_mix 56 = .ok (.invokevirtual 164, 3) := by decide +kernel
theorem dX11_mix_59 : decode cX11_mix 59 = .ok (.invokevirtual 115, 3) := by decide +kernel
theorem dX11_mix_62 : decode cX11_mix 62 = .ok (.istore 5, 2) := by decide +kernel
theorem dX11_mix_64 : decode cX11_mix 64 = .ok (.aload_n 0, 1) := by decide +kernel
theorem dX11_mix_65 : decode cX11_mix 65 = .ok (.aload_n 0, 1) := by decide +kernel
theorem dX11_mix_66 : decode cX11_mix 66 = .ok (.iload_n 2, 1) := by decide +kernel
theorem dX11_mix_67 : decode cX11_mix 67 = .ok (.invokevirtual 164, 3) := by decide +kernel
theorem dX11_mix_70 : decode cX11_mix 70 = .ok (.invokevirtual 115, 3) := by decide +kernel
theorem dX11_mix_73 : decode cX11_mix 73 = .ok (.istore 6, 2) := by decide +kernel
theorem dX11_mix_75 : decode cX11_mix 75 = .ok (.iload 5, 2) := by decide +kernel
theorem dX11_mix_77 : decode cX11_mix 77 = .ok (.iload 6, 2) := by decide +kernel
theorem dX11_mix_79 : decode cX11_mix 79 = .ok (.if_icmp .eq 25, 3) := by decide +kernel
theorem dX11_mix_82 : decode cX11_mix 82 = .ok (.aload_n 0, 1) := by decide +kernel
theorem dX11_mix_83 : decode cX11_mix 83 = .ok (.iload 5, 2) := by decide +kernel
theorem dX11_mix_85 : decode cX11_mix 85 = .ok (.iload 6, 2) := by decide +kernel
theorem dX11_mix_87 : decode cX11_mix 87 = .ok (.invokevirtual 154, 3) := by decide +kernel
theorem dX11_mix_90 : decode cX11_mix 90 = .ok (.ifCond .eq 14, 3) := by decide +kernel
theorem dX11_mix_93 : decode cX11_mix 93 = .ok (.aload_n 0, 1) := by decide +kernel
theorem dX11_mix_94 : decode cX11_mix 94 = .ok (.iload 5, 2) := by decide +kernel
theorem dX11_mix_96 : decode cX11_mix 96 = .ok (.iload 6, 2) := by decide +kernel
theorem dX11_mix_98 : decode cX11_mix 98 = .ok (.invokevirtual 157, 3) := by decide +kernel
theorem dX11_mix_101 : decode cX11_mix 101 = .ok (.iinc 3 1, 3) := by decide +kernel
theorem dX11_mix_104 : decode cX11_mix 104 = .ok (.iinc 4 1, 3) := by decide +kernel
theorem dX11_mix_107 : decode cX11_mix 107 = .ok (.goto (-60), 3) := by decide +kernel
theorem dX11_mix_110 : decode cX11_mix 110 = .ok (.iload_n 3, 1) := by decide +kernel
theorem dX11_mix_111 : decode cX11_mix 111 = .ok (.ireturn, 1) := by decide +kernel
theorem dX11_divisor_0 : decode cX11_divisor 0 = .ok (.lload_n 0, 1) := by decide +kernel
theorem dX11_divisor_1 : decode cX11_divisor 1 = .ok (.lstore 4, 2) := by decide +kernel
theorem dX11_divisor_3 : decode cX11_divisor 3 = .ok (.lload_n 2, 1) := by decide +kernel
theorem dX11_divisor_4 : decode cX11_divisor 4 = .ok (.lstore 6, 2) := by decide +kernel
theorem dX11_divisor_6 : decode cX11_divisor 6 = .ok (.lload 6, 2) := by decide +kernel
theorem dX11_divisor_8 : decode cX11_divisor 8 = .ok (.lconst 0, 1) := by decide +kernel
theorem dX11_divisor_9 : decode cX11_divisor 9 = .ok (.lcmp, 1) := by decide +kernel
theorem dX11_divisor_10 : decode cX11_divisor 10 = .ok (.ifCond .eq 21, 3) := by decide +kernel
theorem dX11_divisor_13 : decode cX11_divisor 13 = .ok (.lload 4, 2) := by decide +kernel
theorem dX11_divisor_15 : decode cX11_divisor 15 = .ok (.lload 6, 2) := by decide +kernel
theorem dX11_divisor_17 : decode cX11_divisor 17 = .ok (.lrem, 1) := by decide +kernel
theorem dX11_divisor_18 : decode cX11_divisor 18 = .ok (.lstore 8, 2) := by decide +kernel
theorem dX11_divisor_20 : decode cX11_divisor 20 = .ok (.lload 6, 2) := by decide +kernel
theorem dX11_divisor_22 : decode cX11_divisor 22 = .ok (.lstore 4, 2) := by decide +kernel
theorem dX11_divisor_24 : decode cX11_divisor 24 = .ok (.lload 8, 2) := by decide +kernel
theorem dX11_divisor_26 : decode cX11_divisor 26 = .ok (.lstore 6, 2) := by decide +kernel
theorem dX11_divisor_28 : decode cX11_divisor 28 = .ok (.goto (-22), 3) := by decide +kernel
theorem dX11_divisor_31 : decode cX11_divisor 31 = .ok (.lload 4, 2) := by decide +kernel
theorem dX11_divisor_33 : decode cX11_divisor 33 = .ok (.lreturn, 1) := by decide +kernel
theorem dX11_fall_0 : decode cX11_fall 0 = .ok (.lconst 1, 1) := by decide +kernel
theorem dX11_fall_1 : decode cX11_fall 1 = .ok (.lstore_n 2, 1) := by decide +kernel
theorem dX11_fall_2 : decode cX11_fall 2 = .ok (.iconst 0, 1) := by decide +kernel
theorem dX11_fall_3 : decode cX11_fall 3 = .ok (.istore 4, 2) := by decide +kernel
theorem dX11_fall_5 : decode cX11_fall 5 = .ok (.iload 4, 2) := by decide +kernel
theorem dX11_fall_7 : decode cX11_fall 7 = .ok (.iload_n 1, 1) := by decide +kernel
theorem dX11_fall_8 : decode cX11_fall 8 = .ok (.if_icmp .ge 28, 3) := by decide +kernel
theorem dX11_fall_11 : decode cX11_fall 11 = .ok (.lload_n 2, 1) := by decide +kernel
theorem dX11_fall_12 : decode cX11_fall 12 = .ok (.iload_n 0, 1) := by decide +kernel
theorem dX11_fall_13 : decode cX11_fall 13 = .ok (.iload 4, 2) := by decide +kernel
theorem dX11_fall_15 : decode cX11_fall 15 = .ok (.isub, 1) := by decide +kernel
theorem dX11_fall_16 : decode cX11_fall 16 = .ok (.ifCond .le 11, 3) := by decide +kernel
theorem dX11_fall_19 : decode cX11_fall 19 = .ok (.iload_n 0, 1) := by decide +kernel
theorem dX11_fall_20 : decode cX11_fall 20 = .ok (.iload 4, 2) := by decide +kernel
theorem dX11_fall_22 : decode cX11_fall 22 = .ok (.isub, 1) := by decide +kernel
theorem dX11_fall_23 : decode cX11_fall 23 = .ok (.i2l, 1) := by decide +kernel
theorem dX11_fall_24 : decode cX11_fall 24 = .ok (.goto 4, 3) := by decide +kernel
theorem dX11_fall_27 : decode cX11_fall 27 = .ok (.lconst 0, 1) := by decide +kernel
theorem dX11_fall_28 : decode cX11_fall 28 = .ok (.lmul, 1) := by decide +kernel
theorem dX11_fall_29 : decode cX11_fall 29 = .ok (.lstore_n 2, 1) := by decide +kernel
theorem dX11_fall_30 : decode cX11_fall 30 = .ok (.iinc 4 1, 3) := by decide +kernel
theorem dX11_fall_33 : decode cX11_fall 33 = .ok (.goto (-28), 3) := by decide +kernel
theorem dX11_fall_36 : decode cX11_fall 36 = .ok (.lload_n 2, 1) := by decide +kernel
theorem dX11_fall_37 : decode cX11_fall 37 = .ok (.lreturn, 1) := by decide +kernel
theorem dX11_threes_0 : decode cX11_threes 0 = .ok (.iload_n 0, 1) := by decide +kernel
theorem dX11_threes_1 : decode cX11_threes 1 = .ok (.iload_n 0, 1) := by decide +kernel
theorem dX11_threes_2 : decode cX11_threes 2 = .ok (.iconst 1, 1) := by decide +kernel
theorem dX11_threes_3 : decode cX11_threes 3 = .ok (.isub, 1) := by decide +kernel
theorem dX11_threes_4 : decode cX11_threes 4 = .ok (.imul, 1) := by decide +kernel
theorem dX11_threes_5 : decode cX11_threes 5 = .ok (.iload_n 0, 1) := by decide +kernel
theorem dX11_threes_6 : decode cX11_threes 6 = .ok (.iconst 2, 1) := by decide +kernel
theorem dX11_threes_7 : decode cX11_threes 7 = .ok (.isub, 1) := by decide +kernel
theorem dX11_threes_8 : decode cX11_threes 8 = .ok (.imul, 1) := by decide +kernel
theorem dX11_threes_9 : decode cX11_threes 9 = .ok (.bipush 6, 2) := by decide +kernel
theorem dX11_threes_11 : decode cX11_threes 11 = .ok (.idiv, 1) := by decide +kernel
theorem dX11_threes_12 : decode cX11_threes 12 = .ok (.ireturn, 1) := by decide +kernel
theorem dX11_findMean_0 : decode cX11_findMean 0 = .ok (.aload_n 0, 1) := by decide +kernel
theorem dX11_findMean_1 : decode cX11_findMean 1 = .ok (.getfield 7, 3) := by decide +kernel
theorem dX11_findMean_4 : decode cX11_findMean 4 = .ok (.aload_n 0, 1) := by decide +kernel
theorem dX11_findMean_5 : decode cX11_findMean 5 = .ok (.getfield 7, 3) := by decide +kernel
theorem dX11_findMean_8 : decode cX11_findMean 8 = .ok (.iconst 1, 1) := by decide +kernel
theorem dX11_findMean_9 : decode cX11_findMean 9 = .ok (.isub, 1) := by decide +kernel
theorem dX11_findMean_10 : decode cX11_findMean 10 = .ok (.imul, 1) := by decide +kernel
theorem dX11_findMean_11 : decode cX11_findMean 11 = .ok (.istore_n 2, 1) := by decide +kernel
theorem dX11_findMean_12 : decode cX11_findMean 12 = .ok (.aload_n 0, 1) := by decide +kernel
theorem dX11_findMean_13 : decode cX11_findMean 13 = .ok (.invokevirtual 161, 3) := by decide +kernel
theorem dX11_findMean_16 : decode cX11_findMean 16 = .ok (.istore_n 3, 1) := by decide +kernel
theorem dX11_findMean_17 : decode cX11_findMean 17 = .ok (.aload_n 0, 1) := by decide +kernel
theorem dX11_findMean_18 : decode cX11_findMean 18 = .ok (.getfield 45, 3) := by decide +kernel
theorem dX11_findMean_21 : decode cX11_findMean 21 = .ok (.iload_n 1, 1) := by decide +kernel
theorem dX11_findMean_22 : decode cX11_findMean 22 = .ok (.iaload, 1) := by decide +kernel
theorem dX11_findMean_23 : decode cX11_findMean 23 = .ok (.invokestatic 127, 3) := by decide +kernel
theorem dX11_findMean_26 : decode cX11_findMean 26 = .ok (.istore 4, 2) := by decide +kernel
theorem dX11_findMean_28 : decode cX11_findMean 28 = .ok (.iconst 0, 1) := by decide +kernel
theorem dX11_findMean_29 : decode cX11_findMean 29 = .ok (.istore 5, 2) := by decide +kernel
theorem dX11_findMean_31 : decode cX11_findMean 31 = .ok (.iconst 0, 1) := by decide +kernel
theorem dX11_findMean_32 : decode cX11_findMean 32 = .ok (.istore 6, 2) := by decide +kernel
theorem dX11_findMean_34 : decode cX11_findMean 34 = .ok (.iload 6, 2) := by decide +kernel
theorem dX11_findMean_36 : decode cX11_findMean 36 = .ok (.bipush 64, 2) := by decide +kernel
theorem dX11_findMean_38 : decode cX11_findMean 38 = .ok (.if_icmp .ge 35, 3) := by decide +kernel
theorem dX11_findMean_41 : decode cX11_findMean 41 = .ok (.iload 5, 2) := by decide +kernel
theorem dX11_findMean_43 : decode cX11_findMean 43 = .ok (.aload_n 0, 1) := by decide +kernel
theorem dX11_findMean_44 : decode cX11_findMean 44 = .ok (.getfield 42, 3) := by decide +kernel
theorem dX11_findMean_47 : decode cX11_findMean 47 = .ok (.iload 6, 2) := by decide +kernel
theorem dX11_findMean_49 : decode cX11_findMean 49 = .ok (.iaload, 1) := by decide +kernel
theorem dX11_findMean_50 : decode cX11_findMean 50 = .ok (.aload_n 0, 1) := by decide +kernel
theorem dX11_findMean_51 : decode cX11_findMean 51 = .ok (.getfield 45, 3) := by decide +kernel
theorem dX11_findMean_54 : decode cX11_findMean 54 = .ok (.iload_n 1, 1) := by decide +kernel
theorem dX11_findMean_55 : decode cX11_findMean 55 = .ok (.iaload, 1) := by decide +kernel
theorem dX11_findMean_56 : decode cX11_findMean 56 = .ok (.if_icmp .ne 7, 3) := by decide +kernel
theorem dX11_findMean_59 : decode cX11_findMean 59 = .ok (.iconst 1, 1) := by decide +kernel
theorem dX11_findMean_60 : decode cX11_findMean 60 = .ok (.goto 4, 3) := by decide +kernel
theorem dX11_findMean_63 : decode cX11_findMean 63 = .ok (.iconst 0, 1) := by decide +kernel
theorem dX11_findMean_64 : decode cX11_findMean 64 = .ok (.iadd, 1) := by decide +kernel
theorem dX11_findMean_65 : decode cX11_findMean 65 = .ok (.istore 5, 2) := by decide +kernel
theorem dX11_findMean_67 : decode cX11_findMean 67 = .ok (.iinc 6 1, 3) := by decide +kernel
theorem dX11_findMean_70 : decode cX11_findMean 70 = .ok (.goto (-36), 3) := by decide +kernel
theorem dX11_findMean_73 : decode cX11_findMean 73 = .ok (.aload_n 0, 1) := by decide +kernel
theorem dX11_findMean_74 : decode cX11_findMean 74 = .ok (.aload_n 0, 1) := by decide +kernel
theorem dX11_findMean_75 : decode cX11_findMean 75 = .ok (.getfield 7, 3) := by decide +kernel
theorem dX11_findMean_78 : decode cX11_findMean 78 = .ok (.invokestatic 167, 3) := by decide +kernel
theorem dX11_findMean_81 : decode cX11_findMean 81 = .ok (.iload 5, 2) := by decide +kernel
theorem dX11_findMean_83 : decode cX11_findMean 83 = .ok (.imul, 1) := by decide +kernel
theorem dX11_findMean_84 : decode cX11_findMean 84 = .ok (.i2l, 1) := by decide +kernel
theorem dX11_findMean_85 : decode cX11_findMean 85 = .ok (.iload_n 3, 1) := by decide +kernel
theorem dX11_findMean_86 : decode cX11_findMean 86 = .ok (.iload 4, 2) := by decide +kernel
theorem dX11_findMean_88 : decode cX11_findMean 88 = .ok (.invokestatic 170, 3) := by decide +kernel
theorem dX11_findMean_91 : decode cX11_findMean 91 = .ok (.lmul, 1) := by decide +kernel
theorem dX11_findMean_92 : decode cX11_findMean 92 = .ok (.iload_n 2, 1) := by decide +kernel
theorem dX11_findMean_93 : decode cX11_findMean 93 = .ok (.iload_n 3, 1) := by decide +kernel
theorem dX11_findMean_94 : decode cX11_findMean 94 = .ok (.isub, 1) := by decide +kernel
theorem dX11_findMean_95 : decode cX11_findMean 95 = .ok (.bipush 6, 2) := by decide +kernel
theorem dX11_findMean_97 : decode cX11_findMean 97 = .ok (.iload 4, 2) := by decide +kernel
theorem dX11_findMean_99 : decode cX11_findMean 99 = .ok (.isub, 1) := by decide +kernel
theorem dX11_findMean_100 : decode cX11_findMean 100 = .ok (.invokestatic 170, 3) := by decide +kernel
theorem dX11_findMean_103 : decode cX11_findMean 103 = .ok (.lmul, 1) := by decide +kernel
theorem dX11_findMean_104 : decode cX11_findMean 104 = .ok (.putfield 174, 3) := by decide +kernel
theorem dX11_findMean_107 : decode cX11_findMean 107 = .ok (.aload_n 0, 1) := by decide +kernel
theorem dX11_findMean_108 : decode cX11_findMean 108 = .ok (.iload_n 2, 1) := by decide +kernel
theorem dX11_findMean_109 : decode cX11_findMean 109 = .ok (.bipush 6, 2) := by decide +kernel
theorem dX11_findMean_111 : decode cX11_findMean 111 = .ok (.invokestatic 170, 3) := by decide +kernel
theorem dX11_findMean_114 : decode cX11_findMean 114 = .ok (.putfield 178, 3) := by decide +kernel
theorem dX11_findMean_117 : decode cX11_findMean 117 = .ok (.aload_n 0, 1) := by decide +kernel
theorem dX11_findMean_118 : decode cX11_findMean 118 = .ok (.getfield 174, 3) := by decide +kernel
theorem dX11_findMean_121 : decode cX11_findMean 121 = .ok (.aload_n 0, 1) := by decide +kernel
theorem dX11_findMean_122 : decode cX11_findMean 122 = .ok (.getfield 178, 3) := by decide +kernel
theorem dX11_findMean_125 : decode cX11_findMean 125 = .ok (.invokestatic 181, 3) := by decide +kernel
theorem dX11_findMean_128 : decode cX11_findMean 128 = .ok (.lstore 6, 2) := by decide +kernel
theorem dX11_findMean_130 : decode cX11_findMean 130 = .ok (.aload_n 0, 1) := by decide +kernel
theorem dX11_findMean_131 : decode cX11_findMean 131 = .ok (.dup, 1) := by decide +kernel
theorem dX11_findMean_132 : decode cX11_findMean 132 = .ok (.getfield 174, 3) := by decide +kernel
theorem dX11_findMean_135 : decode cX11_findMean 135 = .ok (.lload 6, 2) := by decide +kernel
theorem dX11_findMean_137 : decode cX11_findMean 137 = .ok (.ldiv, 1) := by decide +kernel
theorem dX11_findMean_138 : decode cX11_findMean 138 = .ok (.putfield 174, 3) := by decide +kernel
theorem dX11_findMean_141 : decode cX11_findMean 141 = .ok (.aload_n 0, 1) := by decide +kernel
theorem dX11_findMean_142 : decode cX11_findMean 142 = .ok (.dup, 1) := by decide +kernel
theorem dX11_findMean_143 : decode cX11_findMean 143 = .ok (.getfield 178, 3) := by decide +kernel
theorem dX11_findMean_146 : decode cX11_findMean 146 = .ok (.lload 6, 2) := by decide +kernel
theorem dX11_findMean_148 : decode cX11_findMean 148 = .ok (.ldiv, 1) := by decide +kernel
theorem dX11_findMean_149 : decode cX11_findMean 149 = .ok (.putfield 178, 3) := by decide +kernel
theorem dX11_findMean_152 : decode cX11_findMean 152 = .ok (.return_, 1) := by decide +kernel
theorem dX11_mean_0 : decode cX11_mean 0 = .ok (.iload_n 1, 1) := by decide +kernel
theorem dX11_mean_1 : decode cX11_mean 1 = .ok (.invokestatic 124, 3) := by decide +kernel
theorem dX11_mean_4 : decode cX11_mean 4 = .ok (.ifCond .ne 10, 3) := by decide +kernel
theorem dX11_mean_7 : decode cX11_mean 7 = .ok (.aload_n 0, 1) := by decide +kernel
theorem dX11_mean_8 : decode cX11_mean 8 = .ok (.iconst (-1), 1) := by decide +kernel
theorem dX11_mean_9 : decode cX11_mean 9 = .ok (.invokevirtual 104, 3) := by decide +kernel
theorem dX11_mean_12 : decode cX11_mean 12 = .ok (.i2l, 1) := by decide +kernel
theorem dX11_mean_13 : decode cX11_mean 13 = .ok (.lreturn, 1) := by decide +kernel
theorem dX11_mean_14 : decode cX11_mean 14 = .ok (.iload_n 2, 1) := by decide +kernel
theorem dX11_mean_15 : decode cX11_mean 15 = .ok (.iconst 0, 1) := by decide +kernel
theorem dX11_mean_16 : decode cX11_mean 16 = .ok (.iconst 1, 1) := by decide +kernel
theorem dX11_mean_17 : decode cX11_mean 17 = .ok (.invokestatic 86, 3) := by decide +kernel
theorem dX11_mean_20 : decode cX11_mean 20 = .ok (.ifCond .ne 11, 3) := by decide +kernel
theorem dX11_mean_23 : decode cX11_mean 23 = .ok (.aload_n 0, 1) := by decide +kernel
theorem dX11_mean_24 : decode cX11_mean 24 = .ok (.bipush (-2), 2) := by decide +kernel
theorem dX11_mean_26 : decode cX11_mean 26 = .ok (.invokevirtual 104, 3) := by decide +kernel
theorem dX11_mean_29 : decode cX11_mean 29 = .ok (.i2l, 1) := by decide +kernel
theorem dX11_mean_30 : decode cX11_mean 30 = .ok (.lreturn, 1) := by decide +kernel
theorem dX11_mean_31 : decode cX11_mean 31 = .ok (.aload_n 0, 1) := by decide +kernel
theorem dX11_mean_32 : decode cX11_mean 32 = .ok (.iload_n 1, 1) := by decide +kernel
theorem dX11_mean_33 : decode cX11_mean 33 = .ok (.invokevirtual 185, 3) := by decide +kernel
theorem dX11_mean_36 : decode cX11_mean 36 = .ok (.iload_n 2, 1) := by decide +kernel
theorem dX11_mean_37 : decode cX11_mean 37 = .ok (.ifCond .ne 10, 3) := by decide +kernel
theorem dX11_mean_40 : decode cX11_mean 40 = .ok (.aload_n 0, 1) := by decide +kernel
theorem dX11_mean_41 : decode cX11_mean 41 = .ok (.getfield 174, 3) := by decide +kernel
theorem dX11_mean_44 : decode cX11_mean 44 = .ok (.goto 7, 3) := by decide +kernel
theorem dX11_mean_47 : decode cX11_mean 47 = .ok (.aload_n 0, 1) := by decide +kernel
theorem dX11_mean_48 : decode cX11_mean 48 = .ok (.getfield 178, 3) := by decide +kernel
theorem dX11_mean_51 : decode cX11_mean 51 = .ok (.lreturn, 1) := by decide +kernel
theorem dX11_more_0 : decode cX11_more 0 = .ok (.iload_n 1, 1) := by decide +kernel
theorem dX11_more_1 : decode cX11_more 1 = .ok (.invokestatic 124, 3) := by decide +kernel
theorem dX11_more_4 : decode cX11_more 4 = .ok (.ifCond .ne 16, 3) := by decide +kernel
theorem dX11_more_7 : decode cX11_more 7 = .ok (.aload_n 0, 1) := by decide +kernel
theorem dX11_more_8 : decode cX11_more 8 = .ok (.getfield 39, 3) := by decide +kernel
theorem dX11_more_11 : decode cX11_more 11 = .ok (.iconst 1, 1) := by decide +kernel
theorem dX11_more_12 : decode cX11_more 12 = .ok (.dup2, 1) := by decide +kernel
theorem dX11_more_13 : decode cX11_more 13 = .ok (.iaload, 1) := by decide +kernel
theorem dX11_more_14 : decode cX11_more 14 = .ok (.iconst 1, 1) := by decide +kernel
theorem dX11_more_15 : decode cX11_more 15 = .ok (.iadd, 1) := by decide +kernel
theorem dX11_more_16 : decode cX11_more 16 = .ok (.iastore, 1) := by decide +kernel
theorem dX11_more_17 : decode cX11_more 17 = .ok (.ldc 189, 2) := by decide +kernel
theorem dX11_more_19 : decode cX11_more 19 = .ok (.ireturn, 1) := by decide +kernel
theorem dX11_more_20 : decode cX11_more 20 = .ok (.aload_n 0, 1) := by decide +kernel
theorem dX11_more_21 : decode cX11_more 21 = .ok (.iload_n 1, 1) := by decide +kernel
theorem dX11_more_22 : decode cX11_more 22 = .ok (.invokevirtual 185, 3) := by decide +kernel
theorem dX11_more_25 : decode cX11_more 25 = .ok (.aload_n 0, 1) := by decide +kernel
theorem dX11_more_26 : decode cX11_more 26 = .ok (.iload_n 1, 1) := by decide +kernel
theorem dX11_more_27 : decode cX11_more 27 = .ok (.invokevirtual 133, 3) := by decide +kernel
theorem dX11_more_30 : decode cX11_more 30 = .ok (.i2l, 1) := by decide +kernel
theorem dX11_more_31 : decode cX11_more 31 = .ok (.aload_n 0, 1) := by decide +kernel
theorem dX11_more_32 : decode cX11_more 32 = .ok (.getfield 178, 3) := by decide +kernel
theorem dX11_more_35 : decode cX11_more 35 = .ok (.lmul, 1) := by decide +kernel
theorem dX11_more_36 : decode cX11_more 36 = .ok (.lstore_n 2, 1) := by decide +kernel
theorem dX11_more_37 : decode cX11_more 37 = .ok (.lload_n 2, 1) := by decide +kernel
theorem dX11_more_38 : decode cX11_more 38 = .ok (.aload_n 0, 1) := by decide +kernel
theorem dX11_more_39 : decode cX11_more 39 = .ok (.getfield 174, 3) := by decide +kernel
theorem dX11_more_42 : decode cX11_more 42 = .ok (.lcmp, 1) := by decide +kernel
theorem dX11_more_43 : decode cX11_more 43 = .ok (.ifCond .le 7, 3) := by decide +kernel
theorem dX11_more_46 : decode cX11_more 46 = .ok (.iconst 1, 1) := by decide +kernel
theorem dX11_more_47 : decode cX11_more 47 = .ok (.goto 17, 3) := by decide +kernel
theorem dX11_more_50 : decode cX11_more 50 = .ok (.lload_n 2, 1) := by decide +kernel
theorem dX11_more_51 : decode cX11_more 51 = .ok (.aload_n 0, 1) := by decide +kernel
theorem dX11_more_52 : decode cX11_more 52 = .ok (.getfield 174, 3) := by decide +kernel
theorem dX11_more_55 : decode cX11_more 55 = .ok (.lcmp, 1) := by decide +kernel
theorem dX11_more_56 : decode cX11_more 56 = .ok (.ifCond .ge 7, 3) := by decide +kernel
theorem dX11_more_59 : decode cX11_more 59 = .ok (.iconst (-1), 1) := by decide +kernel
theorem dX11_more_60 : decode cX11_more 60 = .ok (.goto 4, 3) := by decide +kernel
theorem dX11_more_63 : decode cX11_more 63 = .ok (.iconst 0, 1) := by decide +kernel
theorem dX11_more_64 : decode cX11_more 64 = .ok (.ireturn, 1) := by decide +kernel
theorem dX11_chains_0 : decode cX11_chains 0 = .ok (.iload_n 2, 1) := by decide +kernel
theorem dX11_chains_1 : decode cX11_chains 1 = .ok (.iconst 0, 1) := by decide +kernel
theorem dX11_chains_2 : decode cX11_chains 2 = .ok (.iconst 1, 1) := by decide +kernel
theorem dX11_chains_3 : decode cX11_chains 3 = .ok (.invokestatic 86, 3) := by decide +kernel
theorem dX11_chains_6 : decode cX11_chains 6 = .ok (.ifCond .ne 10, 3) := by decide +kernel
theorem dX11_chains_9 : decode cX11_chains 9 = .ok (.aload_n 0, 1) := by decide +kernel
theorem dX11_chains_10 : decode cX11_chains 10 = .ok (.bipush (-2), 2) := by decide +kernel
theorem dX11_chains_12 : decode cX11_chains 12 = .ok (.invokevirtual 104, 3) := by decide +kernel
theorem dX11_chains_15 : decode cX11_chains 15 = .ok (.ireturn, 1) := by decide +kernel
theorem dX11_chains_16 : decode cX11_chains 16 = .ok (.iload_n 1, 1) := by decide +kernel
theorem dX11_chains_17 : decode cX11_chains 17 = .ok (.ifCond .ge 10, 3) := by decide +kernel
theorem dX11_chains_20 : decode cX11_chains 20 = .ok (.aload_n 0, 1) := by decide +kernel
theorem dX11_chains_21 : decode cX11_chains 21 = .ok (.bipush (-4), 2) := by decide +kernel
theorem dX11_chains_23 : decode cX11_chains 23 = .ok (.invokevirtual 104, 3) := by decide +kernel
theorem dX11_chains_26 : decode cX11_chains 26 = .ok (.ireturn, 1) := by decide +kernel
theorem dX11_chains_27 : decode cX11_chains 27 = .ok (.iload_n 1, 1) := by decide +kernel
theorem dX11_chains_28 : decode cX11_chains 28 = .ok (.sipush 1000, 3) := by decide +kernel
theorem dX11_chains_31 : decode cX11_chains 31 = .ok (.if_icmp .le 10, 3) := by decide +kernel
theorem dX11_chains_34 : decode cX11_chains 34 = .ok (.aload_n 0, 1) := by decide +kernel
theorem dX11_chains_35 : decode cX11_chains 35 = .ok (.bipush (-6), 2) := by decide +kernel
theorem dX11_chains_37 : decode cX11_chains 37 = .ok (.invokevirtual 104, 3) := by decide +kernel
theorem dX11_chains_40 : decode cX11_chains 40 = .ok (.ireturn, 1) := by decide +kernel
theorem dX11_chains_41 : decode cX11_chains 41 = .ok (.iconst 0, 1) := by decide +kernel
theorem dX11_chains_42 : decode cX11_chains 42 = .ok (.istore_n 3, 1) := by decide +kernel
theorem dX11_chains_43 : decode cX11_chains 43 = .ok (.iconst 0, 1) := by decide +kernel
theorem dX11_chains_44 : decode cX11_chains 44 = .ok (.istore 4, 2) := by decide +kernel
theorem dX11_chains_46 : decode cX11_chains 46 = .ok (.iload 4, 2) := by decide +kernel
theorem dX11_chains_48 : decode cX11_chains 48 = .ok (.sipush 256, 3) := by decide +kernel
theorem dX11_chains_51 : decode cX11_chains 51 = .ok (.if_icmp .ge 123, 3) := by decide +kernel
theorem dX11_chains_54 : decode cX11_chains 54 = .ok (.iconst 0, 1) := by decide +kernel
theorem dX11_chains_55 : decode cX11_chains 55 = .ok (.istore 5, 2) := by decide +kernel
theorem dX11_chains_57 : decode cX11_chains 57 = .ok (.iload 5, 2) := by decide +kernel
theorem dX11_chains_59 : decode cX11_chains 59 = .ok (.aload_n 0, 1) := by decide +kernel
theorem dX11_chains_60 : decode cX11_chains 60 = .ok (.getfield 7, 3) := by decide +kernel
theorem dX11_chains_63 : decode cX11_chains 63 = .ok (.if_icmp .ge 105, 3) := by decide +kernel
theorem dX11_chains_66 : decode cX11_chains 66 = .ok (.aload_n 0, 1) := by decide +kernel
theorem dX11_chains_67 : decode cX11_chains 67 = .ok (.getfield 13, 3) := by decide +kernel
theorem dX11_chains_70 : decode cX11_chains 70 = .ok (.iload 4, 2) := by decide +kernel
theorem dX11_chains_72 : decode cX11_chains 72 = .ok (.baload, 1) := by decide +kernel
theorem dX11_chains_73 : decode cX11_chains 73 = .ok (.ifCond .eq 95, 3) := by decide +kernel
theorem dX11_chains_76 : decode cX11_chains 76 = .ok (.bipush 16, 2) := by decide +kernel
theorem dX11_chains_78 : decode cX11_chains 78 = .ok (.iload 4, 2) := by decide +kernel
theorem dX11_chains_80 : decode cX11_chains 80 = .ok (.bipush 16, 2) := by decide +kernel
end
section
theorem dX11_chains_82 : decode cX11_chains 82 = .ok (.irem, 1) := by decide +kernel
theorem dX11_chains_83 : decode cX11_chains 83 = .ok (.imul, 1) := by decide +kernel
theorem dX11_chains_84 : decode cX11_chains 84 = .ok (.iload 5, 2) := by decide +kernel
theorem dX11_chains_86 : decode cX11_chains 86 = .ok (.iadd, 1) := by decide +kernel
theorem dX11_chains_87 : decode cX11_chains 87 = .ok (.istore 6, 2) := by decide +kernel
theorem dX11_chains_89 : decode cX11_chains 89 = .ok (.aload_n 0, 1) := by decide +kernel
theorem dX11_chains_90 : decode cX11_chains 90 = .ok (.getfield 21, 3) := by decide +kernel
theorem dX11_chains_93 : decode cX11_chains 93 = .ok (.iload 6, 2) := by decide +kernel
theorem dX11_chains_95 : decode cX11_chains 95 = .ok (.iaload, 1) := by decide +kernel
theorem dX11_chains_96 : decode cX11_chains 96 = .ok (.aload_n 0, 1) := by decide +kernel
theorem dX11_chains_97 : decode cX11_chains 97 = .ok (.getfield 21, 3) := by decide +kernel
theorem dX11_chains_100 : decode cX11_chains 100 = .ok (.iload 4, 2) := by decide +kernel
theorem dX11_chains_102 : decode cX11_chains 102 = .ok (.iaload, 1) := by decide +kernel
theorem dX11_chains_103 : decode cX11_chains 103 = .ok (.isub, 1) := by decide +kernel
theorem dX11_chains_104 : decode cX11_chains 104 = .ok (.istore 7, 2) := by decide +kernel
theorem dX11_chains_106 : decode cX11_chains 106 = .ok (.iload_n 3, 1) := by decide +kernel
theorem dX11_chains_107 : decode cX11_chains 107 = .ok (.aload_n 0, 1) := by decide +kernel
theorem dX11_chains_108 : decode cX11_chains 108 = .ok (.getfield 13, 3) := by decide +kernel
theorem dX11_chains_111 : decode cX11_chains 111 = .ok (.iload 6, 2) := by decide +kernel
theorem dX11_chains_113 : decode cX11_chains 113 = .ok (.baload, 1) := by decide +kernel
theorem dX11_chains_114 : decode cX11_chains 114 = .ok (.ifCond .eq 45, 3) := by decide +kernel
theorem dX11_chains_117 : decode cX11_chains 117 = .ok (.iload 7, 2) := by decide +kernel
theorem dX11_chains_119 : decode cX11_chains 119 = .ok (.ifCond .le 40, 3) := by decide +kernel
theorem dX11_chains_122 : decode cX11_chains 122 = .ok (.iload 7, 2) := by decide +kernel
theorem dX11_chains_124 : decode cX11_chains 124 = .ok (.iload_n 1, 1) := by decide +kernel
theorem dX11_chains_125 : decode cX11_chains 125 = .ok (.if_icmp .gt 34, 3) := by decide +kernel
theorem dX11_chains_128 : decode cX11_chains 128 = .ok (.iload 5, 2) := by decide +kernel
theorem dX11_chains_130 : decode cX11_chains 130 = .ok (.iload 4, 2) := by decide +kernel
theorem dX11_chains_132 : decode cX11_chains 132 = .ok (.bipush 16, 2) := by decide +kernel
theorem dX11_chains_134 : decode cX11_chains 134 = .ok (.idiv, 1) := by decide +kernel
theorem dX11_chains_135 : decode cX11_chains 135 = .ok (.if_icmp .ne 7, 3) := by decide +kernel
theorem dX11_chains_138 : decode cX11_chains 138 = .ok (.iconst 1, 1) := by decide +kernel
theorem dX11_chains_139 : decode cX11_chains 139 = .ok (.goto 4, 3) := by decide +kernel
theorem dX11_chains_142 : decode cX11_chains 142 = .ok (.iconst 0, 1) := by decide +kernel
theorem dX11_chains_143 : decode cX11_chains 143 = .ok (.iload_n 2, 1) := by decide +kernel
theorem dX11_chains_144 : decode cX11_chains 144 = .ok (.ifCond .ne 7, 3) := by decide +kernel
theorem dX11_chains_147 : decode cX11_chains 147 = .ok (.iconst 1, 1) := by decide +kernel
theorem dX11_chains_148 : decode cX11_chains 148 = .ok (.goto 4, 3) := by decide +kernel
theorem dX11_chains_151 : decode cX11_chains 151 = .ok (.iconst 0, 1) := by decide +kernel
theorem dX11_chains_152 : decode cX11_chains 152 = .ok (.if_icmp .ne 7, 3) := by decide +kernel
theorem dX11_chains_155 : decode cX11_chains 155 = .ok (.iconst 1, 1) := by decide +kernel
theorem dX11_chains_156 : decode cX11_chains 156 = .ok (.goto 4, 3) := by decide +kernel
theorem dX11_chains_159 : decode cX11_chains 159 = .ok (.iconst 0, 1) := by decide +kernel
theorem dX11_chains_160 : decode cX11_chains 160 = .ok (.iadd, 1) := by decide +kernel
theorem dX11_chains_161 : decode cX11_chains 161 = .ok (.istore_n 3, 1) := by decide +kernel
theorem dX11_chains_162 : decode cX11_chains 162 = .ok (.iinc 5 1, 3) := by decide +kernel
theorem dX11_chains_165 : decode cX11_chains 165 = .ok (.goto (-108), 3) := by decide +kernel
theorem dX11_chains_168 : decode cX11_chains 168 = .ok (.iinc 4 1, 3) := by decide +kernel
theorem dX11_chains_171 : decode cX11_chains 171 = .ok (.goto (-125), 3) := by decide +kernel
theorem dX11_chains_174 : decode cX11_chains 174 = .ok (.iload_n 3, 1) := by decide +kernel
theorem dX11_chains_175 : decode cX11_chains 175 = .ok (.ireturn, 1) := by decide +kernel
theorem dX11_burst_0 : decode cX11_burst 0 = .ok (.aload_n 0, 1) := by decide +kernel
theorem dX11_burst_1 : decode cX11_burst 1 = .ok (.iload_n 1, 1) := by decide +kernel
theorem dX11_burst_2 : decode cX11_burst 2 = .ok (.invokevirtual 108, 3) := by decide +kernel
theorem dX11_burst_5 : decode cX11_burst 5 = .ok (.ifCond .ne 9, 3) := by decide +kernel
theorem dX11_burst_8 : decode cX11_burst 8 = .ok (.aload_n 0, 1) := by decide +kernel
theorem dX11_burst_9 : decode cX11_burst 9 = .ok (.iconst (-1), 1) := by decide +kernel
theorem dX11_burst_10 : decode cX11_burst 10 = .ok (.invokevirtual 104, 3) := by decide +kernel
theorem dX11_burst_13 : decode cX11_burst 13 = .ok (.ireturn, 1) := by decide +kernel
theorem dX11_burst_14 : decode cX11_burst 14 = .ok (.iload_n 2, 1) := by decide +kernel
theorem dX11_burst_15 : decode cX11_burst 15 = .ok (.ifCond .ge 10, 3) := by decide +kernel
theorem dX11_burst_18 : decode cX11_burst 18 = .ok (.aload_n 0, 1) := by decide +kernel
theorem dX11_burst_19 : decode cX11_burst 19 = .ok (.bipush (-4), 2) := by decide +kernel
theorem dX11_burst_21 : decode cX11_burst 21 = .ok (.invokevirtual 104, 3) := by decide +kernel
theorem dX11_burst_24 : decode cX11_burst 24 = .ok (.ireturn, 1) := by decide +kernel
theorem dX11_burst_25 : decode cX11_burst 25 = .ok (.iload_n 2, 1) := by decide +kernel
theorem dX11_burst_26 : decode cX11_burst 26 = .ok (.sipush 1000, 3) := by decide +kernel
theorem dX11_burst_29 : decode cX11_burst 29 = .ok (.if_icmp .le 10, 3) := by decide +kernel
theorem dX11_burst_32 : decode cX11_burst 32 = .ok (.aload_n 0, 1) := by decide +kernel
theorem dX11_burst_33 : decode cX11_burst 33 = .ok (.bipush (-6), 2) := by decide +kernel
theorem dX11_burst_35 : decode cX11_burst 35 = .ok (.invokevirtual 104, 3) := by decide +kernel
theorem dX11_burst_38 : decode cX11_burst 38 = .ok (.ireturn, 1) := by decide +kernel
theorem dX11_burst_39 : decode cX11_burst 39 = .ok (.iconst 0, 1) := by decide +kernel
theorem dX11_burst_40 : decode cX11_burst 40 = .ok (.istore_n 3, 1) := by decide +kernel
theorem dX11_burst_41 : decode cX11_burst 41 = .ok (.iconst 0, 1) := by decide +kernel
theorem dX11_burst_42 : decode cX11_burst 42 = .ok (.istore 4, 2) := by decide +kernel
theorem dX11_burst_44 : decode cX11_burst 44 = .ok (.iload 4, 2) := by decide +kernel
theorem dX11_burst_46 : decode cX11_burst 46 = .ok (.aload_n 0, 1) := by decide +kernel
theorem dX11_burst_47 : decode cX11_burst 47 = .ok (.getfield 7, 3) := by decide +kernel
theorem dX11_burst_50 : decode cX11_burst 50 = .ok (.if_icmp .ge 111, 3) := by decide +kernel
theorem dX11_burst_53 : decode cX11_burst 53 = .ok (.iconst 0, 1) := by decide +kernel
theorem dX11_burst_54 : decode cX11_burst 54 = .ok (.istore 5, 2) := by decide +kernel
theorem dX11_burst_56 : decode cX11_burst 56 = .ok (.iconst 0, 1) := by decide +kernel
theorem dX11_burst_57 : decode cX11_burst 57 = .ok (.istore 6, 2) := by decide +kernel
theorem dX11_burst_59 : decode cX11_burst 59 = .ok (.iload 6, 2) := by decide +kernel
theorem dX11_burst_61 : decode cX11_burst 61 = .ok (.aload_n 0, 1) := by decide +kernel
theorem dX11_burst_62 : decode cX11_burst 62 = .ok (.getfield 7, 3) := by decide +kernel
theorem dX11_burst_65 : decode cX11_burst 65 = .ok (.if_icmp .ge 77, 3) := by decide +kernel
theorem dX11_burst_68 : decode cX11_burst 68 = .ok (.aload_n 0, 1) := by decide +kernel
theorem dX11_burst_69 : decode cX11_burst 69 = .ok (.iload_n 1, 1) := by decide +kernel
theorem dX11_burst_70 : decode cX11_burst 70 = .ok (.iload 4, 2) := by decide +kernel
theorem dX11_burst_72 : decode cX11_burst 72 = .ok (.invokevirtual 96, 3) := by decide +kernel
theorem dX11_burst_75 : decode cX11_burst 75 = .ok (.ifCond .eq 67, 3) := by decide +kernel
theorem dX11_burst_78 : decode cX11_burst 78 = .ok (.aload_n 0, 1) := by decide +kernel
theorem dX11_burst_79 : decode cX11_burst 79 = .ok (.getfield 21, 3) := by decide +kernel
theorem dX11_burst_82 : decode cX11_burst 82 = .ok (.bipush 16, 2) := by decide +kernel
theorem dX11_burst_84 : decode cX11_burst 84 = .ok (.iload_n 1, 1) := by decide +kernel
theorem dX11_burst_85 : decode cX11_burst 85 = .ok (.imul, 1) := by decide +kernel
theorem dX11_burst_86 : decode cX11_burst 86 = .ok (.iload 6, 2) := by decide +kernel
theorem dX11_burst_88 : decode cX11_burst 88 = .ok (.iadd, 1) := by decide +kernel
theorem dX11_burst_89 : decode cX11_burst 89 = .ok (.iaload, 1) := by decide +kernel
theorem dX11_burst_90 : decode cX11_burst 90 = .ok (.aload_n 0, 1) := by decide +kernel
theorem dX11_burst_91 : decode cX11_burst 91 = .ok (.getfield 21, 3) := by decide +kernel
theorem dX11_burst_94 : decode cX11_burst 94 = .ok (.bipush 16, 2) := by decide +kernel
theorem dX11_burst_96 : decode cX11_burst 96 = .ok (.iload_n 1, 1) := by decide +kernel
theorem dX11_burst_97 : decode cX11_burst 97 = .ok (.imul, 1) := by decide +kernel
theorem dX11_burst_98 : decode cX11_burst 98 = .ok (.iload 4, 2) := by decide +kernel
theorem dX11_burst_100 : decode cX11_burst 100 = .ok (.iadd, 1) := by decide +kernel
theorem dX11_burst_101 : decode cX11_burst 101 = .ok (.iaload, 1) := by decide +kernel
theorem dX11_burst_102 : decode cX11_burst 102 = .ok (.isub, 1) := by decide +kernel
theorem dX11_burst_103 : decode cX11_burst 103 = .ok (.istore 7, 2) := by decide +kernel
theorem dX11_burst_105 : decode cX11_burst 105 = .ok (.iload 5, 2) := by decide +kernel
theorem dX11_burst_107 : decode cX11_burst 107 = .ok (.aload_n 0, 1) := by decide +kernel
theorem dX11_burst_108 : decode cX11_burst 108 = .ok (.iload_n 1, 1) := by decide +kernel
theorem dX11_burst_109 : decode cX11_burst 109 = .ok (.iload 6, 2) := by decide +kernel
theorem dX11_burst_111 : decode cX11_burst 111 = .ok (.invokevirtual 96, 3) := by decide +kernel
theorem dX11_burst_114 : decode cX11_burst 114 = .ok (.ifCond .eq 18, 3) := by decide +kernel
theorem dX11_burst_117 : decode cX11_burst 117 = .ok (.iload 7, 2) := by decide +kernel
theorem dX11_burst_119 : decode cX11_burst 119 = .ok (.ifCond .lt 13, 3) := by decide +kernel
theorem dX11_burst_122 : decode cX11_burst 122 = .ok (.iload 7, 2) := by decide +kernel
theorem dX11_burst_124 : decode cX11_burst 124 = .ok (.iload_n 2, 1) := by decide +kernel
theorem dX11_burst_125 : decode cX11_burst 125 = .ok (.if_icmp .gt 7, 3) := by decide +kernel
theorem dX11_burst_128 : decode cX11_burst 128 = .ok (.iconst 1, 1) := by decide +kernel
theorem dX11_burst_129 : decode cX11_burst 129 = .ok (.goto 4, 3) := by decide +kernel
theorem dX11_burst_132 : decode cX11_burst 132 = .ok (.iconst 0, 1) := by decide +kernel
theorem dX11_burst_133 : decode cX11_burst 133 = .ok (.iadd, 1) := by decide +kernel
theorem dX11_burst_134 : decode cX11_burst 134 = .ok (.istore 5, 2) := by decide +kernel
theorem dX11_burst_136 : decode cX11_burst 136 = .ok (.iinc 6 1, 3) := by decide +kernel
theorem dX11_burst_139 : decode cX11_burst 139 = .ok (.goto (-80), 3) := by decide +kernel
theorem dX11_burst_142 : decode cX11_burst 142 = .ok (.iload 5, 2) := by decide +kernel
theorem dX11_burst_144 : decode cX11_burst 144 = .ok (.iload_n 3, 1) := by decide +kernel
theorem dX11_burst_145 : decode cX11_burst 145 = .ok (.if_icmp .le 8, 3) := by decide +kernel
theorem dX11_burst_148 : decode cX11_burst 148 = .ok (.iload 5, 2) := by decide +kernel
theorem dX11_burst_150 : decode cX11_burst 150 = .ok (.goto 4, 3) := by decide +kernel
theorem dX11_burst_153 : decode cX11_burst 153 = .ok (.iload_n 3, 1) := by decide +kernel
theorem dX11_burst_154 : decode cX11_burst 154 = .ok (.istore_n 3, 1) := by decide +kernel
theorem dX11_burst_155 : decode cX11_burst 155 = .ok (.iinc 4 1, 3) := by decide +kernel
theorem dX11_burst_158 : decode cX11_burst 158 = .ok (.goto (-114), 3) := by decide +kernel
theorem dX11_burst_161 : decode cX11_burst 161 = .ok (.iload_n 3, 1) := by decide +kernel
theorem dX11_burst_162 : decode cX11_burst 162 = .ok (.ireturn, 1) := by decide +kernel
theorem dX11_isAgainst_0 : decode cX11_isAgainst 0 = .ok (.aload_n 0, 1) := by decide +kernel
theorem dX11_isAgainst_1 : decode cX11_isAgainst 1 = .ok (.iload_n 1, 1) := by decide +kernel
theorem dX11_isAgainst_2 : decode cX11_isAgainst 2 = .ok (.iload_n 2, 1) := by decide +kernel
theorem dX11_isAgainst_3 : decode cX11_isAgainst 3 = .ok (.invokevirtual 96, 3) := by decide +kernel
theorem dX11_isAgainst_6 : decode cX11_isAgainst 6 = .ok (.ifCond .eq 18, 3) := by decide +kernel
theorem dX11_isAgainst_9 : decode cX11_isAgainst 9 = .ok (.aload_n 0, 1) := by decide +kernel
theorem dX11_isAgainst_10 : decode cX11_isAgainst 10 = .ok (.getfield 17, 3) := by decide +kernel
theorem dX11_isAgainst_13 : decode cX11_isAgainst 13 = .ok (.bipush 16, 2) := by decide +kernel
theorem dX11_isAgainst_15 : decode cX11_isAgainst 15 = .ok (.iload_n 1, 1) := by decide +kernel
theorem dX11_isAgainst_16 : decode cX11_isAgainst 16 = .ok (.imul, 1) := by decide +kernel
theorem dX11_isAgainst_17 : decode cX11_isAgainst 17 = .ok (.iload_n 2, 1) := by decide +kernel
theorem dX11_isAgainst_18 : decode cX11_isAgainst 18 = .ok (.iadd, 1) := by decide +kernel
theorem dX11_isAgainst_19 : decode cX11_isAgainst 19 = .ok (.iaload, 1) := by decide +kernel
theorem dX11_isAgainst_20 : decode cX11_isAgainst 20 = .ok (.iconst 1, 1) := by decide +kernel
theorem dX11_isAgainst_21 : decode cX11_isAgainst 21 = .ok (.if_icmp .eq 27, 3) := by decide +kernel
theorem dX11_isAgainst_24 : decode cX11_isAgainst 24 = .ok (.aload_n 0, 1) := by decide +kernel
theorem dX11_isAgainst_25 : decode cX11_isAgainst 25 = .ok (.iload_n 2, 1) := by decide +kernel
theorem dX11_isAgainst_26 : decode cX11_isAgainst 26 = .ok (.iload_n 1, 1) := by decide +kernel
theorem dX11_isAgainst_27 : decode cX11_isAgainst 27 = .ok (.invokevirtual 96, 3) := by decide +kernel
theorem dX11_isAgainst_30 : decode cX11_isAgainst 30 = .ok (.ifCond .eq 22, 3) := by decide +kernel
theorem dX11_isAgainst_33 : decode cX11_isAgainst 33 = .ok (.aload_n 0, 1) := by decide +kernel
theorem dX11_isAgainst_34 : decode cX11_isAgainst 34 = .ok (.getfield 17, 3) := by decide +kernel
theorem dX11_isAgainst_37 : decode cX11_isAgainst 37 = .ok (.bipush 16, 2) := by decide +kernel
theorem dX11_isAgainst_39 : decode cX11_isAgainst 39 = .ok (.iload_n 2, 1) := by decide +kernel
theorem dX11_isAgainst_40 : decode cX11_isAgainst 40 = .ok (.imul, 1) := by decide +kernel
theorem dX11_isAgainst_41 : decode cX11_isAgainst 41 = .ok (.iload_n 1, 1) := by decide +kernel
theorem dX11_isAgainst_42 : decode cX11_isAgainst 42 = .ok (.iadd, 1) := by decide +kernel
theorem dX11_isAgainst_43 : decode cX11_isAgainst 43 = .ok (.iaload, 1) := by decide +kernel
theorem dX11_isAgainst_44 : decode cX11_isAgainst 44 = .ok (.iconst 1, 1) := by decide +kernel
theorem dX11_isAgainst_45 : decode cX11_isAgainst 45 = .ok (.if_icmp .ne 7, 3) := by decide +kernel
theorem dX11_isAgainst_48 : decode cX11_isAgainst 48 = .ok (.iconst 1, 1) := by decide +kernel
theorem dX11_isAgainst_49 : decode cX11_isAgainst 49 = .ok (.goto 4, 3) := by decide +kernel
theorem dX11_isAgainst_52 : decode cX11_isAgainst 52 = .ok (.iconst 0, 1) := by decide +kernel
theorem dX11_isAgainst_53 : decode cX11_isAgainst 53 = .ok (.ireturn, 1) := by decide +kernel
theorem dX11_signs_0 : decode cX11_signs 0 = .ok (.iload_n 1, 1) := by decide +kernel
theorem dX11_signs_1 : decode cX11_signs 1 = .ok (.iconst 0, 1) := by decide +kernel
theorem dX11_signs_2 : decode cX11_signs 2 = .ok (.iconst 1, 1) := by decide +kernel
theorem dX11_signs_3 : decode cX11_signs 3 = .ok (.invokestatic 86, 3) := by decide +kernel
theorem dX11_signs_6 : decode cX11_signs 6 = .ok (.ifCond .ne 10, 3) := by decide +kernel
theorem dX11_signs_9 : decode cX11_signs 9 = .ok (.aload_n 0, 1) := by decide +kernel
theorem dX11_signs_10 : decode cX11_signs 10 = .ok (.bipush (-2), 2) := by decide +kernel
theorem dX11_signs_12 : decode cX11_signs 12 = .ok (.invokevirtual 104, 3) := by decide +kernel
theorem dX11_signs_15 : decode cX11_signs 15 = .ok (.ireturn, 1) := by decide +kernel
theorem dX11_signs_16 : decode cX11_signs 16 = .ok (.iconst 0, 1) := by decide +kernel
theorem dX11_signs_17 : decode cX11_signs 17 = .ok (.istore_n 2, 1) := by decide +kernel
theorem dX11_signs_18 : decode cX11_signs 18 = .ok (.iconst 0, 1) := by decide +kernel
theorem dX11_signs_19 : decode cX11_signs 19 = .ok (.istore_n 3, 1) := by decide +kernel
theorem dX11_signs_20 : decode cX11_signs 20 = .ok (.iload_n 3, 1) := by decide +kernel
theorem dX11_signs_21 : decode cX11_signs 21 = .ok (.aload_n 0, 1) := by decide +kernel
theorem dX11_signs_22 : decode cX11_signs 22 = .ok (.getfield 7, 3) := by decide +kernel
theorem dX11_signs_25 : decode cX11_signs 25 = .ok (.if_icmp .ge 147, 3) := by decide +kernel
theorem dX11_signs_28 : decode cX11_signs 28 = .ok (.iload_n 3, 1) := by decide +kernel
theorem dX11_signs_29 : decode cX11_signs 29 = .ok (.iconst 1, 1) := by decide +kernel
theorem dX11_signs_30 : decode cX11_signs 30 = .ok (.iadd, 1) := by decide +kernel
theorem dX11_signs_31 : decode cX11_signs 31 = .ok (.istore 4, 2) := by decide +kernel
theorem dX11_signs_33 : decode cX11_signs 33 = .ok (.iload 4, 2) := by decide +kernel
theorem dX11_signs_35 : decode cX11_signs 35 = .ok (.aload_n 0, 1) := by decide +kernel
theorem dX11_signs_36 : decode cX11_signs 36 = .ok (.getfield 7, 3) := by decide +kernel
theorem dX11_signs_39 : decode cX11_signs 39 = .ok (.if_icmp .ge 127, 3) := by decide +kernel
theorem dX11_signs_42 : decode cX11_signs 42 = .ok (.iload 4, 2) := by decide +kernel
theorem dX11_signs_44 : decode cX11_signs 44 = .ok (.iconst 1, 1) := by decide +kernel
theorem dX11_signs_45 : decode cX11_signs 45 = .ok (.iadd, 1) := by decide +kernel
theorem dX11_signs_46 : decode cX11_signs 46 = .ok (.istore 5, 2) := by decide +kernel
theorem dX11_signs_48 : decode cX11_signs 48 = .ok (.iload 5, 2) := by decide +kernel
theorem dX11_signs_50 : decode cX11_signs 50 = .ok (.aload_n 0, 1) := by decide +kernel
theorem dX11_signs_51 : decode cX11_signs 51 = .ok (.getfield 7, 3) := by decide +kernel
theorem dX11_signs_54 : decode cX11_signs 54 = .ok (.if_icmp .ge 106, 3) := by decide +kernel
theorem dX11_signs_57 : decode cX11_signs 57 = .ok (.aload_n 0, 1) := by decide +kernel
theorem dX11_signs_58 : decode cX11_signs 58 = .ok (.iload_n 3, 1) := by decide +kernel
theorem dX11_signs_59 : decode cX11_signs 59 = .ok (.iload 4, 2) := by decide +kernel
theorem dX11_signs_61 : decode cX11_signs 61 = .ok (.invokevirtual 143, 3) := by decide +kernel
theorem dX11_signs_64 : decode cX11_signs 64 = .ok (.ifCond .eq 90, 3) := by decide +kernel
theorem dX11_signs_67 : decode cX11_signs 67 = .ok (.aload_n 0, 1) := by decide +kernel
theorem dX11_signs_68 : decode cX11_signs 68 = .ok (.iload_n 3, 1) := by decide +kernel
theorem dX11_signs_69 : decode cX11_signs 69 = .ok (.iload 5, 2) := by decide +kernel
theorem dX11_signs_71 : decode cX11_signs 71 = .ok (.invokevirtual 143, 3) := by decide +kernel
theorem dX11_signs_74 : decode cX11_signs 74 = .ok (.ifCond .eq 80, 3) := by decide +kernel
theorem dX11_signs_77 : decode cX11_signs 77 = .ok (.aload_n 0, 1) := by decide +kernel
theorem dX11_signs_78 : decode cX11_signs 78 = .ok (.iload 4, 2) := by decide +kernel
theorem dX11_signs_80 : decode cX11_signs 80 = .ok (.iload 5, 2) := by decide +kernel
theorem dX11_signs_82 : decode cX11_signs 82 = .ok (.invokevirtual 143, 3) := by decide +kernel
theorem dX11_signs_85 : decode cX11_signs 85 = .ok (.ifCond .eq 69, 3) := by decide +kernel
theorem dX11_signs_88 : decode cX11_signs 88 = .ok (.aload_n 0, 1) := by decide +kernel
theorem dX11_signs_89 : decode cX11_signs 89 = .ok (.iload_n 3, 1) := by decide +kernel
theorem dX11_signs_90 : decode cX11_signs 90 = .ok (.iload 4, 2) := by decide +kernel
theorem dX11_signs_92 : decode cX11_signs 92 = .ok (.invokevirtual 190, 3) := by decide +kernel
theorem dX11_signs_95 : decode cX11_signs 95 = .ok (.ifCond .eq 7, 3) := by decide +kernel
theorem dX11_signs_98 : decode cX11_signs 98 = .ok (.iconst 1, 1) := by decide +kernel
theorem dX11_signs_99 : decode cX11_signs 99 = .ok (.goto 4, 3) := by decide +kernel
theorem dX11_signs_102 : decode cX11_signs 102 = .ok (.iconst 0, 1) := by decide +kernel
theorem dX11_signs_103 : decode cX11_signs 103 = .ok (.aload_n 0, 1) := by decide +kernel
theorem dX11_signs_104 : decode cX11_signs 104 = .ok (.iload_n 3, 1) := by decide +kernel
theorem dX11_signs_105 : decode cX11_signs 105 = .ok (.iload 5, 2) := by decide +kernel
theorem dX11_signs_107 : decode cX11_signs 107 = .ok (.invokevirtual 190, 3) := by decide +kernel
theorem dX11_signs_110 : decode cX11_signs 110 = .ok (.ifCond .eq 7, 3) := by decide +kernel
theorem dX11_signs_113 : decode cX11_signs 113 = .ok (.iconst 1, 1) := by decide +kernel
theorem dX11_signs_114 : decode cX11_signs 114 = .ok (.goto 4, 3) := by decide +kernel
theorem dX11_signs_117 : decode cX11_signs 117 = .ok (.iconst 0, 1) := by decide +kernel
theorem dX11_signs_118 : decode cX11_signs 118 = .ok (.iadd, 1) := by decide +kernel
theorem dX11_signs_119 : decode cX11_signs 119 = .ok (.aload_n 0, 1) := by decide +kernel
theorem dX11_signs_120 : decode cX11_signs 120 = .ok (.iload 4, 2) := by decide +kernel
theorem dX11_signs_122 : decode cX11_signs 122 = .ok (.iload 5, 2) := by decide +kernel
theorem dX11_signs_124 : decode cX11_signs 124 = .ok (.invokevirtual 190, 3) := by decide +kernel
theorem dX11_signs_127 : decode cX11_signs 127 = .ok (.ifCond .eq 7, 3) := by decide +kernel
theorem dX11_signs_130 : decode cX11_signs 130 = .ok (.iconst 1, 1) := by decide +kernel
theorem dX11_signs_131 : decode cX11_signs 131 = .ok (.goto 4, 3) := by decide +kernel
theorem dX11_signs_134 : decode cX11_signs 134 = .ok (.iconst 0, 1) := by decide +kernel
theorem dX11_signs_135 : decode cX11_signs 135 = .ok (.iadd, 1) := by decide +kernel
theorem dX11_signs_136 : decode cX11_signs 136 = .ok (.istore 6, 2) := by decide +kernel
theorem dX11_signs_138 : decode cX11_signs 138 = .ok (.iload_n 2, 1) := by decide +kernel
theorem dX11_signs_139 : decode cX11_signs 139 = .ok (.iload 6, 2) := by decide +kernel
theorem dX11_signs_141 : decode cX11_signs 141 = .ok (.iconst 2, 1) := by decide +kernel
theorem dX11_signs_142 : decode cX11_signs 142 = .ok (.irem, 1) := by decide +kernel
theorem dX11_signs_143 : decode cX11_signs 143 = .ok (.iload_n 1, 1) := by decide +kernel
theorem dX11_signs_144 : decode cX11_signs 144 = .ok (.if_icmp .ne 7, 3) := by decide +kernel
theorem dX11_signs_147 : decode cX11_signs 147 = .ok (.iconst 1, 1) := by decide +kernel
theorem dX11_signs_148 : decode cX11_signs 148 = .ok (.goto 4, 3) := by decide +kernel
theorem dX11_signs_151 : decode cX11_signs 151 = .ok (.iconst 0, 1) := by decide +kernel
theorem dX11_signs_152 : decode cX11_signs 152 = .ok (.iadd, 1) := by decide +kernel
theorem dX11_signs_153 : decode cX11_signs 153 = .ok (.istore_n 2, 1) := by decide +kernel
theorem dX11_signs_154 : decode cX11_signs 154 = .ok (.iinc 5 1, 3) := by decide +kernel
theorem dX11_signs_157 : decode cX11_signs 157 = .ok (.goto (-109), 3) := by decide +kernel
theorem dX11_signs_160 : decode cX11_signs 160 = .ok (.iinc 4 1, 3) := by decide +kernel
theorem dX11_signs_163 : decode cX11_signs 163 = .ok (.goto (-130), 3) := by decide +kernel
theorem dX11_signs_166 : decode cX11_signs 166 = .ok (.iinc 3 1, 3) := by decide +kernel
theorem dX11_signs_169 : decode cX11_signs 169 = .ok (.goto (-149), 3) := by decide +kernel
theorem dX11_signs_172 : decode cX11_signs 172 = .ok (.iload_n 2, 1) := by decide +kernel
theorem dX11_signs_173 : decode cX11_signs 173 = .ok (.ireturn, 1) := by decide +kernel
theorem dX11_sides_0 : decode cX11_sides 0 = .ok (.iload_n 1, 1) := by decide +kernel
theorem dX11_sides_1 : decode cX11_sides 1 = .ok (.iconst 0, 1) := by decide +kernel
theorem dX11_sides_2 : decode cX11_sides 2 = .ok (.iconst 1, 1) := by decide +kernel
theorem dX11_sides_3 : decode cX11_sides 3 = .ok (.invokestatic 86, 3) := by decide +kernel
theorem dX11_sides_6 : decode cX11_sides 6 = .ok (.ifCond .ne 10, 3) := by decide +kernel
theorem dX11_sides_9 : decode cX11_sides 9 = .ok (.aload_n 0, 1) := by decide +kernel
theorem dX11_sides_10 : decode cX11_sides 10 = .ok (.bipush (-2), 2) := by decide +kernel
theorem dX11_sides_12 : decode cX11_sides 12 = .ok (.invokevirtual 104, 3) := by decide +kernel
theorem dX11_sides_15 : decode cX11_sides 15 = .ok (.ireturn, 1) := by decide +kernel
theorem dX11_sides_16 : decode cX11_sides 16 = .ok (.iconst 0, 1) := by decide +kernel
theorem dX11_sides_17 : decode cX11_sides 17 = .ok (.istore_n 2, 1) := by decide +kernel
theorem dX11_sides_18 : decode cX11_sides 18 = .ok (.iconst 0, 1) := by decide +kernel
theorem dX11_sides_19 : decode cX11_sides 19 = .ok (.istore_n 3, 1) := by decide +kernel
theorem dX11_sides_20 : decode cX11_sides 20 = .ok (.iload_n 3, 1) := by decide +kernel
theorem dX11_sides_21 : decode cX11_sides 21 = .ok (.aload_n 0, 1) := by decide +kernel
theorem dX11_sides_22 : decode cX11_sides 22 = .ok (.getfield 7, 3) := by decide +kernel
theorem dX11_sides_25 : decode cX11_sides 25 = .ok (.if_icmp .ge 78, 3) := by decide +kernel
theorem dX11_sides_28 : decode cX11_sides 28 = .ok (.iload_n 3, 1) := by decide +kernel
theorem dX11_sides_29 : decode cX11_sides 29 = .ok (.iconst 1, 1) := by decide +kernel
theorem dX11_sides_30 : decode cX11_sides 30 = .ok (.iadd, 1) := by decide +kernel
theorem dX11_sides_31 : decode cX11_sides 31 = .ok (.istore 4, 2) := by decide +kernel
theorem dX11_sides_33 : decode cX11_sides 33 = .ok (.iload 4, 2) := by decide +kernel
theorem dX11_sides_35 : decode cX11_sides 35 = .ok (.aload_n 0, 1) := by decide +kernel
theorem dX11_sides_36 : decode cX11_sides 36 = .ok (.getfield 7, 3) := by decide +kernel
theorem dX11_sides_39 : decode cX11_sides 39 = .ok (.if_icmp .ge 58, 3) := by decide +kernel
theorem dX11_sides_42 : decode cX11_sides 42 = .ok (.aload_n 0, 1) := by decide +kernel
theorem dX11_sides_43 : decode cX11_sides 43 = .ok (.iload_n 3, 1) := by decide +kernel
theorem dX11_sides_44 : decode cX11_sides 44 = .ok (.iload 4, 2) := by decide +kernel
theorem dX11_sides_46 : decode cX11_sides 46 = .ok (.invokevirtual 143, 3) := by decide +kernel
theorem dX11_sides_49 : decode cX11_sides 49 = .ok (.ifCond .eq 42, 3) := by decide +kernel
theorem dX11_sides_52 : decode cX11_sides 52 = .ok (.aload_n 0, 1) := by decide +kernel
theorem dX11_sides_53 : decode cX11_sides 53 = .ok (.getfield 60, 3) := by decide +kernel
theorem dX11_sides_56 : decode cX11_sides 56 = .ok (.iload_n 2, 1) := by decide +kernel
theorem dX11_sides_57 : decode cX11_sides 57 = .ok (.iload_n 3, 1) := by decide +kernel
theorem dX11_sides_58 : decode cX11_sides 58 = .ok (.iastore, 1) := by decide +kernel
theorem dX11_sides_59 : decode cX11_sides 59 = .ok (.aload_n 0, 1) := by decide +kernel
theorem dX11_sides_60 : decode cX11_sides 60 = .ok (.getfield 63, 3) := by decide +kernel
theorem dX11_sides_63 : decode cX11_sides 63 = .ok (.iload_n 2, 1) := by decide +kernel
theorem dX11_sides_64 : decode cX11_sides 64 = .ok (.iload 4, 2) := by decide +kernel
theorem dX11_sides_66 : decode cX11_sides 66 = .ok (.iastore, 1) := by decide +kernel
theorem dX11_sides_67 : decode cX11_sides 67 = .ok (.aload_n 0, 1) := by decide +kernel
theorem dX11_sides_68 : decode cX11_sides 68 = .ok (.getfield 66, 3) := by decide +kernel
theorem dX11_sides_71 : decode cX11_sides 71 = .ok (.iload_n 2, 1) := by decide +kernel
theorem dX11_sides_72 : decode cX11_sides 72 = .ok (.aload_n 0, 1) := by decide +kernel
theorem dX11_sides_73 : decode cX11_sides 73 = .ok (.iload_n 3, 1) := by decide +kernel
theorem dX11_sides_74 : decode cX11_sides 74 = .ok (.iload 4, 2) := by decide +kernel
theorem dX11_sides_76 : decode cX11_sides 76 = .ok (.invokevirtual 190, 3) := by decide +kernel
theorem dX11_sides_79 : decode cX11_sides 79 = .ok (.ifCond .eq 7, 3) := by decide +kernel
theorem dX11_sides_82 : decode cX11_sides 82 = .ok (.iconst 1, 1) := by decide +kernel
theorem dX11_sides_83 : decode cX11_sides 83 = .ok (.goto 4, 3) := by decide +kernel
theorem dX11_sides_86 : decode cX11_sides 86 = .ok (.iconst 0, 1) := by decide +kernel
theorem dX11_sides_87 : decode cX11_sides 87 = .ok (.iastore, 1) := by decide +kernel
theorem dX11_sides_88 : decode cX11_sides 88 = .ok (.iinc 2 1, 3) := by decide +kernel
theorem dX11_sides_91 : decode cX11_sides 91 = .ok (.iinc 4 1, 3) := by decide +kernel
theorem dX11_sides_94 : decode cX11_sides 94 = .ok (.goto (-61), 3) := by decide +kernel
theorem dX11_sides_97 : decode cX11_sides 97 = .ok (.iinc 3 1, 3) := by decide +kernel
theorem dX11_sides_100 : decode cX11_sides 100 = .ok (.goto (-80), 3) := by decide +kernel
theorem dX11_sides_103 : decode cX11_sides 103 = .ok (.iconst (-1), 1) := by decide +kernel
theorem dX11_sides_104 : decode cX11_sides 104 = .ok (.istore_n 3, 1) := by decide +kernel
theorem dX11_sides_105 : decode cX11_sides 105 = .ok (.iconst 0, 1) := by decide +kernel
theorem dX11_sides_106 : decode cX11_sides 106 = .ok (.istore 4, 2) := by decide +kernel
theorem dX11_sides_108 : decode cX11_sides 108 = .ok (.iconst 0, 1) := by decide +kernel
theorem dX11_sides_109 : decode cX11_sides 109 = .ok (.istore 5, 2) := by decide +kernel
theorem dX11_sides_111 : decode cX11_sides 111 = .ok (.iload 5, 2) := by decide +kernel
theorem dX11_sides_113 : decode cX11_sides 113 = .ok (.iconst 1, 1) := by decide +kernel
theorem dX11_sides_114 : decode cX11_sides 114 = .ok (.aload_n 0, 1) := by decide +kernel
theorem dX11_sides_115 : decode cX11_sides 115 = .ok (.getfield 7, 3) := by decide +kernel
theorem dX11_sides_118 : decode cX11_sides 118 = .ok (.ishl, 1) := by decide +kernel
theorem dX11_sides_119 : decode cX11_sides 119 = .ok (.if_icmp .ge 80, 3) := by decide +kernel
theorem dX11_sides_122 : decode cX11_sides 122 = .ok (.iconst 0, 1) := by decide +kernel
theorem dX11_sides_123 : decode cX11_sides 123 = .ok (.istore 6, 2) := by decide +kernel
theorem dX11_sides_125 : decode cX11_sides 125 = .ok (.iconst 0, 1) := by decide +kernel
theorem dX11_sides_126 : decode cX11_sides 126 = .ok (.istore 7, 2) := by decide +kernel
theorem dX11_sides_128 : decode cX11_sides 128 = .ok (.iload 7, 2) := by decide +kernel
theorem dX11_sides_130 : decode cX11_sides 130 = .ok (.iload_n 2, 1) := by decide +kernel
theorem dX11_sides_131 : decode cX11_sides 131 = .ok (.if_icmp .ge 45, 3) := by decide +kernel
theorem dX11_sides_134 : decode cX11_sides 134 = .ok (.iload 6, 2) := by decide +kernel
theorem dX11_sides_136 : decode cX11_sides 136 = .ok (.iload 5, 2) := by decide +kernel
theorem dX11_sides_138 : decode cX11_sides 138 = .ok (.aload_n 0, 1) := by decide +kernel
theorem dX11_sides_139 : decode cX11_sides 139 = .ok (.getfield 60, 3) := by decide +kernel
theorem dX11_sides_142 : decode cX11_sides 142 = .ok (.iload 7, 2) := by decide +kernel
theorem dX11_sides_144 : decode cX11_sides 144 = .ok (.iaload, 1) := by decide +kernel
theorem dX11_sides_145 : decode cX11_sides 145 = .ok (.ishr, 1) := by decide +kernel
theorem dX11_sides_146 : decode cX11_sides 146 = .ok (.iload 5, 2) := by decide +kernel
theorem dX11_sides_148 : decode cX11_sides 148 = .ok (.aload_n 0, 1) := by decide +kernel
theorem dX11_sides_149 : decode cX11_sides 149 = .ok (.getfield 63, 3) := by decide +kernel
theorem dX11_sides_152 : decode cX11_sides 152 = .ok (.iload 7, 2) := by decide +kernel
theorem dX11_sides_154 : decode cX11_sides 154 = .ok (.iaload, 1) := by decide +kernel
theorem dX11_sides_155 : decode cX11_sides 155 = .ok (.ishr, 1) := by decide +kernel
theorem dX11_sides_156 : decode cX11_sides 156 = .ok (.ixor, 1) := by decide +kernel
theorem dX11_sides_157 : decode cX11_sides 157 = .ok (.aload_n 0, 1) := by decide +kernel
theorem dX11_sides_158 : decode cX11_sides 158 = .ok (.getfield 66, 3) := by decide +kernel
theorem dX11_sides_161 : decode cX11_sides 161 = .ok (.iload 7, 2) := by decide +kernel
theorem dX11_sides_163 : decode cX11_sides 163 = .ok (.iaload, 1) := by decide +kernel
theorem dX11_sides_164 : decode cX11_sides 164 = .ok (.ixor, 1) := by decide +kernel
theorem dX11_sides_165 : decode cX11_sides 165 = .ok (.iconst 1, 1) := by decide +kernel
theorem dX11_sides_166 : decode cX11_sides 166 = .ok (.iand, 1) := by decide +kernel
theorem dX11_sides_167 : decode cX11_sides 167 = .ok (.iadd, 1) := by decide +kernel
theorem dX11_sides_168 : decode cX11_sides 168 = .ok (.istore 6, 2) := by decide +kernel
theorem dX11_sides_170 : decode cX11_sides 170 = .ok (.iinc 7 1, 3) := by decide +kernel
theorem dX11_sides_173 : decode cX11_sides 173 = .ok (.goto (-45), 3) := by decide +kernel
theorem dX11_sides_176 : decode cX11_sides 176 = .ok (.iload_n 3, 1) := by decide +kernel
theorem dX11_sides_177 : decode cX11_sides 177 = .ok (.ifCond .lt 9, 3) := by decide +kernel
theorem dX11_sides_180 : decode cX11_sides 180 = .ok (.iload 6, 2) := by decide +kernel
theorem dX11_sides_182 : decode cX11_sides 182 = .ok (.iload_n 3, 1) := by decide +kernel
theorem dX11_sides_183 : decode cX11_sides 183 = .ok (.if_icmp .ge 10, 3) := by decide +kernel
theorem dX11_sides_186 : decode cX11_sides 186 = .ok (.iload 6, 2) := by decide +kernel
theorem dX11_sides_188 : decode cX11_sides 188 = .ok (.istore_n 3, 1) := by decide +kernel
theorem dX11_sides_189 : decode cX11_sides 189 = .ok (.iload 5, 2) := by decide +kernel
theorem dX11_sides_191 : decode cX11_sides 191 = .ok (.istore 4, 2) := by decide +kernel
theorem dX11_sides_193 : decode cX11_sides 193 = .ok (.iinc 5 2, 3) := by decide +kernel
theorem dX11_sides_196 : decode cX11_sides 196 = .ok (.goto (-85), 3) := by decide +kernel
theorem dX11_sides_199 : decode cX11_sides 199 = .ok (.iload_n 1, 1) := by decide +kernel
theorem dX11_sides_200 : decode cX11_sides 200 = .ok (.ifCond .ne 7, 3) := by decide +kernel
theorem dX11_sides_203 : decode cX11_sides 203 = .ok (.iload_n 3, 1) := by decide +kernel
theorem dX11_sides_204 : decode cX11_sides 204 = .ok (.goto 5, 3) := by decide +kernel
theorem dX11_sides_207 : decode cX11_sides 207 = .ok (.iload 4, 2) := by decide +kernel
theorem dX11_sides_209 : decode cX11_sides 209 = .ok (.ireturn, 1) := by decide +kernel
theorem dX11_addWays_0 : decode cX11_addWays 0 = .ok (.lconst 0, 1) := by decide +kernel
theorem dX11_addWays_1 : decode cX11_addWays 1 = .ok (.lstore_n 3, 1) := by decide +kernel
theorem dX11_addWays_2 : decode cX11_addWays 2 = .ok (.iconst 0, 1) := by decide +kernel
theorem dX11_addWays_3 : decode cX11_addWays 3 = .ok (.istore 5, 2) := by decide +kernel
theorem dX11_addWays_5 : decode cX11_addWays 5 = .ok (.iload 5, 2) := by decide +kernel
theorem dX11_addWays_7 : decode cX11_addWays 7 = .ok (.bipush 9, 2) := by decide +kernel
theorem dX11_addWays_9 : decode cX11_addWays 9 = .ok (.if_icmp .ge 63, 3) := by decide +kernel
theorem dX11_addWays_12 : decode cX11_addWays 12 = .ok (.aload_n 0, 1) := by decide +kernel
theorem dX11_addWays_13 : decode cX11_addWays 13 = .ok (.getfield 73, 3) := by decide +kernel
theorem dX11_addWays_16 : decode cX11_addWays 16 = .ok (.bipush 9, 2) := by decide +kernel
theorem dX11_addWays_18 : decode cX11_addWays 18 = .ok (.iload_n 2, 1) := by decide +kernel
theorem dX11_addWays_19 : decode cX11_addWays 19 = .ok (.imul, 1) := by decide +kernel
theorem dX11_addWays_20 : decode cX11_addWays 20 = .ok (.iload 5, 2) := by decide +kernel
theorem dX11_addWays_22 : decode cX11_addWays 22 = .ok (.iadd, 1) := by decide +kernel
theorem dX11_addWays_23 : decode cX11_addWays 23 = .ok (.laload, 1) := by decide +kernel
theorem dX11_addWays_24 : decode cX11_addWays 24 = .ok (.aload_n 0, 1) := by decide +kernel
theorem dX11_addWays_25 : decode cX11_addWays 25 = .ok (.getfield 69, 3) := by decide +kernel
theorem dX11_addWays_28 : decode cX11_addWays 28 = .ok (.bipush 9, 2) := by decide +kernel
theorem dX11_addWays_30 : decode cX11_addWays 30 = .ok (.iload_n 1, 1) := by decide +kernel
theorem dX11_addWays_31 : decode cX11_addWays 31 = .ok (.imul, 1) := by decide +kernel
theorem dX11_addWays_32 : decode cX11_addWays 32 = .ok (.iload 5, 2) := by decide +kernel
theorem dX11_addWays_34 : decode cX11_addWays 34 = .ok (.iadd, 1) := by decide +kernel
theorem dX11_addWays_35 : decode cX11_addWays 35 = .ok (.laload, 1) := by decide +kernel
theorem dX11_addWays_36 : decode cX11_addWays 36 = .ok (.ladd, 1) := by decide +kernel
theorem dX11_addWays_37 : decode cX11_addWays 37 = .ok (.lload_n 3, 1) := by decide +kernel
theorem dX11_addWays_38 : decode cX11_addWays 38 = .ok (.ladd, 1) := by decide +kernel
theorem dX11_addWays_39 : decode cX11_addWays 39 = .ok (.lstore 6, 2) := by decide +kernel
theorem dX11_addWays_41 : decode cX11_addWays 41 = .ok (.aload_n 0, 1) := by decide +kernel
theorem dX11_addWays_42 : decode cX11_addWays 42 = .ok (.getfield 73, 3) := by decide +kernel
theorem dX11_addWays_45 : decode cX11_addWays 45 = .ok (.bipush 9, 2) := by decide +kernel
theorem dX11_addWays_47 : decode cX11_addWays 47 = .ok (.iload_n 2, 1) := by decide +kernel
theorem dX11_addWays_48 : decode cX11_addWays 48 = .ok (.imul, 1) := by decide +kernel
theorem dX11_addWays_49 : decode cX11_addWays 49 = .ok (.iload 5, 2) := by decide +kernel
theorem dX11_addWays_51 : decode cX11_addWays 51 = .ok (.iadd, 1) := by decide +kernel
theorem dX11_addWays_52 : decode cX11_addWays 52 = .ok (.lload 6, 2) := by decide +kernel
theorem dX11_addWays_54 : decode cX11_addWays 54 = .ok (.ldc2_w 193, 3) := by decide +kernel
theorem dX11_addWays_57 : decode cX11_addWays 57 = .ok (.lrem, 1) := by decide +kernel
theorem dX11_addWays_58 : decode cX11_addWays 58 = .ok (.lastore, 1) := by decide +kernel
theorem dX11_addWays_59 : decode cX11_addWays 59 = .ok (.lload 6, 2) := by decide +kernel
theorem dX11_addWays_61 : decode cX11_addWays 61 = .ok (.ldc2_w 193, 3) := by decide +kernel
theorem dX11_addWays_64 : decode cX11_addWays 64 = .ok (.ldiv, 1) := by decide +kernel
theorem dX11_addWays_65 : decode cX11_addWays 65 = .ok (.lstore_n 3, 1) := by decide +kernel
theorem dX11_addWays_66 : decode cX11_addWays 66 = .ok (.iinc 5 1, 3) := by decide +kernel
theorem dX11_addWays_69 : decode cX11_addWays 69 = .ok (.goto (-64), 3) := by decide +kernel
theorem dX11_addWays_72 : decode cX11_addWays 72 = .ok (.return_, 1) := by decide +kernel
theorem dX11_walks_0 : decode cX11_walks 0 = .ok (.aload_n 0, 1) := by decide +kernel
theorem dX11_walks_1 : decode cX11_walks 1 = .ok (.iload_n 1, 1) := by decide +kernel
theorem dX11_walks_2 : decode cX11_walks 2 = .ok (.invokevirtual 108, 3) := by decide +kernel
theorem dX11_walks_5 : decode cX11_walks 5 = .ok (.ifCond .eq 11, 3) := by decide +kernel
theorem dX11_walks_8 : decode cX11_walks 8 = .ok (.aload_n 0, 1) := by decide +kernel
theorem dX11_walks_9 : decode cX11_walks 9 = .ok (.iload_n 2, 1) := by decide +kernel
theorem dX11_walks_10 : decode cX11_walks 10 = .ok (.invokevirtual 108, 3) := by decide +kernel
theorem dX11_walks_13 : decode cX11_walks 13 = .ok (.ifCond .ne 9, 3) := by decide +kernel
theorem dX11_walks_16 : decode cX11_walks 16 = .ok (.aload_n 0, 1) := by decide +kernel
theorem dX11_walks_17 : decode cX11_walks 17 = .ok (.iconst (-1), 1) := by decide +kernel
theorem dX11_walks_18 : decode cX11_walks 18 = .ok (.invokevirtual 104, 3) := by decide +kernel
theorem dX11_walks_21 : decode cX11_walks 21 = .ok (.ireturn, 1) := by decide +kernel
theorem dX11_walks_22 : decode cX11_walks 22 = .ok (.iload_n 3, 1) := by decide +kernel
theorem dX11_walks_23 : decode cX11_walks 23 = .ok (.ifCond .ge 10, 3) := by decide +kernel
theorem dX11_walks_26 : decode cX11_walks 26 = .ok (.aload_n 0, 1) := by decide +kernel
theorem dX11_walks_27 : decode cX11_walks 27 = .ok (.bipush (-4), 2) := by decide +kernel
theorem dX11_walks_29 : decode cX11_walks 29 = .ok (.invokevirtual 104, 3) := by decide +kernel
theorem dX11_walks_32 : decode cX11_walks 32 = .ok (.ireturn, 1) := by decide +kernel
theorem dX11_walks_33 : decode cX11_walks 33 = .ok (.iload_n 3, 1) := by decide +kernel
theorem dX11_walks_34 : decode cX11_walks 34 = .ok (.bipush 60, 2) := by decide +kernel
theorem dX11_walks_36 : decode cX11_walks 36 = .ok (.if_icmp .le 10, 3) := by decide +kernel
theorem dX11_walks_39 : decode cX11_walks 39 = .ok (.aload_n 0, 1) := by decide +kernel
theorem dX11_walks_40 : decode cX11_walks 40 = .ok (.bipush (-6), 2) := by decide +kernel
theorem dX11_walks_42 : decode cX11_walks 42 = .ok (.invokevirtual 104, 3) := by decide +kernel
theorem dX11_walks_45 : decode cX11_walks 45 = .ok (.ireturn, 1) := by decide +kernel
theorem dX11_walks_46 : decode cX11_walks 46 = .ok (.iconst 0, 1) := by decide +kernel
theorem dX11_walks_47 : decode cX11_walks 47 = .ok (.istore 5, 2) := by decide +kernel
theorem dX11_walks_49 : decode cX11_walks 49 = .ok (.iload 5, 2) := by decide +kernel
theorem dX11_walks_51 : decode cX11_walks 51 = .ok (.sipush 144, 3) := by decide +kernel
theorem dX11_walks_54 : decode cX11_walks 54 = .ok (.if_icmp .ge 30, 3) := by decide +kernel
theorem dX11_walks_57 : decode cX11_walks 57 = .ok (.aload_n 0, 1) := by decide +kernel
theorem dX11_walks_58 : decode cX11_walks 58 = .ok (.getfield 69, 3) := by decide +kernel
theorem dX11_walks_61 : decode cX11_walks 61 = .ok (.iload 5, 2) := by decide +kernel
theorem dX11_walks_63 : decode cX11_walks 63 = .ok (.iload 5, 2) := by decide +kernel
theorem dX11_walks_65 : decode cX11_walks 65 = .ok (.bipush 9, 2) := by decide +kernel
theorem dX11_walks_67 : decode cX11_walks 67 = .ok (.iload_n 1, 1) := by decide +kernel
theorem dX11_walks_68 : decode cX11_walks 68 = .ok (.imul, 1) := by decide +kernel
theorem dX11_walks_69 : decode cX11_walks 69 = .ok (.if_icmp .ne 7, 3) := by decide +kernel
theorem dX11_walks_72 : decode cX11_walks 72 = .ok (.lconst 1, 1) := by decide +kernel
theorem dX11_walks_73 : decode cX11_walks 73 = .ok (.goto 4, 3) := by decide +kernel
theorem dX11_walks_76 : decode cX11_walks 76 = .ok (.lconst 0, 1) := by decide +kernel
theorem dX11_walks_77 : decode cX11_walks 77 = .ok (.lastore, 1) := by decide +kernel
theorem dX11_walks_78 : decode cX11_walks 78 = .ok (.iinc 5 1, 3) := by decide +kernel
theorem dX11_walks_81 : decode cX11_walks 81 = .ok (.goto (-32), 3) := by decide +kernel
theorem dX11_walks_84 : decode cX11_walks 84 = .ok (.iconst 0, 1) := by decide +kernel
theorem dX11_walks_85 : decode cX11_walks 85 = .ok (.istore 5, 2) := by decide +kernel
theorem dX11_walks_87 : decode cX11_walks 87 = .ok (.iload 5, 2) := by decide +kernel
theorem dX11_walks_89 : decode cX11_walks 89 = .ok (.iload_n 3, 1) := by decide +kernel
theorem dX11_walks_90 : decode cX11_walks 90 = .ok (.if_icmp .ge 106, 3) := by decide +kernel
theorem dX11_walks_93 : decode cX11_walks 93 = .ok (.iconst 0, 1) := by decide +kernel
theorem dX11_walks_94 : decode cX11_walks 94 = .ok (.istore 6, 2) := by decide +kernel
theorem dX11_walks_96 : decode cX11_walks 96 = .ok (.iload 6, 2) := by decide +kernel
theorem dX11_walks_98 : decode cX11_walks 98 = .ok (.sipush 144, 3) := by decide +kernel
theorem dX11_walks_101 : decode cX11_walks 101 = .ok (.if_icmp .ge 17, 3) := by decide +kernel
theorem dX11_walks_104 : decode cX11_walks 104 = .ok (.aload_n 0, 1) := by decide +kernel
theorem dX11_walks_105 : decode cX11_walks 105 = .ok (.getfield 73, 3) := by decide +kernel
theorem dX11_walks_108 : decode cX11_walks 108 = .ok (.iload 6, 2) := by decide +kernel
theorem dX11_walks_110 : decode cX11_walks 110 = .ok (.lconst 0, 1) := by decide +kernel
theorem dX11_walks_111 : decode cX11_walks 111 = .ok (.lastore, 1) := by decide +kernel
theorem dX11_walks_112 : decode cX11_walks 112 = .ok (.iinc 6 1, 3) := by decide +kernel
theorem dX11_walks_115 : decode cX11_walks 115 = .ok (.goto (-19), 3) := by decide +kernel
theorem dX11_walks_118 : decode cX11_walks 118 = .ok (.iconst 0, 1) := by decide +kernel
theorem dX11_walks_119 : decode cX11_walks 119 = .ok (.istore 6, 2) := by decide +kernel
theorem dX11_walks_121 : decode cX11_walks 121 = .ok (.iload 6, 2) := by decide +kernel
theorem dX11_walks_123 : decode cX11_walks 123 = .ok (.sipush 256, 3) := by decide +kernel
theorem dX11_walks_126 : decode cX11_walks 126 = .ok (.if_icmp .ge 33, 3) := by decide +kernel
theorem dX11_walks_129 : decode cX11_walks 129 = .ok (.aload_n 0, 1) := by decide +kernel
theorem dX11_walks_130 : decode cX11_walks 130 = .ok (.getfield 13, 3) := by decide +kernel
theorem dX11_walks_133 : decode cX11_walks 133 = .ok (.iload 6, 2) := by decide +kernel
theorem dX11_walks_135 : decode cX11_walks 135 = .ok (.baload, 1) := by decide +kernel
theorem dX11_walks_136 : decode cX11_walks 136 = .ok (.ifCond .eq 17, 3) := by decide +kernel
theorem dX11_walks_139 : decode cX11_walks 139 = .ok (.aload_n 0, 1) := by decide +kernel
theorem dX11_walks_140 : decode cX11_walks 140 = .ok (.iload 6, 2) := by decide +kernel
theorem dX11_walks_142 : decode cX11_walks 142 = .ok (.bipush 16, 2) := by decide +kernel
theorem dX11_walks_144 : decode cX11_walks 144 = .ok (.idiv, 1) := by decide +kernel
theorem dX11_walks_145 : decode cX11_walks 145 = .ok (.iload 6, 2) := by decide +kernel
theorem dX11_walks_147 : decode cX11_walks 147 = .ok (.bipush 16, 2) := by decide +kernel
theorem dX11_walks_149 : decode cX11_walks 149 = .ok (.irem, 1) := by decide +kernel
theorem dX11_walks_150 : decode cX11_walks 150 = .ok (.invokevirtual 195, 3) := by decide +kernel
theorem dX11_walks_153 : decode cX11_walks 153 = .ok (.iinc 6 1, 3) := by decide +kernel
theorem dX11_walks_156 : decode cX11_walks 156 = .ok (.goto (-35), 3) := by decide +kernel
theorem dX11_walks_159 : decode cX11_walks 159 = .ok (.iconst 0, 1) := by decide +kernel
theorem dX11_walks_160 : decode cX11_walks 160 = .ok (.istore 6, 2) := by decide +kernel
theorem dX11_walks_162 : decode cX11_walks 162 = .ok (.iload 6, 2) := by decide +kernel
theorem dX11_walks_164 : decode cX11_walks 164 = .ok (.sipush 144, 3) := by decide +kernel
theorem dX11_walks_167 : decode cX11_walks 167 = .ok (.if_icmp .ge 23, 3) := by decide +kernel
theorem dX11_walks_170 : decode cX11_walks 170 = .ok (.aload_n 0, 1) := by decide +kernel
theorem dX11_walks_171 : decode cX11_walks 171 = .ok (.getfield 69, 3) := by decide +kernel
theorem dX11_walks_174 : decode cX11_walks 174 = .ok (.iload 6, 2) := by decide +kernel
theorem dX11_walks_176 : decode cX11_walks 176 = .ok (.aload_n 0, 1) := by decide +kernel
theorem dX11_walks_177 : decode cX11_walks 177 = .ok (.getfield 73, 3) := by decide +kernel
theorem dX11_walks_180 : decode cX11_walks 180 = .ok (.iload 6, 2) := by decide +kernel
theorem dX11_walks_182 : decode cX11_walks 182 = .ok (.laload, 1) := by decide +kernel
theorem dX11_walks_183 : decode cX11_walks 183 = .ok (.lastore, 1) := by decide +kernel
theorem dX11_walks_184 : decode cX11_walks 184 = .ok (.iinc 6 1, 3) := by decide +kernel
theorem dX11_walks_187 : decode cX11_walks 187 = .ok (.goto (-25), 3) := by decide +kernel
theorem dX11_walks_190 : decode cX11_walks 190 = .ok (.iinc 5 1, 3) := by decide +kernel
theorem dX11_walks_193 : decode cX11_walks 193 = .ok (.goto (-106), 3) := by decide +kernel
theorem dX11_walks_196 : decode cX11_walks 196 = .ok (.iconst 1, 1) := by decide +kernel
theorem dX11_walks_197 : decode cX11_walks 197 = .ok (.istore 5, 2) := by decide +kernel
theorem dX11_walks_199 : decode cX11_walks 199 = .ok (.iconst 1, 1) := by decide +kernel
theorem dX11_walks_200 : decode cX11_walks 200 = .ok (.istore 6, 2) := by decide +kernel
theorem dX11_walks_202 : decode cX11_walks 202 = .ok (.iload 6, 2) := by decide +kernel
theorem dX11_walks_204 : decode cX11_walks 204 = .ok (.bipush 9, 2) := by decide +kernel
theorem dX11_walks_206 : decode cX11_walks 206 = .ok (.if_icmp .ge 37, 3) := by decide +kernel
theorem dX11_walks_209 : decode cX11_walks 209 = .ok (.aload_n 0, 1) := by decide +kernel
theorem dX11_walks_210 : decode cX11_walks 210 = .ok (.getfield 69, 3) := by decide +kernel
theorem dX11_walks_213 : decode cX11_walks 213 = .ok (.bipush 9, 2) := by decide +kernel
theorem dX11_walks_215 : decode cX11_walks 215 = .ok (.iload_n 2, 1) := by decide +kernel
theorem dX11_walks_216 : decode cX11_walks 216 = .ok (.imul, 1) := by decide +kernel
theorem dX11_walks_217 : decode cX11_walks 217 = .ok (.iload 6, 2) := by decide +kernel
theorem dX11_walks_219 : decode cX11_walks 219 = .ok (.iadd, 1) := by decide +kernel
theorem dX11_walks_220 : decode cX11_walks 220 = .ok (.laload, 1) := by decide +kernel
theorem dX11_walks_221 : decode cX11_walks 221 = .ok (.lconst 0, 1) := by decide +kernel
theorem dX11_walks_222 : decode cX11_walks 222 = .ok (.lcmp, 1) := by decide +kernel
theorem dX11_walks_223 : decode cX11_walks 223 = .ok (.ifCond .le 10, 3) := by decide +kernel
theorem dX11_walks_226 : decode cX11_walks 226 = .ok (.iload 6, 2) := by decide +kernel
theorem dX11_walks_228 : decode cX11_walks 228 = .ok (.iconst 1, 1) := by decide +kernel
theorem dX11_walks_229 : decode cX11_walks 229 = .ok (.iadd, 1) := by decide +kernel
theorem dX11_walks_230 : decode cX11_walks 230 = .ok (.goto 5, 3) := by decide +kernel
theorem dX11_walks_233 : decode cX11_walks 233 = .ok (.iload 5, 2) := by decide +kernel
theorem dX11_walks_235 : decode cX11_walks 235 = .ok (.istore 5, 2) := by decide +kernel
theorem dX11_walks_237 : decode cX11_walks 237 = .ok (.iinc 6 1, 3) := by decide +kernel
theorem dX11_walks_240 : decode cX11_walks 240 = .ok (.goto (-38), 3) := by decide +kernel
theorem dX11_walks_243 : decode cX11_walks 243 = .ok (.iload 4, 2) := by decide +kernel
theorem dX11_walks_245 : decode cX11_walks 245 = .ok (.iconst 0, 1) := by decide +kernel
theorem dX11_walks_246 : decode cX11_walks 246 = .ok (.iload 5, 2) := by decide +kernel
theorem dX11_walks_248 : decode cX11_walks 248 = .ok (.iconst 1, 1) := by decide +kernel
theorem dX11_walks_249 : decode cX11_walks 249 = .ok (.isub, 1) := by decide +kernel
theorem dX11_walks_250 : decode cX11_walks 250 = .ok (.invokestatic 86, 3) := by decide +kernel
theorem dX11_walks_253 : decode cX11_walks 253 = .ok (.ifCond .eq 19, 3) := by decide +kernel
theorem dX11_walks_256 : decode cX11_walks 256 = .ok (.aload_n 0, 1) := by decide +kernel
theorem dX11_walks_257 : decode cX11_walks 257 = .ok (.getfield 69, 3) := by decide +kernel
theorem dX11_walks_260 : decode cX11_walks 260 = .ok (.bipush 9, 2) := by decide +kernel
theorem dX11_walks_262 : decode cX11_walks 262 = .ok (.iload_n 2, 1) := by decide +kernel
theorem dX11_walks_263 : decode cX11_walks 263 = .ok (.imul, 1) := by decide +kernel
theorem dX11_walks_264 : decode cX11_walks 264 = .ok (.iload 4, 2) := by decide +kernel
theorem dX11_walks_266 : decode cX11_walks 266 = .ok (.iadd, 1) := by decide +kernel
theorem dX11_walks_267 : decode cX11_walks 267 = .ok (.laload, 1) := by decide +kernel
theorem dX11_walks_268 : decode cX11_walks 268 = .ok (.l2i, 1) := by decide +kernel
theorem dX11_walks_269 : decode cX11_walks 269 = .ok (.goto 5, 3) := by decide +kernel
theorem dX11_walks_272 : decode cX11_walks 272 = .ok (.bipush (-9), 2) := by decide +kernel
theorem dX11_walks_274 : decode cX11_walks 274 = .ok (.ireturn, 1) := by decide +kernel
theorem dX11_sample_0 : decode cX11_sample 0 = .ok (.iload_n 2, 1) := by decide +kernel
theorem dX11_sample_1 : decode cX11_sample 1 = .ok (.invokestatic 124, 3) := by decide +kernel
theorem dX11_sample_4 : decode cX11_sample 4 = .ok (.ifCond .eq 19, 3) := by decide +kernel
theorem dX11_sample_7 : decode cX11_sample 7 = .ok (.iload_n 1, 1) := by decide +kernel
theorem dX11_sample_8 : decode cX11_sample 8 = .ok (.iconst 0, 1) := by decide +kernel
theorem dX11_sample_9 : decode cX11_sample 9 = .ok (.iconst 1, 1) := by decide +kernel
theorem dX11_sample_10 : decode cX11_sample 10 = .ok (.aload_n 0, 1) := by decide +kernel
theorem dX11_sample_11 : decode cX11_sample 11 = .ok (.getfield 7, 3) := by decide +kernel
theorem dX11_sample_14 : decode cX11_sample 14 = .ok (.ishl, 1) := by decide +kernel
theorem dX11_sample_15 : decode cX11_sample 15 = .ok (.iconst 1, 1) := by decide +kernel
theorem dX11_sample_16 : decode cX11_sample 16 = .ok (.isub, 1) := by decide +kernel
theorem dX11_sample_17 : decode cX11_sample 17 = .ok (.invokestatic 86, 3) := by decide +kernel
theorem dX11_sample_20 : decode cX11_sample 20 = .ok (.ifCond .ne 9, 3) := by decide +kernel
theorem dX11_sample_23 : decode cX11_sample 23 = .ok (.aload_n 0, 1) := by decide +kernel
theorem dX11_sample_24 : decode cX11_sample 24 = .ok (.iconst (-1), 1) := by decide +kernel
theorem dX11_sample_25 : decode cX11_sample 25 = .ok (.invokevirtual 104, 3) := by decide +kernel
theorem dX11_sample_28 : decode cX11_sample 28 = .ok (.ireturn, 1) := by decide +kernel
theorem dX11_sample_29 : decode cX11_sample 29 = .ok (.iload_n 1, 1) := by decide +kernel
theorem dX11_sample_30 : decode cX11_sample 30 = .ok (.invokestatic 127, 3) := by decide +kernel
theorem dX11_sample_33 : decode cX11_sample 33 = .ok (.istore 4, 2) := by decide +kernel
theorem dX11_sample_35 : decode cX11_sample 35 = .ok (.iload 4, 2) := by decide +kernel
theorem dX11_sample_37 : decode cX11_sample 37 = .ok (.iconst 3, 1) := by decide +kernel
theorem dX11_sample_38 : decode cX11_sample 38 = .ok (.if_icmp .ge 10, 3) := by decide +kernel
theorem dX11_sample_41 : decode cX11_sample 41 = .ok (.aload_n 0, 1) := by decide +kernel
theorem dX11_sample_42 : decode cX11_sample 42 = .ok (.bipush (-3), 2) := by decide +kernel
theorem dX11_sample_44 : decode cX11_sample 44 = .ok (.invokevirtual 104, 3) := by decide +kernel
theorem dX11_sample_47 : decode cX11_sample 47 = .ok (.ireturn, 1) := by decide +kernel
theorem dX11_sample_48 : decode cX11_sample 48 = .ok (.iload_n 3, 1) := by decide +kernel
theorem dX11_sample_49 : decode cX11_sample 49 = .ok (.iconst 0, 1) := by decide +kernel
theorem dX11_sample_50 : decode cX11_sample 50 = .ok (.iconst 1, 1) := by decide +kernel
theorem dX11_sample_51 : decode cX11_sample 51 = .ok (.invokestatic 86, 3) := by decide +kernel
theorem dX11_sample_54 : decode cX11_sample 54 = .ok (.ifCond .ne 10, 3) := by decide +kernel
theorem dX11_sample_57 : decode cX11_sample 57 = .ok (.aload_n 0, 1) := by decide +kernel
theorem dX11_sample_58 : decode cX11_sample 58 = .ok (.bipush (-2), 2) := by decide +kernel
theorem dX11_sample_60 : decode cX11_sample 60 = .ok (.invokevirtual 104, 3) := by decide +kernel
theorem dX11_sample_63 : decode cX11_sample 63 = .ok (.ireturn, 1) := by decide +kernel
theorem dX11_sample_64 : decode cX11_sample 64 = .ok (.iconst 0, 1) := by decide +kernel
theorem dX11_sample_65 : decode cX11_sample 65 = .ok (.istore 5, 2) := by decide +kernel
theorem dX11_sample_67 : decode cX11_sample 67 = .ok (.iconst 0, 1) := by decide +kernel
theorem dX11_sample_68 : decode cX11_sample 68 = .ok (.istore 6, 2) := by decide +kernel
theorem dX11_sample_70 : decode cX11_sample 70 = .ok (.iload 6, 2) := by decide +kernel
theorem dX11_sample_72 : decode cX11_sample 72 = .ok (.aload_n 0, 1) := by decide +kernel
theorem dX11_sample_73 : decode cX11_sample 73 = .ok (.getfield 7, 3) := by decide +kernel
theorem dX11_sample_76 : decode cX11_sample 76 = .ok (.if_icmp .ge 107, 3) := by decide +kernel
theorem dX11_sample_79 : decode cX11_sample 79 = .ok (.iload 6, 2) := by decide +kernel
theorem dX11_sample_81 : decode cX11_sample 81 = .ok (.iconst 1, 1) := by decide +kernel
theorem dX11_sample_82 : decode cX11_sample 82 = .ok (.iadd, 1) := by decide +kernel
theorem dX11_sample_83 : decode cX11_sample 83 = .ok (.istore 7, 2) := by decide +kernel
theorem dX11_sample_85 : decode cX11_sample 85 = .ok (.iload 7, 2) := by decide +kernel
theorem dX11_sample_87 : decode cX11_sample 87 = .ok (.aload_n 0, 1) := by decide +kernel
theorem dX11_sample_88 : decode cX11_sample 88 = .ok (.getfield 7, 3) := by decide +kernel
theorem dX11_sample_91 : decode cX11_sample 91 = .ok (.if_icmp .ge 86, 3) := by decide +kernel
theorem dX11_sample_94 : decode cX11_sample 94 = .ok (.iload 7, 2) := by decide +kernel
theorem dX11_sample_96 : decode cX11_sample 96 = .ok (.iconst 1, 1) := by decide +kernel
theorem dX11_sample_97 : decode cX11_sample 97 = .ok (.iadd, 1) := by decide +kernel
theorem dX11_sample_98 : decode cX11_sample 98 = .ok (.istore 8, 2) := by decide +kernel
theorem dX11_sample_100 : decode cX11_sample 100 = .ok (.iload 8, 2) := by decide +kernel
theorem dX11_sample_102 : decode cX11_sample 102 = .ok (.aload_n 0, 1) := by decide +kernel
theorem dX11_sample_103 : decode cX11_sample 103 = .ok (.getfield 7, 3) := by decide +kernel
theorem dX11_sample_106 : decode cX11_sample 106 = .ok (.if_icmp .ge 65, 3) := by decide +kernel
theorem dX11_sample_109 : decode cX11_sample 109 = .ok (.iload_n 1, 1) := by decide +kernel
theorem dX11_sample_110 : decode cX11_sample 110 = .ok (.iload 6, 2) := by decide +kernel
theorem dX11_sample_112 : decode cX11_sample 112 = .ok (.ishr, 1) := by decide +kernel
theorem dX11_sample_113 : decode cX11_sample 113 = .ok (.iload_n 1, 1) := by decide +kernel
theorem dX11_sample_114 : decode cX11_sample 114 = .ok (.iload 7, 2) := by decide +kernel
theorem dX11_sample_116 : decode cX11_sample 116 = .ok (.ishr, 1) := by decide +kernel
theorem dX11_sample_117 : decode cX11_sample 117 = .ok (.iand, 1) := by decide +kernel
theorem dX11_sample_118 : decode cX11_sample 118 = .ok (.iload_n 1, 1) := by decide +kernel
theorem dX11_sample_119 : decode cX11_sample 119 = .ok (.iload 8, 2) := by decide +kernel
theorem dX11_sample_121 : decode cX11_sample 121 = .ok (.ishr, 1) := by decide +kernel
theorem dX11_sample_122 : decode cX11_sample 122 = .ok (.iand, 1) := by decide +kernel
theorem dX11_sample_123 : decode cX11_sample 123 = .ok (.iconst 1, 1) := by decide +kernel
theorem dX11_sample_124 : decode cX11_sample 124 = .ok (.iand, 1) := by decide +kernel
theorem dX11_sample_125 : decode cX11_sample 125 = .ok (.iconst 1, 1) := by decide +kernel
theorem dX11_sample_126 : decode cX11_sample 126 = .ok (.if_icmp .ne 7, 3) := by decide +kernel
theorem dX11_sample_129 : decode cX11_sample 129 = .ok (.iconst 1, 1) := by decide +kernel
theorem dX11_sample_130 : decode cX11_sample 130 = .ok (.goto 4, 3) := by decide +kernel
theorem dX11_sample_133 : decode cX11_sample 133 = .ok (.iconst 0, 1) := by decide +kernel
theorem dX11_sample_134 : decode cX11_sample 134 = .ok (.istore 9, 2) := by decide +kernel
theorem dX11_sample_136 : decode cX11_sample 136 = .ok (.iload 5, 2) := by decide +kernel
theorem dX11_sample_138 : decode cX11_sample 138 = .ok (.iload 9, 2) := by decide +kernel
theorem dX11_sample_140 : decode cX11_sample 140 = .ok (.ifCond .eq 21, 3) := by decide +kernel
theorem dX11_sample_143 : decode cX11_sample 143 = .ok (.aload_n 0, 1) := by decide +kernel
theorem dX11_sample_144 : decode cX11_sample 144 = .ok (.iload 6, 2) := by decide +kernel
theorem dX11_sample_146 : decode cX11_sample 146 = .ok (.iload 7, 2) := by decide +kernel
theorem dX11_sample_148 : decode cX11_sample 148 = .ok (.iload 8, 2) := by decide +kernel
theorem dX11_sample_150 : decode cX11_sample 150 = .ok (.invokevirtual 121, 3) := by decide +kernel
theorem dX11_sample_153 : decode cX11_sample 153 = .ok (.iload_n 2, 1) := by decide +kernel
theorem dX11_sample_154 : decode cX11_sample 154 = .ok (.if_icmp .ne 7, 3) := by decide +kernel
theorem dX11_sample_157 : decode cX11_sample 157 = .ok (.iconst 1, 1) := by decide +kernel
theorem dX11_sample_158 : decode cX11_sample 158 = .ok (.goto 4, 3) := by decide +kernel
theorem dX11_sample_161 : decode cX11_sample 161 = .ok (.iconst 0, 1) := by decide +kernel
theorem dX11_sample_162 : decode cX11_sample 162 = .ok (.iadd, 1) := by decide +kernel
theorem dX11_sample_163 : decode cX11_sample 163 = .ok (.istore 5, 2) := by decide +kernel
theorem dX11_sample_165 : decode cX11_sample 165 = .ok (.iinc 8 1, 3) := by decide +kernel
theorem dX11_sample_168 : decode cX11_sample 168 = .ok (.goto (-68), 3) := by decide +kernel
theorem dX11_sample_171 : decode cX11_sample 171 = .ok (.iinc 7 1, 3) := by decide +kernel
theorem dX11_sample_174 : decode cX11_sample 174 = .ok (.goto (-89), 3) := by decide +kernel
theorem dX11_sample_177 : decode cX11_sample 177 = .ok (.iinc 6 1, 3) := by decide +kernel
theorem dX11_sample_180 : decode cX11_sample 180 = .ok (.goto (-110), 3) := by decide +kernel
theorem dX11_sample_183 : decode cX11_sample 183 = .ok (.iload 5, 2) := by decide +kernel
theorem dX11_sample_185 : decode cX11_sample 185 = .ok (.i2l, 1) := by decide +kernel
theorem dX11_sample_186 : decode cX11_sample 186 = .ok (.aload_n 0, 1) := by decide +kernel
theorem dX11_sample_187 : decode cX11_sample 187 = .ok (.getfield 7, 3) := by decide +kernel
theorem dX11_sample_190 : decode cX11_sample 190 = .ok (.invokestatic 167, 3) := by decide +kernel
theorem dX11_sample_193 : decode cX11_sample 193 = .ok (.i2l, 1) := by decide +kernel
theorem dX11_sample_194 : decode cX11_sample 194 = .ok (.lmul, 1) := by decide +kernel
theorem dX11_sample_195 : decode cX11_sample 195 = .ok (.lstore 6, 2) := by decide +kernel
theorem dX11_sample_197 : decode cX11_sample 197 = .ok (.iload 4, 2) := by decide +kernel
theorem dX11_sample_199 : decode cX11_sample 199 = .ok (.invokestatic 167, 3) := by decide +kernel
theorem dX11_sample_202 : decode cX11_sample 202 = .ok (.i2l, 1) := by decide +kernel
theorem dX11_sample_203 : decode cX11_sample 203 = .ok (.lstore 8, 2) := by decide +kernel
theorem dX11_sample_205 : decode cX11_sample 205 = .ok (.lload 6, 2) := by decide +kernel
theorem dX11_sample_207 : decode cX11_sample 207 = .ok (.lload 8, 2) := by decide +kernel
theorem dX11_sample_209 : decode cX11_sample 209 = .ok (.invokestatic 181, 3) := by decide +kernel
theorem dX11_sample_212 : decode cX11_sample 212 = .ok (.lstore 10, 2) := by decide +kernel
theorem dX11_sample_214 : decode cX11_sample 214 = .ok (.iload_n 3, 1) := by decide +kernel
theorem dX11_sample_215 : decode cX11_sample 215 = .ok (.ifCond .ne 11, 3) := by decide +kernel
theorem dX11_sample_218 : decode cX11_sample 218 = .ok (.lload 6, 2) := by decide +kernel
theorem dX11_sample_220 : decode cX11_sample 220 = .ok (.lload 10, 2) := by decide +kernel
theorem dX11_sample_222 : decode cX11_sample 222 = .ok (.ldiv, 1) := by decide +kernel
theorem dX11_sample_223 : decode cX11_sample 223 = .ok (.goto 8, 3) := by decide +kernel
theorem dX11_sample_226 : decode cX11_sample 226 = .ok (.lload 8, 2) := by decide +kernel
theorem dX11_sample_228 : decode cX11_sample 228 = .ok (.lload 10, 2) := by decide +kernel
theorem dX11_sample_230 : decode cX11_sample 230 = .ok (.ldiv, 1) := by decide +kernel
theorem dX11_sample_231 : decode cX11_sample 231 = .ok (.l2i, 1) := by decide +kernel
theorem dX11_sample_232 : decode cX11_sample 232 = .ok (.ireturn, 1) := by decide +kernel
theorem dX11_isSheet_0 : decode cX11_isSheet 0 = .ok (.iload_n 0, 1) := by decide +kernel
theorem dX11_isSheet_1 : decode cX11_isSheet 1 = .ok (.iconst 0, 1) := by decide +kernel
theorem dX11_isSheet_2 : decode cX11_isSheet 2 = .ok (.iconst 3, 1) := by decide +kernel
theorem dX11_isSheet_3 : decode cX11_isSheet 3 = .ok (.invokestatic 86, 3) := by decide +kernel
theorem dX11_isSheet_6 : decode cX11_isSheet 6 = .ok (.ireturn, 1) := by decide +kernel
theorem dX11_keep_0 : decode cX11_keep 0 = .ok (.iload_n 1, 1) := by decide +kernel
theorem dX11_keep_1 : decode cX11_keep 1 = .ok (.invokestatic 198, 3) := by decide +kernel
theorem dX11_keep_4 : decode cX11_keep 4 = .ok (.ifCond .ne 9, 3) := by decide +kernel
theorem dX11_keep_7 : decode cX11_keep 7 = .ok (.aload_n 0, 1) := by decide +kernel
theorem dX11_keep_8 : decode cX11_keep 8 = .ok (.iconst (-1), 1) := by decide +kernel
theorem dX11_keep_9 : decode cX11_keep 9 = .ok (.invokevirtual 104, 3) := by decide +kernel
theorem dX11_keep_12 : decode cX11_keep 12 = .ok (.ireturn, 1) := by decide +kernel
theorem dX11_keep_13 : decode cX11_keep 13 = .ok (.aload_n 0, 1) := by decide +kernel
theorem dX11_keep_14 : decode cX11_keep 14 = .ok (.getfield 27, 3) := by decide +kernel
theorem dX11_keep_17 : decode cX11_keep 17 = .ok (.iload_n 1, 1) := by decide +kernel
theorem dX11_keep_18 : decode cX11_keep 18 = .ok (.aload_n 0, 1) := by decide +kernel
theorem dX11_keep_19 : decode cX11_keep 19 = .ok (.getfield 7, 3) := by decide +kernel
theorem dX11_keep_22 : decode cX11_keep 22 = .ok (.iastore, 1) := by decide +kernel
theorem dX11_keep_23 : decode cX11_keep 23 = .ok (.iconst 0, 1) := by decide +kernel
theorem dX11_keep_24 : decode cX11_keep 24 = .ok (.istore_n 2, 1) := by decide +kernel
theorem dX11_keep_25 : decode cX11_keep 25 = .ok (.iload_n 2, 1) := by decide +kernel
theorem dX11_keep_26 : decode cX11_keep 26 = .ok (.sipush 256, 3) := by decide +kernel
theorem dX11_keep_29 : decode cX11_keep 29 = .ok (.if_icmp .ge 63, 3) := by decide +kernel
theorem dX11_keep_32 : decode cX11_keep 32 = .ok (.aload_n 0, 1) := by decide +kernel
theorem dX11_keep_33 : decode cX11_keep 33 = .ok (.getfield 30, 3) := by decide +kernel
theorem dX11_keep_36 : decode cX11_keep 36 = .ok (.sipush 256, 3) := by decide +kernel
theorem dX11_keep_39 : decode cX11_keep 39 = .ok (.iload_n 1, 1) := by decide +kernel
theorem dX11_keep_40 : decode cX11_keep 40 = .ok (.imul, 1) := by decide +kernel
theorem dX11_keep_41 : decode cX11_keep 41 = .ok (.iload_n 2, 1) := by decide +kernel
theorem dX11_keep_42 : decode cX11_keep 42 = .ok (.iadd, 1) := by decide +kernel
theorem dX11_keep_43 : decode cX11_keep 43 = .ok (.aload_n 0, 1) := by decide +kernel
theorem dX11_keep_44 : decode cX11_keep 44 = .ok (.getfield 13, 3) := by decide +kernel
theorem dX11_keep_47 : decode cX11_keep 47 = .ok (.iload_n 2, 1) := by decide +kernel
theorem dX11_keep_48 : decode cX11_keep 48 = .ok (.baload, 1) := by decide +kernel
theorem dX11_keep_49 : decode cX11_keep 49 = .ok (.bastore, 1) := by decide +kernel
theorem dX11_keep_50 : decode cX11_keep 50 = .ok (.aload_n 0, 1) := by decide +kernel
theorem dX11_keep_51 : decode cX11_keep 51 = .ok (.getfield 33, 3) := by decide +kernel
theorem dX11_keep_54 : decode cX11_keep 54 = .ok (.sipush 256, 3) := by decide +kernel
theorem dX11_keep_57 : decode cX11_keep 57 = .ok (.iload_n 1, 1) := by decide +kernel
theorem dX11_keep_58 : decode cX11_keep 58 = .ok (.imul, 1) := by decide +kernel
theorem dX11_keep_59 : decode cX11_keep 59 = .ok (.iload_n 2, 1) := by decide +kernel
theorem dX11_keep_60 : decode cX11_keep 60 = .ok (.iadd, 1) := by decide +kernel
theorem dX11_keep_61 : decode cX11_keep 61 = .ok (.aload_n 0, 1) := by decide +kernel
theorem dX11_keep_62 : decode cX11_keep 62 = .ok (.getfield 17, 3) := by decide +kernel
theorem dX11_keep_65 : decode cX11_keep 65 = .ok (.iload_n 2, 1) := by decide +kernel
theorem dX11_keep_66 : decode cX11_keep 66 = .ok (.iaload, 1) := by decide +kernel
theorem dX11_keep_67 : decode cX11_keep 67 = .ok (.iastore, 1) := by decide +kernel
theorem dX11_keep_68 : decode cX11_keep 68 = .ok (.aload_n 0, 1) := by decide +kernel
theorem dX11_keep_69 : decode cX11_keep 69 = .ok (.getfield 36, 3) := by decide +kernel
theorem dX11_keep_72 : decode cX11_keep 72 = .ok (.sipush 256, 3) := by decide +kernel
theorem dX11_keep_75 : decode cX11_keep 75 = .ok (.iload_n 1, 1) := by decide +kernel
theorem dX11_keep_76 : decode cX11_keep 76 = .ok (.imul, 1) := by decide +kernel
theorem dX11_keep_77 : decode cX11_keep 77 = .ok (.iload_n 2, 1) := by decide +kernel
theorem dX11_keep_78 : decode cX11_keep 78 = .ok (.iadd, 1) := by decide +kernel
theorem dX11_keep_79 : decode cX11_keep 79 = .ok (.aload_n 0, 1) := by decide +kernel
theorem dX11_keep_80 : decode cX11_keep 80 = .ok (.getfield 21, 3) := by decide +kernel
theorem dX11_keep_83 : decode cX11_keep 83 = .ok (.iload_n 2, 1) := by decide +kernel
theorem dX11_keep_84 : decode cX11_keep 84 = .ok (.iaload, 1) := by decide +kernel
theorem dX11_keep_85 : decode cX11_keep 85 = .ok (.iastore, 1) := by decide +kernel
theorem dX11_keep_86 : decode cX11_keep 86 = .ok (.iinc 2 1, 3) := by decide +kernel
theorem dX11_keep_89 : decode cX11_keep 89 = .ok (.goto (-64), 3) := by decide +kernel
theorem dX11_keep_92 : decode cX11_keep 92 = .ok (.aload_n 0, 1) := by decide +kernel
theorem dX11_keep_93 : decode cX11_keep 93 = .ok (.invokevirtual 161, 3) := by decide +kernel
theorem dX11_keep_96 : decode cX11_keep 96 = .ok (.ireturn, 1) := by decide +kernel
theorem dX11_load_0 : decode cX11_load 0 = .ok (.aload_n 0, 1) := by decide +kernel
theorem dX11_load_1 : decode cX11_load 1 = .ok (.aload_n 0, 1) := by decide +kernel
theorem dX11_load_2 : decode cX11_load 2 = .ok (.getfield 27, 3) := by decide +kernel
theorem dX11_load_5 : decode cX11_load 5 = .ok (.iload_n 1, 1) := by decide +kernel
theorem dX11_load_6 : decode cX11_load 6 = .ok (.iaload, 1) := by decide +kernel
theorem dX11_load_7 : decode cX11_load 7 = .ok (.putfield 7, 3) := by decide +kernel
theorem dX11_load_10 : decode cX11_load 10 = .ok (.iconst 0, 1) := by decide +kernel
theorem dX11_load_11 : decode cX11_load 11 = .ok (.istore_n 2, 1) := by decide +kernel
theorem dX11_load_12 : decode cX11_load 12 = .ok (.iload_n 2, 1) := by decide +kernel
theorem dX11_load_13 : decode cX11_load 13 = .ok (.sipush 256, 3) := by decide +kernel
theorem dX11_load_16 : decode cX11_load 16 = .ok (.if_icmp .ge 63, 3) := by decide +kernel
theorem dX11_load_19 : decode cX11_load 19 = .ok (.aload_n 0, 1) := by decide +kernel
theorem dX11_load_20 : decode cX11_load 20 = .ok (.getfield 13, 3) := by decide +kernel
theorem dX11_load_23 : decode cX11_load 23 = .ok (.iload_n 2, 1) := by decide +kernel
theorem dX11_load_24 : decode cX11_load 24 = .ok (.aload_n 0, 1) := by decide +kernel
theorem dX11_load_25 : decode cX11_load 25 = .ok (.getfield 30, 3) := by decide +kernel
theorem dX11_load_28 : decode cX11_load 28 = .ok (.sipush 256, 3) := by decide +kernel
theorem dX11_load_31 : decode cX11_load 31 = .ok (.iload_n 1, 1) := by decide +kernel
theorem dX11_load_32 : decode cX11_load 32 = .ok (.imul, 1) := by decide +kernel
theorem dX11_load_33 : decode cX11_load 33 = .ok (.iload_n 2, 1) := by decide +kernel
theorem dX11_load_34 : decode cX11_load 34 = .ok (.iadd, 1) := by decide +kernel
theorem dX11_load_35 : decode cX11_load 35 = .ok (.baload, 1) := by decide +kernel
theorem dX11_load_36 : decode cX11_load 36 = .ok (.bastore, 1) := by decide +kernel
theorem dX11_load_37 : decode cX11_load 37 = .ok (.aload_n 0, 1) := by decide +kernel
theorem dX11_load_38 : decode cX11_load 38 = .ok (.getfield 17, 3) := by decide +kernel
theorem dX11_load_41 : decode cX11_load 41 = .ok (.iload_n 2, 1) := by decide +kernel
theorem dX11_load_42 : decode cX11_load 42 = .ok (.aload_n 0, 1) := by decide +kernel
theorem dX11_load_43 : decode cX11_load 43 = .ok (.getfield 33, 3) := by decide +kernel
theorem dX11_load_46 : decode cX11_load 46 = .ok (.sipush 256, 3) := by decide +kernel
theorem dX11_load_49 : decode cX11_load 49 = .ok (.iload_n 1, 1) := by decide +kernel
theorem dX11_load_50 : decode cX11_load 50 = .ok (.imul, 1) := by decide +kernel
theorem dX11_load_51 : decode cX11_load 51 = .ok (.iload_n 2, 1) := by decide +kernel
theorem dX11_load_52 : decode cX11_load 52 = .ok (.iadd, 1) := by decide +kernel
theorem dX11_load_53 : decode cX11_load 53 = .ok (.iaload, 1) := by decide +kernel
theorem dX11_load_54 : decode cX11_load 54 = .ok (.iastore, 1) := by decide +kernel
theorem dX11_load_55 : decode cX11_load 55 = .ok (.aload_n 0, 1) := by decide +kernel
theorem dX11_load_56 : decode cX11_load 56 = .ok (.getfield 21, 3) := by decide +kernel
theorem dX11_load_59 : decode cX11_load 59 = .ok (.iload_n 2, 1) := by decide +kernel
theorem dX11_load_60 : decode cX11_load 60 = .ok (.aload_n 0, 1) := by decide +kernel
theorem dX11_load_61 : decode cX11_load 61 = .ok (.getfield 36, 3) := by decide +kernel
theorem dX11_load_64 : decode cX11_load 64 = .ok (.sipush 256, 3) := by decide +kernel
theorem dX11_load_67 : decode cX11_load 67 = .ok (.iload_n 1, 1) := by decide +kernel
theorem dX11_load_68 : decode cX11_load 68 = .ok (.imul, 1) := by decide +kernel
theorem dX11_load_69 : decode cX11_load 69 = .ok (.iload_n 2, 1) := by decide +kernel
theorem dX11_load_70 : decode cX11_load 70 = .ok (.iadd, 1) := by decide +kernel
theorem dX11_load_71 : decode cX11_load 71 = .ok (.iaload, 1) := by decide +kernel
theorem dX11_load_72 : decode cX11_load 72 = .ok (.iastore, 1) := by decide +kernel
theorem dX11_load_73 : decode cX11_load 73 = .ok (.iinc 2 1, 3) := by decide +kernel
theorem dX11_load_76 : decode cX11_load 76 = .ok (.goto (-64), 3) := by decide +kernel
theorem dX11_load_79 : decode cX11_load 79 = .ok (.return_, 1) := by decide +kernel
theorem dX11_take_0 : decode cX11_take 0 = .ok (.iload_n 1, 1) := by decide +kernel
theorem dX11_take_1 : decode cX11_take 1 = .ok (.invokestatic 198, 3) := by decide +kernel
theorem dX11_take_4 : decode cX11_take 4 = .ok (.ifCond .ne 9, 3) := by decide +kernel
theorem dX11_take_7 : decode cX11_take 7 = .ok (.aload_n 0, 1) := by decide +kernel
theorem dX11_take_8 : decode cX11_take 8 = .ok (.iconst (-1), 1) := by decide +kernel
theorem dX11_take_9 : decode cX11_take 9 = .ok (.invokevirtual 104, 3) := by decide +kernel
theorem dX11_take_12 : decode cX11_take 12 = .ok (.ireturn, 1) := by decide +kernel
theorem dX11_take_13 : decode cX11_take 13 = .ok (.aload_n 0, 1) := by decide +kernel
theorem dX11_take_14 : decode cX11_take 14 = .ok (.getfield 27, 3) := by decide +kernel
theorem dX11_take_17 : decode cX11_take 17 = .ok (.iload_n 1, 1) := by decide +kernel
theorem dX11_take_18 : decode cX11_take 18 = .ok (.iaload, 1) := by decide +kernel
theorem dX11_take_19 : decode cX11_take 19 = .ok (.ifCond .ne 10, 3) := by decide +kernel
theorem dX11_take_22 : decode cX11_take 22 = .ok (.aload_n 0, 1) := by decide +kernel
theorem dX11_take_23 : decode cX11_take 23 = .ok (.bipush (-5), 2) := by decide +kernel
theorem dX11_take_25 : decode cX11_take 25 = .ok (.invokevirtual 104, 3) := by decide +kernel
theorem dX11_take_28 : decode cX11_take 28 = .ok (.ireturn, 1) := by decide +kernel
theorem dX11_take_29 : decode cX11_take 29 = .ok (.aload_n 0, 1) := by decide +kernel
theorem dX11_take_30 : decode cX11_take 30 = .ok (.iload_n 1, 1) := by decide +kernel
theorem dX11_take_31 : decode cX11_take 31 = .ok (.invokevirtual 201, 3) := by decide +kernel
theorem dX11_take_34 : decode cX11_take 34 = .ok (.aload_n 0, 1) := by decide +kernel
theorem dX11_take_35 : decode cX11_take 35 = .ok (.invokevirtual 161, 3) := by decide +kernel
theorem dX11_take_38 : decode cX11_take 38 = .ok (.ireturn, 1) := by decide +kernel
theorem dX11_lose_0 : decode cX11_lose 0 = .ok (.iload_n 1, 1) := by decide +kernel
theorem dX11_lose_1 : decode cX11_lose 1 = .ok (.invokestatic 198, 3) := by decide +kernel
theorem dX11_lose_4 : decode cX11_lose 4 = .ok (.ifCond .ne 9, 3) := by decide +kernel
theorem dX11_lose_7 : decode cX11_lose 7 = .ok (.aload_n 0, 1) := by decide +kernel
theorem dX11_lose_8 : decode cX11_lose 8 = .ok (.iconst (-1), 1) := by decide +kernel
theorem dX11_lose_9 : decode cX11_lose 9 = .ok (.invokevirtual 104, 3) := by decide +kernel
theorem dX11_lose_12 : decode cX11_lose 12 = .ok (.ireturn, 1) := by decide +kernel
theorem dX11_lose_13 : decode cX11_lose 13 = .ok (.aload_n 0, 1) := by decide +kernel
theorem dX11_lose_14 : decode cX11_lose 14 = .ok (.getfield 27, 3) := by decide +kernel
theorem dX11_lose_17 : decode cX11_lose 17 = .ok (.iload_n 1, 1) := by decide +kernel
theorem dX11_lose_18 : decode cX11_lose 18 = .ok (.iaload, 1) := by decide +kernel
theorem dX11_lose_19 : decode cX11_lose 19 = .ok (.ifCond .ne 10, 3) := by decide +kernel
theorem dX11_lose_22 : decode cX11_lose 22 = .ok (.aload_n 0, 1) := by decide +kernel
theorem dX11_lose_23 : decode cX11_lose 23 = .ok (.bipush (-5), 2) := by decide +kernel
theorem dX11_lose_25 : decode cX11_lose 25 = .ok (.invokevirtual 104, 3) := by decide +kernel
theorem dX11_lose_28 : decode cX11_lose 28 = .ok (.ireturn, 1) := by decide +kernel
theorem dX11_lose_29 : decode cX11_lose 29 = .ok (.aload_n 0, 1) := by decide +kernel
theorem dX11_lose_30 : decode cX11_lose 30 = .ok (.getfield 27, 3) := by decide +kernel
theorem dX11_lose_33 : decode cX11_lose 33 = .ok (.iload_n 1, 1) := by decide +kernel
theorem dX11_lose_34 : decode cX11_lose 34 = .ok (.iconst 0, 1) := by decide +kernel
theorem dX11_lose_35 : decode cX11_lose 35 = .ok (.iastore, 1) := by decide +kernel
theorem dX11_lose_36 : decode cX11_lose 36 = .ok (.iconst 1, 1) := by decide +kernel
theorem dX11_lose_37 : decode cX11_lose 37 = .ok (.ireturn, 1) := by decide +kernel
theorem dX11_far_0 : decode cX11_far 0 = .ok (.iload_n 1, 1) := by decide +kernel
theorem dX11_far_1 : decode cX11_far 1 = .ok (.invokestatic 198, 3) := by decide +kernel
theorem dX11_far_4 : decode cX11_far 4 = .ok (.ifCond .ne 9, 3) := by decide +kernel
theorem dX11_far_7 : decode cX11_far 7 = .ok (.aload_n 0, 1) := by decide +kernel
theorem dX11_far_8 : decode cX11_far 8 = .ok (.iconst (-1), 1) := by decide +kernel
theorem dX11_far_9 : decode cX11_far 9 = .ok (.invokevirtual 104, 3) := by decide +kernel
theorem dX11_far_12 : decode cX11_far 12 = .ok (.ireturn, 1) := by decide +kernel
theorem dX11_far_13 : decode cX11_far 13 = .ok (.aload_n 0, 1) := by decide +kernel
theorem dX11_far_14 : decode cX11_far 14 = .ok (.getfield 27, 3) := by decide +kernel
theorem dX11_far_17 : decode cX11_far 17 = .ok (.iload_n 1, 1) := by decide +kernel
theorem dX11_far_18 : decode cX11_far 18 = .ok (.iaload, 1) := by decide +kernel
theorem dX11_far_19 : decode cX11_far 19 = .ok (.ifCond .ne 10, 3) := by decide +kernel
theorem dX11_far_22 : decode cX11_far 22 = .ok (.aload_n 0, 1) := by decide +kernel
theorem dX11_far_23 : decode cX11_far 23 = .ok (.bipush (-5), 2) := by decide +kernel
theorem dX11_far_25 : decode cX11_far 25 = .ok (.invokevirtual 104, 3) := by decide +kernel
theorem dX11_far_28 : decode cX11_far 28 = .ok (.ireturn, 1) := by decide +kernel
theorem dX11_far_29 : decode cX11_far 29 = .ok (.aload_n 0, 1) := by decide +kernel
theorem dX11_far_30 : decode cX11_far 30 = .ok (.getfield 7, 3) := by decide +kernel
theorem dX11_far_33 : decode cX11_far 33 = .ok (.istore_n 2, 1) := by decide +kernel
theorem dX11_far_34 : decode cX11_far 34 = .ok (.iconst 0, 1) := by decide +kernel
theorem dX11_far_35 : decode cX11_far 35 = .ok (.istore_n 3, 1) := by decide +kernel
theorem dX11_far_36 : decode cX11_far 36 = .ok (.iload_n 3, 1) := by decide +kernel
theorem dX11_far_37 : decode cX11_far 37 = .ok (.bipush 16, 2) := by decide +kernel
theorem dX11_far_39 : decode cX11_far 39 = .ok (.if_icmp .ge 20, 3) := by decide +kernel
theorem dX11_far_42 : decode cX11_far 42 = .ok (.aload_n 0, 1) := by decide +kernel
theorem dX11_far_43 : decode cX11_far 43 = .ok (.getfield 79, 3) := by decide +kernel
theorem dX11_far_46 : decode cX11_far 46 = .ok (.iload_n 3, 1) := by decide +kernel
theorem dX11_far_47 : decode cX11_far 47 = .ok (.aload_n 0, 1) := by decide +kernel
theorem dX11_far_48 : decode cX11_far 48 = .ok (.iload_n 3, 1) := by decide +kernel
theorem dX11_far_49 : decode cX11_far 49 = .ok (.invokevirtual 133, 3) := by decide +kernel
theorem dX11_far_52 : decode cX11_far 52 = .ok (.iastore, 1) := by decide +kernel
theorem dX11_far_53 : decode cX11_far 53 = .ok (.iinc 3 1, 3) := by decide +kernel
theorem dX11_far_56 : decode cX11_far 56 = .ok (.goto (-20), 3) := by decide +kernel
theorem dX11_far_59 : decode cX11_far 59 = .ok (.iconst 0, 1) := by decide +kernel
theorem dX11_far_60 : decode cX11_far 60 = .ok (.istore_n 3, 1) := by decide +kernel
theorem dX11_far_61 : decode cX11_far 61 = .ok (.iload_n 3, 1) := by decide +kernel
theorem dX11_far_62 : decode cX11_far 62 = .ok (.sipush 256, 3) := by decide +kernel
theorem dX11_far_65 : decode cX11_far 65 = .ok (.if_icmp .ge 39, 3) := by decide +kernel
theorem dX11_far_68 : decode cX11_far 68 = .ok (.aload_n 0, 1) := by decide +kernel
theorem dX11_far_69 : decode cX11_far 69 = .ok (.getfield 76, 3) := by decide +kernel
theorem dX11_far_72 : decode cX11_far 72 = .ok (.iload_n 3, 1) := by decide +kernel
theorem dX11_far_73 : decode cX11_far 73 = .ok (.aload_n 0, 1) := by decide +kernel
theorem dX11_far_74 : decode cX11_far 74 = .ok (.getfield 13, 3) := by decide +kernel
theorem dX11_far_77 : decode cX11_far 77 = .ok (.iload_n 3, 1) := by decide +kernel
theorem dX11_far_78 : decode cX11_far 78 = .ok (.baload, 1) := by decide +kernel
theorem dX11_far_79 : decode cX11_far 79 = .ok (.bastore, 1) := by decide +kernel
theorem dX11_far_80 : decode cX11_far 80 = .ok (.aload_n 0, 1) := by decide +kernel
theorem dX11_far_81 : decode cX11_far 81 = .ok (.getfield 13, 3) := by decide +kernel
theorem dX11_far_84 : decode cX11_far 84 = .ok (.iload_n 3, 1) := by decide +kernel
theorem dX11_far_85 : decode cX11_far 85 = .ok (.aload_n 0, 1) := by decide +kernel
theorem dX11_far_86 : decode cX11_far 86 = .ok (.getfield 30, 3) := by decide +kernel
theorem dX11_far_89 : decode cX11_far 89 = .ok (.sipush 256, 3) := by decide +kernel
theorem dX11_far_92 : decode cX11_far 92 = .ok (.iload_n 1, 1) := by decide +kernel
theorem dX11_far_93 : decode cX11_far 93 = .ok (.imul, 1) := by decide +kernel
theorem dX11_far_94 : decode cX11_far 94 = .ok (.iload_n 3, 1) := by decide +kernel
theorem dX11_far_95 : decode cX11_far 95 = .ok (.iadd, 1) := by decide +kernel
theorem dX11_far_96 : decode cX11_far 96 = .ok (.baload, 1) := by decide +kernel
theorem dX11_far_97 : decode cX11_far 97 = .ok (.bastore, 1) := by decide +kernel
theorem dX11_far_98 : decode cX11_far 98 = .ok (.iinc 3 1, 3) := by decide +kernel
theorem dX11_far_101 : decode cX11_far 101 = .ok (.goto (-40), 3) := by decide +kernel
theorem dX11_far_104 : decode cX11_far 104 = .ok (.aload_n 0, 1) := by decide +kernel
theorem dX11_far_105 : decode cX11_far 105 = .ok (.aload_n 0, 1) := by decide +kernel
theorem dX11_far_106 : decode cX11_far 106 = .ok (.getfield 27, 3) := by decide +kernel
theorem dX11_far_109 : decode cX11_far 109 = .ok (.iload_n 1, 1) := by decide +kernel
theorem dX11_far_110 : decode cX11_far 110 = .ok (.iaload, 1) := by decide +kernel
theorem dX11_far_111 : decode cX11_far 111 = .ok (.putfield 7, 3) := by decide +kernel
theorem dX11_far_114 : decode cX11_far 114 = .ok (.iconst 0, 1) := by decide +kernel
theorem dX11_far_115 : decode cX11_far 115 = .ok (.istore_n 3, 1) := by decide +kernel
theorem dX11_far_116 : decode cX11_far 116 = .ok (.iconst 0, 1) := by decide +kernel
theorem dX11_far_117 : decode cX11_far 117 = .ok (.istore 4, 2) := by decide +kernel
theorem dX11_far_119 : decode cX11_far 119 = .ok (.iload 4, 2) := by decide +kernel
theorem dX11_far_121 : decode cX11_far 121 = .ok (.bipush 16, 2) := by decide +kernel
theorem dX11_far_123 : decode cX11_far 123 = .ok (.if_icmp .ge 41, 3) := by decide +kernel
theorem dX11_far_126 : decode cX11_far 126 = .ok (.aload_n 0, 1) := by decide +kernel
theorem dX11_far_127 : decode cX11_far 127 = .ok (.iload 4, 2) := by decide +kernel
theorem dX11_far_129 : decode cX11_far 129 = .ok (.invokevirtual 133, 3) := by decide +kernel
theorem dX11_far_132 : decode cX11_far 132 = .ok (.aload_n 0, 1) := by decide +kernel
theorem dX11_far_133 : decode cX11_far 133 = .ok (.getfield 79, 3) := by decide +kernel
theorem dX11_far_136 : decode cX11_far 136 = .ok (.iload 4, 2) := by decide +kernel
theorem dX11_far_138 : decode cX11_far 138 = .ok (.iaload, 1) := by decide +kernel
theorem dX11_far_139 : decode cX11_far 139 = .ok (.isub, 1) := by decide +kernel
theorem dX11_far_140 : decode cX11_far 140 = .ok (.istore 5, 2) := by decide +kernel
theorem dX11_far_142 : decode cX11_far 142 = .ok (.iload_n 3, 1) := by decide +kernel
theorem dX11_far_143 : decode cX11_far 143 = .ok (.iload 5, 2) := by decide +kernel
theorem dX11_far_145 : decode cX11_far 145 = .ok (.ifCond .ge 9, 3) := by decide +kernel
theorem dX11_far_148 : decode cX11_far 148 = .ok (.iload 5, 2) := by decide +kernel
theorem dX11_far_150 : decode cX11_far 150 = .ok (.ineg, 1) := by decide +kernel
theorem dX11_far_151 : decode cX11_far 151 = .ok (.goto 5, 3) := by decide +kernel
theorem dX11_far_154 : decode cX11_far 154 = .ok (.iload 5, 2) := by decide +kernel
theorem dX11_far_156 : decode cX11_far 156 = .ok (.iadd, 1) := by decide +kernel
theorem dX11_far_157 : decode cX11_far 157 = .ok (.istore_n 3, 1) := by decide +kernel
theorem dX11_far_158 : decode cX11_far 158 = .ok (.iinc 4 1, 3) := by decide +kernel
theorem dX11_far_161 : decode cX11_far 161 = .ok (.goto (-42), 3) := by decide +kernel
theorem dX11_far_164 : decode cX11_far 164 = .ok (.iconst 0, 1) := by decide +kernel
theorem dX11_far_165 : decode cX11_far 165 = .ok (.istore 4, 2) := by decide +kernel
theorem dX11_far_167 : decode cX11_far 167 = .ok (.iload 4, 2) := by decide +kernel
theorem dX11_far_169 : decode cX11_far 169 = .ok (.sipush 256, 3) := by decide +kernel
theorem dX11_far_172 : decode cX11_far 172 = .ok (.if_icmp .ge 23, 3) := by decide +kernel
theorem dX11_far_175 : decode cX11_far 175 = .ok (.aload_n 0, 1) := by decide +kernel
theorem dX11_far_176 : decode cX11_far 176 = .ok (.getfield 13, 3) := by decide +kernel
theorem dX11_far_179 : decode cX11_far 179 = .ok (.iload 4, 2) := by decide +kernel
theorem dX11_far_181 : decode cX11_far 181 = .ok (.aload_n 0, 1) := by decide +kernel
theorem dX11_far_182 : decode cX11_far 182 = .ok (.getfield 76, 3) := by decide +kernel
theorem dX11_far_185 : decode cX11_far 185 = .ok (.iload 4, 2) := by decide +kernel
theorem dX11_far_187 : decode cX11_far 187 = .ok (.baload, 1) := by decide +kernel
theorem dX11_far_188 : decode cX11_far 188 = .ok (.bastore, 1) := by decide +kernel
theorem dX11_far_189 : decode cX11_far 189 = .ok (.iinc 4 1, 3) := by decide +kernel
theorem dX11_far_192 : decode cX11_far 192 = .ok (.goto (-25), 3) := by decide +kernel
theorem dX11_far_195 : decode cX11_far 195 = .ok (.aload_n 0, 1) := by decide +kernel
theorem dX11_far_196 : decode cX11_far 196 = .ok (.iload_n 2, 1) := by decide +kernel
theorem dX11_far_197 : decode cX11_far 197 = .ok (.putfield 7, 3) := by decide +kernel
theorem dX11_far_200 : decode cX11_far 200 = .ok (.iload_n 3, 1) := by decide +kernel
theorem dX11_far_201 : decode cX11_far 201 = .ok (.ireturn, 1) := by decide +kernel
theorem dX11_status_0 : decode cX11_status 0 = .ok (.iconst 0, 1) := by decide +kernel
theorem dX11_status_1 : decode cX11_status 1 = .ok (.istore_n 2, 1) := by decide +kernel
theorem dX11_status_2 : decode cX11_status 2 = .ok (.iload_n 1, 1) := by decide +kernel
theorem dX11_status_3 : decode cX11_status 3 = .ok (.tableswitch 230 0 6 #[41, 46, 51, 90, 146, 178, 178], 41) := by decide +kernel
theorem dX11_status_44 : decode cX11_status 44 = .ok (.aload_n 0, 1) := by decide +kernel
theorem dX11_status_45 : decode cX11_status 45 = .ok (.getfield 7, 3) := by decide +kernel
theorem dX11_status_48 : decode cX11_status 48 = .ok (.ireturn, 1) := by decide +kernel
theorem dX11_status_49 : decode cX11_status 49 = .ok (.aload_n 0, 1) := by decide +kernel
theorem dX11_status_50 : decode cX11_status 50 = .ok (.invokevirtual 161, 3) := by decide +kernel
theorem dX11_status_53 : decode cX11_status 53 = .ok (.ireturn, 1) := by decide +kernel
theorem dX11_status_54 : decode cX11_status 54 = .ok (.iconst 0, 1) := by decide +kernel
theorem dX11_status_55 : decode cX11_status 55 = .ok (.istore_n 3, 1) := by decide +kernel
theorem dX11_status_56 : decode cX11_status 56 = .ok (.iload_n 3, 1) := by decide +kernel
theorem dX11_status_57 : decode cX11_status 57 = .ok (.sipush 256, 3) := by decide +kernel
theorem dX11_status_60 : decode cX11_status 60 = .ok (.if_icmp .ge 31, 3) := by decide +kernel
theorem dX11_status_63 : decode cX11_status 63 = .ok (.iload_n 2, 1) := by decide +kernel
theorem dX11_status_64 : decode cX11_status 64 = .ok (.aload_n 0, 1) := by decide +kernel
theorem dX11_status_65 : decode cX11_status 65 = .ok (.getfield 13, 3) := by decide +kernel
theorem dX11_status_68 : decode cX11_status 68 = .ok (.iload_n 3, 1) := by decide +kernel
theorem dX11_status_69 : decode cX11_status 69 = .ok (.baload, 1) := by decide +kernel
theorem dX11_status_70 : decode cX11_status 70 = .ok (.ifCond .eq 12, 3) := by decide +kernel
theorem dX11_status_73 : decode cX11_status 73 = .ok (.aload_n 0, 1) := by decide +kernel
theorem dX11_status_74 : decode cX11_status 74 = .ok (.getfield 17, 3) := by decide +kernel
theorem dX11_status_77 : decode cX11_status 77 = .ok (.iload_n 3, 1) := by decide +kernel
theorem dX11_status_78 : decode cX11_status 78 = .ok (.iaload, 1) := by decide +kernel
theorem dX11_status_79 : decode cX11_status 79 = .ok (.goto 4, 3) := by decide +kernel
theorem dX11_status_82 : decode cX11_status 82 = .ok (.iconst 0, 1) := by decide +kernel
theorem dX11_status_83 : decode cX11_status 83 = .ok (.iadd, 1) := by decide +kernel
theorem dX11_status_84 : decode cX11_status 84 = .ok (.istore_n 2, 1) := by decide +kernel
theorem dX11_status_85 : decode cX11_status 85 = .ok (.iinc 3 1, 3) := by decide +kernel
theorem dX11_status_88 : decode cX11_status 88 = .ok (.goto (-32), 3) := by decide +kernel
theorem dX11_status_91 : decode cX11_status 91 = .ok (.iload_n 2, 1) := by decide +kernel
theorem dX11_status_92 : decode cX11_status 92 = .ok (.ireturn, 1) := by decide +kernel
theorem dX11_status_93 : decode cX11_status 93 = .ok (.iconst 0, 1) := by decide +kernel
theorem dX11_status_94 : decode cX11_status 94 = .ok (.istore_n 3, 1) := by decide +kernel
theorem dX11_status_95 : decode cX11_status 95 = .ok (.iload_n 3, 1) := by decide +kernel
theorem dX11_status_96 : decode cX11_status 96 = .ok (.aload_n 0, 1) := by decide +kernel
theorem dX11_status_97 : decode cX11_status 97 = .ok (.getfield 7, 3) := by decide +kernel
theorem dX11_status_100 : decode cX11_status 100 = .ok (.if_icmp .ge 47, 3) := by decide +kernel
theorem dX11_status_103 : decode cX11_status 103 = .ok (.iload_n 3, 1) := by decide +kernel
theorem dX11_status_104 : decode cX11_status 104 = .ok (.iconst 1, 1) := by decide +kernel
theorem dX11_status_105 : decode cX11_status 105 = .ok (.iadd, 1) := by decide +kernel
theorem dX11_status_106 : decode cX11_status 106 = .ok (.istore 4, 2) := by decide +kernel
theorem dX11_status_108 : decode cX11_status 108 = .ok (.iload 4, 2) := by decide +kernel
theorem dX11_status_110 : decode cX11_status 110 = .ok (.aload_n 0, 1) := by decide +kernel
theorem dX11_status_111 : decode cX11_status 111 = .ok (.getfield 7, 3) := by decide +kernel
theorem dX11_status_114 : decode cX11_status 114 = .ok (.if_icmp .ge 27, 3) := by decide +kernel
theorem dX11_status_117 : decode cX11_status 117 = .ok (.iload_n 2, 1) := by decide +kernel
theorem dX11_status_118 : decode cX11_status 118 = .ok (.aload_n 0, 1) := by decide +kernel
theorem dX11_status_119 : decode cX11_status 119 = .ok (.iload_n 3, 1) := by decide +kernel
theorem dX11_status_120 : decode cX11_status 120 = .ok (.iload 4, 2) := by decide +kernel
theorem dX11_status_122 : decode cX11_status 122 = .ok (.invokevirtual 143, 3) := by decide +kernel
theorem dX11_status_125 : decode cX11_status 125 = .ok (.ifCond .eq 7, 3) := by decide +kernel
theorem dX11_status_128 : decode cX11_status 128 = .ok (.iconst 1, 1) := by decide +kernel
theorem dX11_status_129 : decode cX11_status 129 = .ok (.goto 4, 3) := by decide +kernel
theorem dX11_status_132 : decode cX11_status 132 = .ok (.iconst 0, 1) := by decide +kernel
theorem dX11_status_133 : decode cX11_status 133 = .ok (.iadd, 1) := by decide +kernel
theorem dX11_status_134 : decode cX11_status 134 = .ok (.istore_n 2, 1) := by decide +kernel
theorem dX11_status_135 : decode cX11_status 135 = .ok (.iinc 4 1, 3) := by decide +kernel
theorem dX11_status_138 : decode cX11_status 138 = .ok (.goto (-30), 3) := by decide +kernel
theorem dX11_status_141 : decode cX11_status 141 = .ok (.iinc 3 1, 3) := by decide +kernel
theorem dX11_status_144 : decode cX11_status 144 = .ok (.goto (-49), 3) := by decide +kernel
theorem dX11_status_147 : decode cX11_status 147 = .ok (.iload_n 2, 1) := by decide +kernel
theorem dX11_status_148 : decode cX11_status 148 = .ok (.ireturn, 1) := by decide +kernel
theorem dX11_status_149 : decode cX11_status 149 = .ok (.iconst 0, 1) := by decide +kernel
theorem dX11_status_150 : decode cX11_status 150 = .ok (.istore_n 3, 1) := by decide +kernel
theorem dX11_status_151 : decode cX11_status 151 = .ok (.iload_n 3, 1) := by decide +kernel
theorem dX11_status_152 : decode cX11_status 152 = .ok (.iconst 4, 1) := by decide +kernel
theorem dX11_status_153 : decode cX11_status 153 = .ok (.if_icmp .ge 26, 3) := by decide +kernel
theorem dX11_status_156 : decode cX11_status 156 = .ok (.iload_n 2, 1) := by decide +kernel
theorem dX11_status_157 : decode cX11_status 157 = .ok (.aload_n 0, 1) := by decide +kernel
theorem dX11_status_158 : decode cX11_status 158 = .ok (.getfield 27, 3) := by decide +kernel
theorem dX11_status_161 : decode cX11_status 161 = .ok (.iload_n 3, 1) := by decide +kernel
theorem dX11_status_162 : decode cX11_status 162 = .ok (.iaload, 1) := by decide +kernel
theorem dX11_status_163 : decode cX11_status 163 = .ok (.ifCond .le 7, 3) := by decide +kernel
theorem dX11_status_166 : decode cX11_status 166 = .ok (.iconst 1, 1) := by decide +kernel
theorem dX11_status_167 : decode cX11_status 167 = .ok (.goto 4, 3) := by decide +kernel
theorem dX11_status_170 : decode cX11_status 170 = .ok (.iconst 0, 1) := by decide +kernel
theorem dX11_status_171 : decode cX11_status 171 = .ok (.iadd, 1) := by decide +kernel
theorem dX11_status_172 : decode cX11_status 172 = .ok (.istore_n 2, 1) := by decide +kernel
theorem dX11_status_173 : decode cX11_status 173 = .ok (.iinc 3 1, 3) := by decide +kernel
theorem dX11_status_176 : decode cX11_status 176 = .ok (.goto (-25), 3) := by decide +kernel
theorem dX11_status_179 : decode cX11_status 179 = .ok (.iload_n 2, 1) := by decide +kernel
theorem dX11_status_180 : decode cX11_status 180 = .ok (.ireturn, 1) := by decide +kernel
theorem dX11_status_181 : decode cX11_status 181 = .ok (.iconst 1, 1) := by decide +kernel
theorem dX11_status_182 : decode cX11_status 182 = .ok (.istore_n 3, 1) := by decide +kernel
theorem dX11_status_183 : decode cX11_status 183 = .ok (.iload_n 3, 1) := by decide +kernel
theorem dX11_status_184 : decode cX11_status 184 = .ok (.aload_n 0, 1) := by decide +kernel
theorem dX11_status_185 : decode cX11_status 185 = .ok (.getfield 7, 3) := by decide +kernel
theorem dX11_status_188 : decode cX11_status 188 = .ok (.if_icmp .ge 43, 3) := by decide +kernel
theorem dX11_status_191 : decode cX11_status 191 = .ok (.iload_n 2, 1) := by decide +kernel
theorem dX11_status_192 : decode cX11_status 192 = .ok (.iload_n 1, 1) := by decide +kernel
theorem dX11_status_193 : decode cX11_status 193 = .ok (.iconst 5, 1) := by decide +kernel
theorem dX11_status_194 : decode cX11_status 194 = .ok (.if_icmp .ne 15, 3) := by decide +kernel
theorem dX11_status_197 : decode cX11_status 197 = .ok (.aload_n 0, 1) := by decide +kernel
theorem dX11_status_198 : decode cX11_status 198 = .ok (.iconst 0, 1) := by decide +kernel
theorem dX11_status_199 : decode cX11_status 199 = .ok (.iload_n 3, 1) := by decide +kernel
theorem dX11_status_200 : decode cX11_status 200 = .ok (.invokevirtual 96, 3) := by decide +kernel
theorem dX11_status_203 : decode cX11_status 203 = .ok (.ifCond .eq 19, 3) := by decide +kernel
theorem dX11_status_206 : decode cX11_status 206 = .ok (.goto 12, 3) := by decide +kernel
theorem dX11_status_209 : decode cX11_status 209 = .ok (.aload_n 0, 1) := by decide +kernel
theorem dX11_status_210 : decode cX11_status 210 = .ok (.iload_n 3, 1) := by decide +kernel
theorem dX11_status_211 : decode cX11_status 211 = .ok (.iconst 0, 1) := by decide +kernel
theorem dX11_status_212 : decode cX11_status 212 = .ok (.invokevirtual 96, 3) := by decide +kernel
theorem dX11_status_215 : decode cX11_status 215 = .ok (.ifCond .eq 7, 3) := by decide +kernel
theorem dX11_status_218 : decode cX11_status 218 = .ok (.iconst 1, 1) := by decide +kernel
theorem dX11_status_219 : decode cX11_status 219 = .ok (.goto 4, 3) := by decide +kernel
theorem dX11_status_222 : decode cX11_status 222 = .ok (.iconst 0, 1) := by decide +kernel
theorem dX11_status_223 : decode cX11_status 223 = .ok (.iadd, 1) := by decide +kernel
theorem dX11_status_224 : decode cX11_status 224 = .ok (.istore_n 2, 1) := by decide +kernel
theorem dX11_status_225 : decode cX11_status 225 = .ok (.iinc 3 1, 3) := by decide +kernel
theorem dX11_status_228 : decode cX11_status 228 = .ok (.goto (-45), 3) := by decide +kernel
theorem dX11_status_231 : decode cX11_status 231 = .ok (.iload_n 2, 1) := by decide +kernel
theorem dX11_status_232 : decode cX11_status 232 = .ok (.ireturn, 1) := by decide +kernel
theorem dX11_status_233 : decode cX11_status 233 = .ok (.iload_n 1, 1) := by decide +kernel
theorem dX11_status_234 : decode cX11_status 234 = .ok (.bipush 11, 2) := by decide +kernel
theorem dX11_status_236 : decode cX11_status 236 = .ok (.bipush 16, 2) := by decide +kernel
theorem dX11_status_238 : decode cX11_status 238 = .ok (.invokestatic 86, 3) := by decide +kernel
theorem dX11_status_241 : decode cX11_status 241 = .ok (.ifCond .eq 15, 3) := by decide +kernel
theorem dX11_status_244 : decode cX11_status 244 = .ok (.aload_n 0, 1) := by decide +kernel
theorem dX11_status_245 : decode cX11_status 245 = .ok (.getfield 39, 3) := by decide +kernel
theorem dX11_status_248 : decode cX11_status 248 = .ok (.iload_n 1, 1) := by decide +kernel
theorem dX11_status_249 : decode cX11_status 249 = .ok (.bipush 10, 2) := by decide +kernel
theorem dX11_status_251 : decode cX11_status 251 = .ok (.isub, 1) := by decide +kernel
theorem dX11_status_252 : decode cX11_status 252 = .ok (.iaload, 1) := by decide +kernel
theorem dX11_status_253 : decode cX11_status 253 = .ok (.goto 5, 3) := by decide +kernel
theorem dX11_status_256 : decode cX11_status 256 = .ok (.bipush (-9), 2) := by decide +kernel
theorem dX11_status_258 : decode cX11_status 258 = .ok (.ireturn, 1) := by decide +kernel
theorem dJ6_bitCount_0f7a4_0 : decode cJ6_bitCount_0f7a4 0 = .ok (.iload_n 0, 1) := by decide +kernel
theorem dJ6_bitCount_0f7a4_1 : decode cJ6_bitCount_0f7a4 1 = .ok (.iload_n 0, 1) := by decide +kernel
theorem dJ6_bitCount_0f7a4_2 : decode cJ6_bitCount_0f7a4 2 = .ok (.iconst 1, 1) := by decide +kernel
theorem dJ6_bitCount_0f7a4_3 : decode cJ6_bitCount_0f7a4 3 = .ok (.iushr, 1) := by decide +kernel
theorem dJ6_bitCount_0f7a4_4 : decode cJ6_bitCount_0f7a4 4 = .ok (.ldc_w 265, 3) := by decide +kernel
theorem dJ6_bitCount_0f7a4_7 : decode cJ6_bitCount_0f7a4 7 = .ok (.iand, 1) := by decide +kernel
theorem dJ6_bitCount_0f7a4_8 : decode cJ6_bitCount_0f7a4 8 = .ok (.isub, 1) := by decide +kernel
theorem dJ6_bitCount_0f7a4_9 : decode cJ6_bitCount_0f7a4 9 = .ok (.istore_n 0, 1) := by decide +kernel
theorem dJ6_bitCount_0f7a4_10 : decode cJ6_bitCount_0f7a4 10 = .ok (.iload_n 0, 1) := by decide +kernel
theorem dJ6_bitCount_0f7a4_11 : decode cJ6_bitCount_0f7a4 11 = .ok (.ldc_w 266, 3) := by decide +kernel
theorem dJ6_bitCount_0f7a4_14 : decode cJ6_bitCount_0f7a4 14 = .ok (.iand, 1) := by decide +kernel
theorem dJ6_bitCount_0f7a4_15 : decode cJ6_bitCount_0f7a4 15 = .ok (.iload_n 0, 1) := by decide +kernel
theorem dJ6_bitCount_0f7a4_16 : decode cJ6_bitCount_0f7a4 16 = .ok (.iconst 2, 1) := by decide +kernel
theorem dJ6_bitCount_0f7a4_17 : decode cJ6_bitCount_0f7a4 17 = .ok (.iushr, 1) := by decide +kernel
theorem dJ6_bitCount_0f7a4_18 : decode cJ6_bitCount_0f7a4 18 = .ok (.ldc_w 266, 3) := by decide +kernel
theorem dJ6_bitCount_0f7a4_21 : decode cJ6_bitCount_0f7a4 21 = .ok (.iand, 1) := by decide +kernel
theorem dJ6_bitCount_0f7a4_22 : decode cJ6_bitCount_0f7a4 22 = .ok (.iadd, 1) := by decide +kernel
theorem dJ6_bitCount_0f7a4_23 : decode cJ6_bitCount_0f7a4 23 = .ok (.istore_n 0, 1) := by decide +kernel
theorem dJ6_bitCount_0f7a4_24 : decode cJ6_bitCount_0f7a4 24 = .ok (.iload_n 0, 1) := by decide +kernel
theorem dJ6_bitCount_0f7a4_25 : decode cJ6_bitCount_0f7a4 25 = .ok (.iload_n 0, 1) := by decide +kernel
theorem dJ6_bitCount_0f7a4_26 : decode cJ6_bitCount_0f7a4 26 = .ok (.iconst 4, 1) := by decide +kernel
theorem dJ6_bitCount_0f7a4_27 : decode cJ6_bitCount_0f7a4 27 = .ok (.iushr, 1) := by decide +kernel
theorem dJ6_bitCount_0f7a4_28 : decode cJ6_bitCount_0f7a4 28 = .ok (.iadd, 1) := by decide +kernel
theorem dJ6_bitCount_0f7a4_29 : decode cJ6_bitCount_0f7a4 29 = .ok (.ldc_w 267, 3) := by decide +kernel
theorem dJ6_bitCount_0f7a4_32 : decode cJ6_bitCount_0f7a4 32 = .ok (.iand, 1) := by decide +kernel
theorem dJ6_bitCount_0f7a4_33 : decode cJ6_bitCount_0f7a4 33 = .ok (.istore_n 0, 1) := by decide +kernel
theorem dJ6_bitCount_0f7a4_34 : decode cJ6_bitCount_0f7a4 34 = .ok (.iload_n 0, 1) := by decide +kernel
theorem dJ6_bitCount_0f7a4_35 : decode cJ6_bitCount_0f7a4 35 = .ok (.iload_n 0, 1) := by decide +kernel
theorem dJ6_bitCount_0f7a4_36 : decode cJ6_bitCount_0f7a4 36 = .ok (.bipush 8, 2) := by decide +kernel
theorem dJ6_bitCount_0f7a4_38 : decode cJ6_bitCount_0f7a4 38 = .ok (.iushr, 1) := by decide +kernel
theorem dJ6_bitCount_0f7a4_39 : decode cJ6_bitCount_0f7a4 39 = .ok (.iadd, 1) := by decide +kernel
theorem dJ6_bitCount_0f7a4_40 : decode cJ6_bitCount_0f7a4 40 = .ok (.istore_n 0, 1) := by decide +kernel
theorem dJ6_bitCount_0f7a4_41 : decode cJ6_bitCount_0f7a4 41 = .ok (.iload_n 0, 1) := by decide +kernel
theorem dJ6_bitCount_0f7a4_42 : decode cJ6_bitCount_0f7a4 42 = .ok (.iload_n 0, 1) := by decide +kernel
theorem dJ6_bitCount_0f7a4_43 : decode cJ6_bitCount_0f7a4 43 = .ok (.bipush 16, 2) := by decide +kernel
theorem dJ6_bitCount_0f7a4_45 : decode cJ6_bitCount_0f7a4 45 = .ok (.iushr, 1) := by decide +kernel
theorem dJ6_bitCount_0f7a4_46 : decode cJ6_bitCount_0f7a4 46 = .ok (.iadd, 1) := by decide +kernel
theorem dJ6_bitCount_0f7a4_47 : decode cJ6_bitCount_0f7a4 47 = .ok (.istore_n 0, 1) := by decide +kernel
theorem dJ6_bitCount_0f7a4_48 : decode cJ6_bitCount_0f7a4 48 = .ok (.iload_n 0, 1) := by decide +kernel
theorem dJ6_bitCount_0f7a4_49 : decode cJ6_bitCount_0f7a4 49 = .ok (.bipush 63, 2) := by decide +kernel
theorem dJ6_bitCount_0f7a4_51 : decode cJ6_bitCount_0f7a4 51 = .ok (.iand, 1) := by decide +kernel
theorem dJ6_bitCount_0f7a4_52 : decode cJ6_bitCount_0f7a4 52 = .ok (.ireturn, 1) := by decide +kernel
theorem dJ13_compare_74951_0 : decode cJ13_compare_74951 0 = .ok (.lload_n 0, 1) := by decide +kernel
theorem dJ13_compare_74951_1 : decode cJ13_compare_74951 1 = .ok (.lload_n 2, 1) := by decide +kernel
theorem dJ13_compare_74951_2 : decode cJ13_compare_74951 2 = .ok (.lcmp, 1) := by decide +kernel
theorem dJ13_compare_74951_3 : decode cJ13_compare_74951 3 = .ok (.ifCond .ge 7, 3) := by decide +kernel
theorem dJ13_compare_74951_6 : decode cJ13_compare_74951 6 = .ok (.iconst (-1), 1) := by decide +kernel
theorem dJ13_compare_74951_7 : decode cJ13_compare_74951 7 = .ok (.goto 14, 3) := by decide +kernel
theorem dJ13_compare_74951_10 : decode cJ13_compare_74951 10 = .ok (.lload_n 0, 1) := by decide +kernel
theorem dJ13_compare_74951_11 : decode cJ13_compare_74951 11 = .ok (.lload_n 2, 1) := by decide +kernel
theorem dJ13_compare_74951_12 : decode cJ13_compare_74951 12 = .ok (.lcmp, 1) := by decide +kernel
theorem dJ13_compare_74951_13 : decode cJ13_compare_74951 13 = .ok (.ifCond .ne 7, 3) := by decide +kernel
theorem dJ13_compare_74951_16 : decode cJ13_compare_74951 16 = .ok (.iconst 0, 1) := by decide +kernel
theorem dJ13_compare_74951_17 : decode cJ13_compare_74951 17 = .ok (.goto 4, 3) := by decide +kernel
theorem dJ13_compare_74951_20 : decode cJ13_compare_74951 20 = .ok (.iconst 1, 1) := by decide +kernel
theorem dJ13_compare_74951_21 : decode cJ13_compare_74951 21 = .ok (.ireturn, 1) := by decide +kernel
theorem dJ9_abs_0f7a4_0 : decode cJ9_abs_0f7a4 0 = .ok (.iload_n 0, 1) := by decide +kernel
theorem dJ9_abs_0f7a4_1 : decode cJ9_abs_0f7a4 1 = .ok (.ifCond .ge 8, 3) := by decide +kernel
theorem dJ9_abs_0f7a4_4 : decode cJ9_abs_0f7a4 4 = .ok (.iload_n 0, 1) := by decide +kernel
theorem dJ9_abs_0f7a4_5 : decode cJ9_abs_0f7a4 5 = .ok (.ineg, 1) := by decide +kernel
theorem dJ9_abs_0f7a4_6 : decode cJ9_abs_0f7a4 6 = .ok (.goto 4, 3) := by decide +kernel
theorem dJ9_abs_0f7a4_9 : decode cJ9_abs_0f7a4 9 = .ok (.iload_n 0, 1) := by decide +kernel
theorem dJ9_abs_0f7a4_10 : decode cJ9_abs_0f7a4 10 = .ok (.ireturn, 1) := by decide +kernel
theorem dJ9_max_7cf53_0 : decode cJ9_max_7cf53 0 = .ok (.iload_n 0, 1) := by decide +kernel
theorem dJ9_max_7cf53_1 : decode cJ9_max_7cf53 1 = .ok (.iload_n 1, 1) := by decide +kernel
theorem dJ9_max_7cf53_2 : decode cJ9_max_7cf53 2 = .ok (.if_icmp .lt 7, 3) := by decide +kernel
theorem dJ9_max_7cf53_5 : decode cJ9_max_7cf53 5 = .ok (.iload_n 0, 1) := by decide +kernel
theorem dJ9_max_7cf53_6 : decode cJ9_max_7cf53 6 = .ok (.goto 4, 3) := by decide +kernel
theorem dJ9_max_7cf53_9 : decode cJ9_max_7cf53 9 = .ok (.iload_n 1, 1) := by decide +kernel
theorem dJ9_max_7cf53_10 : decode cJ9_max_7cf53 10 = .ok (.ireturn, 1) := by decide +kernel
theorem dJ9_min_7cf53_0 : decode cJ9_min_7cf53 0 = .ok (.iload_n 0, 1) := by decide +kernel
theorem dJ9_min_7cf53_1 : decode cJ9_min_7cf53 1 = .ok (.iload_n 1, 1) := by decide +kernel
theorem dJ9_min_7cf53_2 : decode cJ9_min_7cf53 2 = .ok (.if_icmp .gt 7, 3) := by decide +kernel
theorem dJ9_min_7cf53_5 : decode cJ9_min_7cf53 5 = .ok (.iload_n 0, 1) := by decide +kernel
theorem dJ9_min_7cf53_6 : decode cJ9_min_7cf53 6 = .ok (.goto 4, 3) := by decide +kernel
theorem dJ9_min_7cf53_9 : decode cJ9_min_7cf53 9 = .ok (.iload_n 1, 1) := by decide +kernel
theorem dJ9_min_7cf53_10 : decode cJ9_min_7cf53 10 = .ok (.ireturn, 1) := by decide +kernel
theorem dL_law_0 : decode cL_law 0 = .ok (.new 7, 3) := by decide +kernel
theorem dL_law_3 : decode cL_law 3 = .ok (.dup, 1) := by decide +kernel
theorem dL_law_4 : decode cL_law 4 = .ok (.invokespecial 9, 3) := by decide +kernel
theorem dL_law_7 : decode cL_law 7 = .ok (.astore_n 1, 1) := by decide +kernel
theorem dL_law_8 : decode cL_law 8 = .ok (.new 10, 3) := by decide +kernel
theorem dL_law_11 : decode cL_law 11 = .ok (.dup, 1) := by decide +kernel
theorem dL_law_12 : decode cL_law 12 = .ok (.invokespecial 12, 3) := by decide +kernel
theorem dL_law_15 : decode cL_law 15 = .ok (.astore_n 2, 1) := by decide +kernel
theorem dL_law_16 : decode cL_law 16 = .ok (.iconst 0, 1) := by decide +kernel
theorem dL_law_17 : decode cL_law 17 = .ok (.istore_n 3, 1) := by decide +kernel
theorem dL_law_18 : decode cL_law 18 = .ok (.iload_n 3, 1) := by decide +kernel
theorem dL_law_19 : decode cL_law 19 = .ok (.aload_n 0, 1) := by decide +kernel
theorem dL_law_20 : decode cL_law 20 = .ok (.arraylength, 1) := by decide +kernel
theorem dL_law_21 : decode cL_law 21 = .ok (.iconst 5, 1) := by decide +kernel
theorem dL_law_22 : decode cL_law 22 = .ok (.isub, 1) := by decide +kernel
theorem dL_law_23 : decode cL_law 23 = .ok (.if_icmp .gt 1035, 3) := by decide +kernel
theorem dL_law_26 : decode cL_law 26 = .ok (.aload_n 0, 1) := by decide +kernel
theorem dL_law_27 : decode cL_law 27 = .ok (.iload_n 3, 1) := by decide +kernel
theorem dL_law_28 : decode cL_law 28 = .ok (.iaload, 1) := by decide +kernel
theorem dL_law_29 : decode cL_law 29 = .ok (.bipush 31, 2) := by decide +kernel
theorem dL_law_31 : decode cL_law 31 = .ok (.iand, 1) := by decide +kernel
theorem dL_law_32 : decode cL_law 32 = .ok (.tableswitch 1020 0 28 #[132, 155, 208, 241, 284, 317, 360, 393, 436, 459, 502, 525, 538, 561, 584, 617, 640, 674, 697, 730, 763, 786, 809, 862, 905, 928, 951, 974, 997], 132) := by decide +kernel
end
section
theorem dL_law_164 : decode cL_law 164 = .ok (.aload_n 1, 1) := by decide +kernel
theorem dL_law_165 : decode cL_law 165 = .ok (.aload_n 0, 1) := by decide +kernel
theorem dL_law_166 : decode cL_law 166 = .ok (.iload_n 3, 1) := by decide +kernel
theorem dL_law_167 : decode cL_law 167 = .ok (.iconst 1, 1) := by decide +kernel
theorem dL_law_168 : decode cL_law 168 = .ok (.iadd, 1) := by decide +kernel
theorem dL_law_169 : decode cL_law 169 = .ok (.iaload, 1) := by decide +kernel
theorem dL_law_170 : decode cL_law 170 = .ok (.invokevirtual 13, 3) := by decide +kernel
theorem dL_law_173 : decode cL_law 173 = .ok (.aload_n 2, 1) := by decide +kernel
theorem dL_law_174 : decode cL_law 174 = .ok (.aload_n 0, 1) := by decide +kernel
theorem dL_law_175 : decode cL_law 175 = .ok (.iload_n 3, 1) := by decide +kernel
theorem dL_law_176 : decode cL_law 176 = .ok (.iconst 1, 1) := by decide +kernel
theorem dL_law_177 : decode cL_law 177 = .ok (.iadd, 1) := by decide +kernel
theorem dL_law_178 : decode cL_law 178 = .ok (.iaload, 1) := by decide +kernel
theorem dL_law_179 : decode cL_law 179 = .ok (.invokevirtual 17, 3) := by decide +kernel
theorem dL_law_182 : decode cL_law 182 = .ok (.if_icmp .eq 870, 3) := by decide +kernel
theorem dL_law_185 : decode cL_law 185 = .ok (.iconst 0, 1) := by decide +kernel
theorem dL_law_186 : decode cL_law 186 = .ok (.ireturn, 1) := by decide +kernel
theorem dL_law_187 : decode cL_law 187 = .ok (.aload_n 1, 1) := by decide +kernel
theorem dL_law_188 : decode cL_law 188 = .ok (.aload_n 0, 1) := by decide +kernel
theorem dL_law_189 : decode cL_law 189 = .ok (.iload_n 3, 1) := by decide +kernel
theorem dL_law_190 : decode cL_law 190 = .ok (.iconst 1, 1) := by decide +kernel
theorem dL_law_191 : decode cL_law 191 = .ok (.iadd, 1) := by decide +kernel
theorem dL_law_192 : decode cL_law 192 = .ok (.iaload, 1) := by decide +kernel
theorem dL_law_193 : decode cL_law 193 = .ok (.aload_n 0, 1) := by decide +kernel
theorem dL_law_194 : decode cL_law 194 = .ok (.iload_n 3, 1) := by decide +kernel
theorem dL_law_195 : decode cL_law 195 = .ok (.iconst 2, 1) := by decide +kernel
theorem dL_law_196 : decode cL_law 196 = .ok (.iadd, 1) := by decide +kernel
theorem dL_law_197 : decode cL_law 197 = .ok (.iaload, 1) := by decide +kernel
theorem dL_law_198 : decode cL_law 198 = .ok (.aload_n 0, 1) := by decide +kernel
theorem dL_law_199 : decode cL_law 199 = .ok (.iload_n 3, 1) := by decide +kernel
theorem dL_law_200 : decode cL_law 200 = .ok (.iconst 3, 1) := by decide +kernel
theorem dL_law_201 : decode cL_law 201 = .ok (.iadd, 1) := by decide +kernel
theorem dL_law_202 : decode cL_law 202 = .ok (.iaload, 1) := by decide +kernel
theorem dL_law_203 : decode cL_law 203 = .ok (.aload_n 0, 1) := by decide +kernel
theorem dL_law_204 : decode cL_law 204 = .ok (.iload_n 3, 1) := by decide +kernel
theorem dL_law_205 : decode cL_law 205 = .ok (.iconst 4, 1) := by decide +kernel
theorem dL_law_206 : decode cL_law 206 = .ok (.iadd, 1) := by decide +kernel
theorem dL_law_207 : decode cL_law 207 = .ok (.iaload, 1) := by decide +kernel
theorem dL_law_208 : decode cL_law 208 = .ok (.invokevirtual 18, 3) := by decide +kernel
theorem dL_law_211 : decode cL_law 211 = .ok (.aload_n 2, 1) := by decide +kernel
theorem dL_law_212 : decode cL_law 212 = .ok (.aload_n 0, 1) := by decide +kernel
theorem dL_law_213 : decode cL_law 213 = .ok (.iload_n 3, 1) := by decide +kernel
theorem dL_law_214 : decode cL_law 214 = .ok (.iconst 1, 1) := by decide +kernel
theorem dL_law_215 : decode cL_law 215 = .ok (.iadd, 1) := by decide +kernel
theorem dL_law_216 : decode cL_law 216 = .ok (.iaload, 1) := by decide +kernel
theorem dL_law_217 : decode cL_law 217 = .ok (.aload_n 0, 1) := by decide +kernel
theorem dL_law_218 : decode cL_law 218 = .ok (.iload_n 3, 1) := by decide +kernel
theorem dL_law_219 : decode cL_law 219 = .ok (.iconst 2, 1) := by decide +kernel
theorem dL_law_220 : decode cL_law 220 = .ok (.iadd, 1) := by decide +kernel
theorem dL_law_221 : decode cL_law 221 = .ok (.iaload, 1) := by decide +kernel
theorem dL_law_222 : decode cL_law 222 = .ok (.aload_n 0, 1) := by decide +kernel
theorem dL_law_223 : decode cL_law 223 = .ok (.iload_n 3, 1) := by decide +kernel
theorem dL_law_224 : decode cL_law 224 = .ok (.iconst 3, 1) := by decide +kernel
theorem dL_law_225 : decode cL_law 225 = .ok (.iadd, 1) := by decide +kernel
theorem dL_law_226 : decode cL_law 226 = .ok (.iaload, 1) := by decide +kernel
theorem dL_law_227 : decode cL_law 227 = .ok (.aload_n 0, 1) := by decide +kernel
theorem dL_law_228 : decode cL_law 228 = .ok (.iload_n 3, 1) := by decide +kernel
theorem dL_law_229 : decode cL_law 229 = .ok (.iconst 4, 1) := by decide +kernel
theorem dL_law_230 : decode cL_law 230 = .ok (.iadd, 1) := by decide +kernel
theorem dL_law_231 : decode cL_law 231 = .ok (.iaload, 1) := by decide +kernel
theorem dL_law_232 : decode cL_law 232 = .ok (.invokevirtual 22, 3) := by decide +kernel
theorem dL_law_235 : decode cL_law 235 = .ok (.if_icmp .eq 817, 3) := by decide +kernel
theorem dL_law_238 : decode cL_law 238 = .ok (.iconst 0, 1) := by decide +kernel
theorem dL_law_239 : decode cL_law 239 = .ok (.ireturn, 1) := by decide +kernel
theorem dL_law_240 : decode cL_law 240 = .ok (.aload_n 1, 1) := by decide +kernel
theorem dL_law_241 : decode cL_law 241 = .ok (.aload_n 0, 1) := by decide +kernel
theorem dL_law_242 : decode cL_law 242 = .ok (.iload_n 3, 1) := by decide +kernel
theorem dL_law_243 : decode cL_law 243 = .ok (.iconst 1, 1) := by decide +kernel
theorem dL_law_244 : decode cL_law 244 = .ok (.iadd, 1) := by decide +kernel
theorem dL_law_245 : decode cL_law 245 = .ok (.iaload, 1) := by decide +kernel
theorem dL_law_246 : decode cL_law 246 = .ok (.aload_n 0, 1) := by decide +kernel
theorem dL_law_247 : decode cL_law 247 = .ok (.iload_n 3, 1) := by decide +kernel
theorem dL_law_248 : decode cL_law 248 = .ok (.iconst 2, 1) := by decide +kernel
theorem dL_law_249 : decode cL_law 249 = .ok (.iadd, 1) := by decide +kernel
theorem dL_law_250 : decode cL_law 250 = .ok (.iaload, 1) := by decide +kernel
theorem dL_law_251 : decode cL_law 251 = .ok (.invokevirtual 23, 3) := by decide +kernel
theorem dL_law_254 : decode cL_law 254 = .ok (.aload_n 2, 1) := by decide +kernel
theorem dL_law_255 : decode cL_law 255 = .ok (.aload_n 0, 1) := by decide +kernel
theorem dL_law_256 : decode cL_law 256 = .ok (.iload_n 3, 1) := by decide +kernel
theorem dL_law_257 : decode cL_law 257 = .ok (.iconst 1, 1) := by decide +kernel
theorem dL_law_258 : decode cL_law 258 = .ok (.iadd, 1) := by decide +kernel
theorem dL_law_259 : decode cL_law 259 = .ok (.iaload, 1) := by decide +kernel
theorem dL_law_260 : decode cL_law 260 = .ok (.aload_n 0, 1) := by decide +kernel
theorem dL_law_261 : decode cL_law 261 = .ok (.iload_n 3, 1) := by decide +kernel
theorem dL_law_262 : decode cL_law 262 = .ok (.iconst 2, 1) := by decide +kernel
theorem dL_law_263 : decode cL_law 263 = .ok (.iadd, 1) := by decide +kernel
theorem dL_law_264 : decode cL_law 264 = .ok (.iaload, 1) := by decide +kernel
theorem dL_law_265 : decode cL_law 265 = .ok (.invokevirtual 27, 3) := by decide +kernel
theorem dL_law_268 : decode cL_law 268 = .ok (.if_icmp .eq 784, 3) := by decide +kernel
theorem dL_law_271 : decode cL_law 271 = .ok (.iconst 0, 1) := by decide +kernel
theorem dL_law_272 : decode cL_law 272 = .ok (.ireturn, 1) := by decide +kernel
theorem dL_law_273 : decode cL_law 273 = .ok (.aload_n 1, 1) := by decide +kernel
theorem dL_law_274 : decode cL_law 274 = .ok (.aload_n 0, 1) := by decide +kernel
theorem dL_law_275 : decode cL_law 275 = .ok (.iload_n 3, 1) := by decide +kernel
theorem dL_law_276 : decode cL_law 276 = .ok (.iconst 1, 1) := by decide +kernel
theorem dL_law_277 : decode cL_law 277 = .ok (.iadd, 1) := by decide +kernel
theorem dL_law_278 : decode cL_law 278 = .ok (.iaload, 1) := by decide +kernel
theorem dL_law_279 : decode cL_law 279 = .ok (.aload_n 0, 1) := by decide +kernel
theorem dL_law_280 : decode cL_law 280 = .ok (.iload_n 3, 1) := by decide +kernel
theorem dL_law_281 : decode cL_law 281 = .ok (.iconst 2, 1) := by decide +kernel
theorem dL_law_282 : decode cL_law 282 = .ok (.iadd, 1) := by decide +kernel
theorem dL_law_283 : decode cL_law 283 = .ok (.iaload, 1) := by decide +kernel
theorem dL_law_284 : decode cL_law 284 = .ok (.aload_n 0, 1) := by decide +kernel
theorem dL_law_285 : decode cL_law 285 = .ok (.iload_n 3, 1) := by decide +kernel
theorem dL_law_286 : decode cL_law 286 = .ok (.iconst 3, 1) := by decide +kernel
theorem dL_law_287 : decode cL_law 287 = .ok (.iadd, 1) := by decide +kernel
theorem dL_law_288 : decode cL_law 288 = .ok (.iaload, 1) := by decide +kernel
theorem dL_law_289 : decode cL_law 289 = .ok (.invokevirtual 28, 3) := by decide +kernel
theorem dL_law_292 : decode cL_law 292 = .ok (.aload_n 2, 1) := by decide +kernel
theorem dL_law_293 : decode cL_law 293 = .ok (.aload_n 0, 1) := by decide +kernel
theorem dL_law_294 : decode cL_law 294 = .ok (.iload_n 3, 1) := by decide +kernel
theorem dL_law_295 : decode cL_law 295 = .ok (.iconst 1, 1) := by decide +kernel
theorem dL_law_296 : decode cL_law 296 = .ok (.iadd, 1) := by decide +kernel
theorem dL_law_297 : decode cL_law 297 = .ok (.iaload, 1) := by decide +kernel
theorem dL_law_298 : decode cL_law 298 = .ok (.aload_n 0, 1) := by decide +kernel
theorem dL_law_299 : decode cL_law 299 = .ok (.iload_n 3, 1) := by decide +kernel
theorem dL_law_300 : decode cL_law 300 = .ok (.iconst 2, 1) := by decide +kernel
theorem dL_law_301 : decode cL_law 301 = .ok (.iadd, 1) := by decide +kernel
theorem dL_law_302 : decode cL_law 302 = .ok (.iaload, 1) := by decide +kernel
theorem dL_law_303 : decode cL_law 303 = .ok (.aload_n 0, 1) := by decide +kernel
theorem dL_law_304 : decode cL_law 304 = .ok (.iload_n 3, 1) := by decide +kernel
theorem dL_law_305 : decode cL_law 305 = .ok (.iconst 3, 1) := by decide +kernel
theorem dL_law_306 : decode cL_law 306 = .ok (.iadd, 1) := by decide +kernel
theorem dL_law_307 : decode cL_law 307 = .ok (.iaload, 1) := by decide +kernel
theorem dL_law_308 : decode cL_law 308 = .ok (.invokevirtual 32, 3) := by decide +kernel
theorem dL_law_311 : decode cL_law 311 = .ok (.if_icmp .eq 741, 3) := by decide +kernel
theorem dL_law_314 : decode cL_law 314 = .ok (.iconst 0, 1) := by decide +kernel
theorem dL_law_315 : decode cL_law 315 = .ok (.ireturn, 1) := by decide +kernel
theorem dL_law_316 : decode cL_law 316 = .ok (.aload_n 1, 1) := by decide +kernel
theorem dL_law_317 : decode cL_law 317 = .ok (.aload_n 0, 1) := by decide +kernel
theorem dL_law_318 : decode cL_law 318 = .ok (.iload_n 3, 1) := by decide +kernel
theorem dL_law_319 : decode cL_law 319 = .ok (.iconst 1, 1) := by decide +kernel
theorem dL_law_320 : decode cL_law 320 = .ok (.iadd, 1) := by decide +kernel
theorem dL_law_321 : decode cL_law 321 = .ok (.iaload, 1) := by decide +kernel
theorem dL_law_322 : decode cL_law 322 = .ok (.aload_n 0, 1) := by decide +kernel
theorem dL_law_323 : decode cL_law 323 = .ok (.iload_n 3, 1) := by decide +kernel
theorem dL_law_324 : decode cL_law 324 = .ok (.iconst 2, 1) := by decide +kernel
theorem dL_law_325 : decode cL_law 325 = .ok (.iadd, 1) := by decide +kernel
theorem dL_law_326 : decode cL_law 326 = .ok (.iaload, 1) := by decide +kernel
theorem dL_law_327 : decode cL_law 327 = .ok (.invokevirtual 33, 3) := by decide +kernel
theorem dL_law_330 : decode cL_law 330 = .ok (.aload_n 2, 1) := by decide +kernel
theorem dL_law_331 : decode cL_law 331 = .ok (.aload_n 0, 1) := by decide +kernel
theorem dL_law_332 : decode cL_law 332 = .ok (.iload_n 3, 1) := by decide +kernel
theorem dL_law_333 : decode cL_law 333 = .ok (.iconst 1, 1) := by decide +kernel
theorem dL_law_334 : decode cL_law 334 = .ok (.iadd, 1) := by decide +kernel
theorem dL_law_335 : decode cL_law 335 = .ok (.iaload, 1) := by decide +kernel
theorem dL_law_336 : decode cL_law 336 = .ok (.aload_n 0, 1) := by decide +kernel
theorem dL_law_337 : decode cL_law 337 = .ok (.iload_n 3, 1) := by decide +kernel
theorem dL_law_338 : decode cL_law 338 = .ok (.iconst 2, 1) := by decide +kernel
theorem dL_law_339 : decode cL_law 339 = .ok (.iadd, 1) := by decide +kernel
theorem dL_law_340 : decode cL_law 340 = .ok (.iaload, 1) := by decide +kernel
theorem dL_law_341 : decode cL_law 341 = .ok (.invokevirtual 36, 3) := by decide +kernel
theorem dL_law_344 : decode cL_law 344 = .ok (.if_icmp .eq 708, 3) := by decide +kernel
theorem dL_law_347 : decode cL_law 347 = .ok (.iconst 0, 1) := by decide +kernel
theorem dL_law_348 : decode cL_law 348 = .ok (.ireturn, 1) := by decide +kernel
theorem dL_law_349 : decode cL_law 349 = .ok (.aload_n 1, 1) := by decide +kernel
theorem dL_law_350 : decode cL_law 350 = .ok (.aload_n 0, 1) := by decide +kernel
theorem dL_law_351 : decode cL_law 351 = .ok (.iload_n 3, 1) := by decide +kernel
theorem dL_law_352 : decode cL_law 352 = .ok (.iconst 1, 1) := by decide +kernel
theorem dL_law_353 : decode cL_law 353 = .ok (.iadd, 1) := by decide +kernel
theorem dL_law_354 : decode cL_law 354 = .ok (.iaload, 1) := by decide +kernel
theorem dL_law_355 : decode cL_law 355 = .ok (.aload_n 0, 1) := by decide +kernel
theorem dL_law_356 : decode cL_law 356 = .ok (.iload_n 3, 1) := by decide +kernel
theorem dL_law_357 : decode cL_law 357 = .ok (.iconst 2, 1) := by decide +kernel
theorem dL_law_358 : decode cL_law 358 = .ok (.iadd, 1) := by decide +kernel
theorem dL_law_359 : decode cL_law 359 = .ok (.iaload, 1) := by decide +kernel
theorem dL_law_360 : decode cL_law 360 = .ok (.aload_n 0, 1) := by decide +kernel
theorem dL_law_361 : decode cL_law 361 = .ok (.iload_n 3, 1) := by decide +kernel
theorem dL_law_362 : decode cL_law 362 = .ok (.iconst 3, 1) := by decide +kernel
theorem dL_law_363 : decode cL_law 363 = .ok (.iadd, 1) := by decide +kernel
theorem dL_law_364 : decode cL_law 364 = .ok (.iaload, 1) := by decide +kernel
theorem dL_law_365 : decode cL_law 365 = .ok (.invokevirtual 37, 3) := by decide +kernel
theorem dL_law_368 : decode cL_law 368 = .ok (.aload_n 2, 1) := by decide +kernel
theorem dL_law_369 : decode cL_law 369 = .ok (.aload_n 0, 1) := by decide +kernel
theorem dL_law_370 : decode cL_law 370 = .ok (.iload_n 3, 1) := by decide +kernel
theorem dL_law_371 : decode cL_law 371 = .ok (.iconst 1, 1) := by decide +kernel
theorem dL_law_372 : decode cL_law 372 = .ok (.iadd, 1) := by decide +kernel
theorem dL_law_373 : decode cL_law 373 = .ok (.iaload, 1) := by decide +kernel
theorem dL_law_374 : decode cL_law 374 = .ok (.aload_n 0, 1) := by decide +kernel
theorem dL_law_375 : decode cL_law 375 = .ok (.iload_n 3, 1) := by decide +kernel
theorem dL_law_376 : decode cL_law 376 = .ok (.iconst 2, 1) := by decide +kernel
theorem dL_law_377 : decode cL_law 377 = .ok (.iadd, 1) := by decide +kernel
theorem dL_law_378 : decode cL_law 378 = .ok (.iaload, 1) := by decide +kernel
theorem dL_law_379 : decode cL_law 379 = .ok (.aload_n 0, 1) := by decide +kernel
theorem dL_law_380 : decode cL_law 380 = .ok (.iload_n 3, 1) := by decide +kernel
theorem dL_law_381 : decode cL_law 381 = .ok (.iconst 3, 1) := by decide +kernel
theorem dL_law_382 : decode cL_law 382 = .ok (.iadd, 1) := by decide +kernel
theorem dL_law_383 : decode cL_law 383 = .ok (.iaload, 1) := by decide +kernel
theorem dL_law_384 : decode cL_law 384 = .ok (.invokevirtual 40, 3) := by decide +kernel
theorem dL_law_387 : decode cL_law 387 = .ok (.if_icmp .eq 665, 3) := by decide +kernel
theorem dL_law_390 : decode cL_law 390 = .ok (.iconst 0, 1) := by decide +kernel
theorem dL_law_391 : decode cL_law 391 = .ok (.ireturn, 1) := by decide +kernel
theorem dL_law_392 : decode cL_law 392 = .ok (.aload_n 1, 1) := by decide +kernel
theorem dL_law_393 : decode cL_law 393 = .ok (.aload_n 0, 1) := by decide +kernel
theorem dL_law_394 : decode cL_law 394 = .ok (.iload_n 3, 1) := by decide +kernel
theorem dL_law_395 : decode cL_law 395 = .ok (.iconst 1, 1) := by decide +kernel
theorem dL_law_396 : decode cL_law 396 = .ok (.iadd, 1) := by decide +kernel
theorem dL_law_397 : decode cL_law 397 = .ok (.iaload, 1) := by decide +kernel
theorem dL_law_398 : decode cL_law 398 = .ok (.aload_n 0, 1) := by decide +kernel
theorem dL_law_399 : decode cL_law 399 = .ok (.iload_n 3, 1) := by decide +kernel
theorem dL_law_400 : decode cL_law 400 = .ok (.iconst 2, 1) := by decide +kernel
theorem dL_law_401 : decode cL_law 401 = .ok (.iadd, 1) := by decide +kernel
theorem dL_law_402 : decode cL_law 402 = .ok (.iaload, 1) := by decide +kernel
theorem dL_law_403 : decode cL_law 403 = .ok (.invokevirtual 41, 3) := by decide +kernel
theorem dL_law_406 : decode cL_law 406 = .ok (.aload_n 2, 1) := by decide +kernel
theorem dL_law_407 : decode cL_law 407 = .ok (.aload_n 0, 1) := by decide +kernel
theorem dL_law_408 : decode cL_law 408 = .ok (.iload_n 3, 1) := by decide +kernel
theorem dL_law_409 : decode cL_law 409 = .ok (.iconst 1, 1) := by decide +kernel
theorem dL_law_410 : decode cL_law 410 = .ok (.iadd, 1) := by decide +kernel
theorem dL_law_411 : decode cL_law 411 = .ok (.iaload, 1) := by decide +kernel
theorem dL_law_412 : decode cL_law 412 = .ok (.aload_n 0, 1) := by decide +kernel
theorem dL_law_413 : decode cL_law 413 = .ok (.iload_n 3, 1) := by decide +kernel
theorem dL_law_414 : decode cL_law 414 = .ok (.iconst 2, 1) := by decide +kernel
theorem dL_law_415 : decode cL_law 415 = .ok (.iadd, 1) := by decide +kernel
theorem dL_law_416 : decode cL_law 416 = .ok (.iaload, 1) := by decide +kernel
theorem dL_law_417 : decode cL_law 417 = .ok (.invokevirtual 44, 3) := by decide +kernel
theorem dL_law_420 : decode cL_law 420 = .ok (.if_icmp .eq 632, 3) := by decide +kernel
theorem dL_law_423 : decode cL_law 423 = .ok (.iconst 0, 1) := by decide +kernel
theorem dL_law_424 : decode cL_law 424 = .ok (.ireturn, 1) := by decide +kernel
theorem dL_law_425 : decode cL_law 425 = .ok (.aload_n 1, 1) := by decide +kernel
theorem dL_law_426 : decode cL_law 426 = .ok (.aload_n 0, 1) := by decide +kernel
theorem dL_law_427 : decode cL_law 427 = .ok (.iload_n 3, 1) := by decide +kernel
theorem dL_law_428 : decode cL_law 428 = .ok (.iconst 1, 1) := by decide +kernel
theorem dL_law_429 : decode cL_law 429 = .ok (.iadd, 1) := by decide +kernel
theorem dL_law_430 : decode cL_law 430 = .ok (.iaload, 1) := by decide +kernel
theorem dL_law_431 : decode cL_law 431 = .ok (.aload_n 0, 1) := by decide +kernel
theorem dL_law_432 : decode cL_law 432 = .ok (.iload_n 3, 1) := by decide +kernel
theorem dL_law_433 : decode cL_law 433 = .ok (.iconst 2, 1) := by decide +kernel
theorem dL_law_434 : decode cL_law 434 = .ok (.iadd, 1) := by decide +kernel
theorem dL_law_435 : decode cL_law 435 = .ok (.iaload, 1) := by decide +kernel
theorem dL_law_436 : decode cL_law 436 = .ok (.aload_n 0, 1) := by decide +kernel
theorem dL_law_437 : decode cL_law 437 = .ok (.iload_n 3, 1) := by decide +kernel
theorem dL_law_438 : decode cL_law 438 = .ok (.iconst 3, 1) := by decide +kernel
theorem dL_law_439 : decode cL_law 439 = .ok (.iadd, 1) := by decide +kernel
theorem dL_law_440 : decode cL_law 440 = .ok (.iaload, 1) := by decide +kernel
theorem dL_law_441 : decode cL_law 441 = .ok (.invokevirtual 45, 3) := by decide +kernel
theorem dL_law_444 : decode cL_law 444 = .ok (.aload_n 2, 1) := by decide +kernel
theorem dL_law_445 : decode cL_law 445 = .ok (.aload_n 0, 1) := by decide +kernel
theorem dL_law_446 : decode cL_law 446 = .ok (.iload_n 3, 1) := by decide +kernel
theorem dL_law_447 : decode cL_law 447 = .ok (.iconst 1, 1) := by decide +kernel
theorem dL_law_448 : decode cL_law 448 = .ok (.iadd, 1) := by decide +kernel
theorem dL_law_449 : decode cL_law 449 = .ok (.iaload, 1) := by decide +kernel
theorem dL_law_450 : decode cL_law 450 = .ok (.aload_n 0, 1) := by decide +kernel
theorem dL_law_451 : decode cL_law 451 = .ok (.iload_n 3, 1) := by decide +kernel
theorem dL_law_452 : decode cL_law 452 = .ok (.iconst 2, 1) := by decide +kernel
theorem dL_law_453 : decode cL_law 453 = .ok (.iadd, 1) := by decide +kernel
theorem dL_law_454 : decode cL_law 454 = .ok (.iaload, 1) := by decide +kernel
theorem dL_law_455 : decode cL_law 455 = .ok (.aload_n 0, 1) := by decide +kernel
theorem dL_law_456 : decode cL_law 456 = .ok (.iload_n 3, 1) := by decide +kernel
theorem dL_law_457 : decode cL_law 457 = .ok (.iconst 3, 1) := by decide +kernel
theorem dL_law_458 : decode cL_law 458 = .ok (.iadd, 1) := by decide +kernel
theorem dL_law_459 : decode cL_law 459 = .ok (.iaload, 1) := by decide +kernel
theorem dL_law_460 : decode cL_law 460 = .ok (.invokevirtual 48, 3) := by decide +kernel
theorem dL_law_463 : decode cL_law 463 = .ok (.if_icmp .eq 589, 3) := by decide +kernel
theorem dL_law_466 : decode cL_law 466 = .ok (.iconst 0, 1) := by decide +kernel
theorem dL_law_467 : decode cL_law 467 = .ok (.ireturn, 1) := by decide +kernel
theorem dL_law_468 : decode cL_law 468 = .ok (.aload_n 1, 1) := by decide +kernel
theorem dL_law_469 : decode cL_law 469 = .ok (.aload_n 0, 1) := by decide +kernel
theorem dL_law_470 : decode cL_law 470 = .ok (.iload_n 3, 1) := by decide +kernel
theorem dL_law_471 : decode cL_law 471 = .ok (.iconst 1, 1) := by decide +kernel
theorem dL_law_472 : decode cL_law 472 = .ok (.iadd, 1) := by decide +kernel
theorem dL_law_473 : decode cL_law 473 = .ok (.iaload, 1) := by decide +kernel
theorem dL_law_474 : decode cL_law 474 = .ok (.invokevirtual 49, 3) := by decide +kernel
theorem dL_law_477 : decode cL_law 477 = .ok (.aload_n 2, 1) := by decide +kernel
theorem dL_law_478 : decode cL_law 478 = .ok (.aload_n 0, 1) := by decide +kernel
theorem dL_law_479 : decode cL_law 479 = .ok (.iload_n 3, 1) := by decide +kernel
theorem dL_law_480 : decode cL_law 480 = .ok (.iconst 1, 1) := by decide +kernel
theorem dL_law_481 : decode cL_law 481 = .ok (.iadd, 1) := by decide +kernel
theorem dL_law_482 : decode cL_law 482 = .ok (.iaload, 1) := by decide +kernel
theorem dL_law_483 : decode cL_law 483 = .ok (.invokevirtual 52, 3) := by decide +kernel
theorem dL_law_486 : decode cL_law 486 = .ok (.if_icmp .eq 566, 3) := by decide +kernel
theorem dL_law_489 : decode cL_law 489 = .ok (.iconst 0, 1) := by decide +kernel
theorem dL_law_490 : decode cL_law 490 = .ok (.ireturn, 1) := by decide +kernel
theorem dL_law_491 : decode cL_law 491 = .ok (.aload_n 1, 1) := by decide +kernel
theorem dL_law_492 : decode cL_law 492 = .ok (.aload_n 0, 1) := by decide +kernel
theorem dL_law_493 : decode cL_law 493 = .ok (.iload_n 3, 1) := by decide +kernel
theorem dL_law_494 : decode cL_law 494 = .ok (.iconst 1, 1) := by decide +kernel
theorem dL_law_495 : decode cL_law 495 = .ok (.iadd, 1) := by decide +kernel
theorem dL_law_496 : decode cL_law 496 = .ok (.iaload, 1) := by decide +kernel
theorem dL_law_497 : decode cL_law 497 = .ok (.aload_n 0, 1) := by decide +kernel
theorem dL_law_498 : decode cL_law 498 = .ok (.iload_n 3, 1) := by decide +kernel
theorem dL_law_499 : decode cL_law 499 = .ok (.iconst 2, 1) := by decide +kernel
theorem dL_law_500 : decode cL_law 500 = .ok (.iadd, 1) := by decide +kernel
theorem dL_law_501 : decode cL_law 501 = .ok (.iaload, 1) := by decide +kernel
theorem dL_law_502 : decode cL_law 502 = .ok (.aload_n 0, 1) := by decide +kernel
theorem dL_law_503 : decode cL_law 503 = .ok (.iload_n 3, 1) := by decide +kernel
theorem dL_law_504 : decode cL_law 504 = .ok (.iconst 3, 1) := by decide +kernel
theorem dL_law_505 : decode cL_law 505 = .ok (.iadd, 1) := by decide +kernel
theorem dL_law_506 : decode cL_law 506 = .ok (.iaload, 1) := by decide +kernel
theorem dL_law_507 : decode cL_law 507 = .ok (.invokevirtual 53, 3) := by decide +kernel
theorem dL_law_510 : decode cL_law 510 = .ok (.aload_n 2, 1) := by decide +kernel
theorem dL_law_511 : decode cL_law 511 = .ok (.aload_n 0, 1) := by decide +kernel
theorem dL_law_512 : decode cL_law 512 = .ok (.iload_n 3, 1) := by decide +kernel
theorem dL_law_513 : decode cL_law 513 = .ok (.iconst 1, 1) := by decide +kernel
theorem dL_law_514 : decode cL_law 514 = .ok (.iadd, 1) := by decide +kernel
theorem dL_law_515 : decode cL_law 515 = .ok (.iaload, 1) := by decide +kernel
theorem dL_law_516 : decode cL_law 516 = .ok (.aload_n 0, 1) := by decide +kernel
theorem dL_law_517 : decode cL_law 517 = .ok (.iload_n 3, 1) := by decide +kernel
theorem dL_law_518 : decode cL_law 518 = .ok (.iconst 2, 1) := by decide +kernel
theorem dL_law_519 : decode cL_law 519 = .ok (.iadd, 1) := by decide +kernel
theorem dL_law_520 : decode cL_law 520 = .ok (.iaload, 1) := by decide +kernel
theorem dL_law_521 : decode cL_law 521 = .ok (.aload_n 0, 1) := by decide +kernel
theorem dL_law_522 : decode cL_law 522 = .ok (.iload_n 3, 1) := by decide +kernel
theorem dL_law_523 : decode cL_law 523 = .ok (.iconst 3, 1) := by decide +kernel
theorem dL_law_524 : decode cL_law 524 = .ok (.iadd, 1) := by decide +kernel
theorem dL_law_525 : decode cL_law 525 = .ok (.iaload, 1) := by decide +kernel
theorem dL_law_526 : decode cL_law 526 = .ok (.invokevirtual 56, 3) := by decide +kernel
theorem dL_law_529 : decode cL_law 529 = .ok (.if_icmp .eq 523, 3) := by decide +kernel
theorem dL_law_532 : decode cL_law 532 = .ok (.iconst 0, 1) := by decide +kernel
theorem dL_law_533 : decode cL_law 533 = .ok (.ireturn, 1) := by decide +kernel
theorem dL_law_534 : decode cL_law 534 = .ok (.aload_n 1, 1) := by decide +kernel
theorem dL_law_535 : decode cL_law 535 = .ok (.aload_n 0, 1) := by decide +kernel
theorem dL_law_536 : decode cL_law 536 = .ok (.iload_n 3, 1) := by decide +kernel
theorem dL_law_537 : decode cL_law 537 = .ok (.iconst 1, 1) := by decide +kernel
theorem dL_law_538 : decode cL_law 538 = .ok (.iadd, 1) := by decide +kernel
theorem dL_law_539 : decode cL_law 539 = .ok (.iaload, 1) := by decide +kernel
theorem dL_law_540 : decode cL_law 540 = .ok (.invokevirtual 57, 3) := by decide +kernel
theorem dL_law_543 : decode cL_law 543 = .ok (.aload_n 2, 1) := by decide +kernel
theorem dL_law_544 : decode cL_law 544 = .ok (.aload_n 0, 1) := by decide +kernel
theorem dL_law_545 : decode cL_law 545 = .ok (.iload_n 3, 1) := by decide +kernel
theorem dL_law_546 : decode cL_law 546 = .ok (.iconst 1, 1) := by decide +kernel
theorem dL_law_547 : decode cL_law 547 = .ok (.iadd, 1) := by decide +kernel
theorem dL_law_548 : decode cL_law 548 = .ok (.iaload, 1) := by decide +kernel
theorem dL_law_549 : decode cL_law 549 = .ok (.invokevirtual 60, 3) := by decide +kernel
theorem dL_law_552 : decode cL_law 552 = .ok (.if_icmp .eq 500, 3) := by decide +kernel
theorem dL_law_555 : decode cL_law 555 = .ok (.iconst 0, 1) := by decide +kernel
theorem dL_law_556 : decode cL_law 556 = .ok (.ireturn, 1) := by decide +kernel
theorem dL_law_557 : decode cL_law 557 = .ok (.aload_n 1, 1) := by decide +kernel
theorem dL_law_558 : decode cL_law 558 = .ok (.invokevirtual 61, 3) := by decide +kernel
theorem dL_law_561 : decode cL_law 561 = .ok (.aload_n 2, 1) := by decide +kernel
theorem dL_law_562 : decode cL_law 562 = .ok (.invokevirtual 65, 3) := by decide +kernel
theorem dL_law_565 : decode cL_law 565 = .ok (.if_icmp .eq 487, 3) := by decide +kernel
theorem dL_law_568 : decode cL_law 568 = .ok (.iconst 0, 1) := by decide +kernel
theorem dL_law_569 : decode cL_law 569 = .ok (.ireturn, 1) := by decide +kernel
theorem dL_law_570 : decode cL_law 570 = .ok (.aload_n 1, 1) := by decide +kernel
theorem dL_law_571 : decode cL_law 571 = .ok (.aload_n 0, 1) := by decide +kernel
theorem dL_law_572 : decode cL_law 572 = .ok (.iload_n 3, 1) := by decide +kernel
theorem dL_law_573 : decode cL_law 573 = .ok (.iconst 1, 1) := by decide +kernel
theorem dL_law_574 : decode cL_law 574 = .ok (.iadd, 1) := by decide +kernel
theorem dL_law_575 : decode cL_law 575 = .ok (.iaload, 1) := by decide +kernel
theorem dL_law_576 : decode cL_law 576 = .ok (.invokevirtual 66, 3) := by decide +kernel
theorem dL_law_579 : decode cL_law 579 = .ok (.aload_n 2, 1) := by decide +kernel
theorem dL_law_580 : decode cL_law 580 = .ok (.aload_n 0, 1) := by decide +kernel
theorem dL_law_581 : decode cL_law 581 = .ok (.iload_n 3, 1) := by decide +kernel
theorem dL_law_582 : decode cL_law 582 = .ok (.iconst 1, 1) := by decide +kernel
theorem dL_law_583 : decode cL_law 583 = .ok (.iadd, 1) := by decide +kernel
theorem dL_law_584 : decode cL_law 584 = .ok (.iaload, 1) := by decide +kernel
theorem dL_law_585 : decode cL_law 585 = .ok (.invokevirtual 69, 3) := by decide +kernel
theorem dL_law_588 : decode cL_law 588 = .ok (.if_icmp .eq 464, 3) := by decide +kernel
theorem dL_law_591 : decode cL_law 591 = .ok (.iconst 0, 1) := by decide +kernel
theorem dL_law_592 : decode cL_law 592 = .ok (.ireturn, 1) := by decide +kernel
theorem dL_law_593 : decode cL_law 593 = .ok (.aload_n 1, 1) := by decide +kernel
theorem dL_law_594 : decode cL_law 594 = .ok (.aload_n 0, 1) := by decide +kernel
theorem dL_law_595 : decode cL_law 595 = .ok (.iload_n 3, 1) := by decide +kernel
theorem dL_law_596 : decode cL_law 596 = .ok (.iconst 1, 1) := by decide +kernel
theorem dL_law_597 : decode cL_law 597 = .ok (.iadd, 1) := by decide +kernel
theorem dL_law_598 : decode cL_law 598 = .ok (.iaload, 1) := by decide +kernel
theorem dL_law_599 : decode cL_law 599 = .ok (.invokevirtual 70, 3) := by decide +kernel
theorem dL_law_602 : decode cL_law 602 = .ok (.aload_n 2, 1) := by decide +kernel
theorem dL_law_603 : decode cL_law 603 = .ok (.aload_n 0, 1) := by decide +kernel
theorem dL_law_604 : decode cL_law 604 = .ok (.iload_n 3, 1) := by decide +kernel
theorem dL_law_605 : decode cL_law 605 = .ok (.iconst 1, 1) := by decide +kernel
theorem dL_law_606 : decode cL_law 606 = .ok (.iadd, 1) := by decide +kernel
theorem dL_law_607 : decode cL_law 607 = .ok (.iaload, 1) := by decide +kernel
theorem dL_law_608 : decode cL_law 608 = .ok (.invokevirtual 73, 3) := by decide +kernel
theorem dL_law_611 : decode cL_law 611 = .ok (.if_icmp .eq 441, 3) := by decide +kernel
theorem dL_law_614 : decode cL_law 614 = .ok (.iconst 0, 1) := by decide +kernel
theorem dL_law_615 : decode cL_law 615 = .ok (.ireturn, 1) := by decide +kernel
theorem dL_law_616 : decode cL_law 616 = .ok (.aload_n 1, 1) := by decide +kernel
theorem dL_law_617 : decode cL_law 617 = .ok (.aload_n 0, 1) := by decide +kernel
theorem dL_law_618 : decode cL_law 618 = .ok (.iload_n 3, 1) := by decide +kernel
theorem dL_law_619 : decode cL_law 619 = .ok (.iconst 1, 1) := by decide +kernel
theorem dL_law_620 : decode cL_law 620 = .ok (.iadd, 1) := by decide +kernel
theorem dL_law_621 : decode cL_law 621 = .ok (.iaload, 1) := by decide +kernel
theorem dL_law_622 : decode cL_law 622 = .ok (.aload_n 0, 1) := by decide +kernel
theorem dL_law_623 : decode cL_law 623 = .ok (.iload_n 3, 1) := by decide +kernel
theorem dL_law_624 : decode cL_law 624 = .ok (.iconst 2, 1) := by decide +kernel
theorem dL_law_625 : decode cL_law 625 = .ok (.iadd, 1) := by decide +kernel
theorem dL_law_626 : decode cL_law 626 = .ok (.iaload, 1) := by decide +kernel
theorem dL_law_627 : decode cL_law 627 = .ok (.invokevirtual 74, 3) := by decide +kernel
theorem dL_law_630 : decode cL_law 630 = .ok (.aload_n 2, 1) := by decide +kernel
theorem dL_law_631 : decode cL_law 631 = .ok (.aload_n 0, 1) := by decide +kernel
theorem dL_law_632 : decode cL_law 632 = .ok (.iload_n 3, 1) := by decide +kernel
theorem dL_law_633 : decode cL_law 633 = .ok (.iconst 1, 1) := by decide +kernel
theorem dL_law_634 : decode cL_law 634 = .ok (.iadd, 1) := by decide +kernel
theorem dL_law_635 : decode cL_law 635 = .ok (.iaload, 1) := by decide +kernel
theorem dL_law_636 : decode cL_law 636 = .ok (.aload_n 0, 1) := by decide +kernel
theorem dL_law_637 : decode cL_law 637 = .ok (.iload_n 3, 1) := by decide +kernel
theorem dL_law_638 : decode cL_law 638 = .ok (.iconst 2, 1) := by decide +kernel
theorem dL_law_639 : decode cL_law 639 = .ok (.iadd, 1) := by decide +kernel
theorem dL_law_640 : decode cL_law 640 = .ok (.iaload, 1) := by decide +kernel
theorem dL_law_641 : decode cL_law 641 = .ok (.invokevirtual 77, 3) := by decide +kernel
theorem dL_law_644 : decode cL_law 644 = .ok (.if_icmp .eq 408, 3) := by decide +kernel
theorem dL_law_647 : decode cL_law 647 = .ok (.iconst 0, 1) := by decide +kernel
theorem dL_law_648 : decode cL_law 648 = .ok (.ireturn, 1) := by decide +kernel
theorem dL_law_649 : decode cL_law 649 = .ok (.aload_n 1, 1) := by decide +kernel
theorem dL_law_650 : decode cL_law 650 = .ok (.aload_n 0, 1) := by decide +kernel
theorem dL_law_651 : decode cL_law 651 = .ok (.iload_n 3, 1) := by decide +kernel
theorem dL_law_652 : decode cL_law 652 = .ok (.iconst 1, 1) := by decide +kernel
theorem dL_law_653 : decode cL_law 653 = .ok (.iadd, 1) := by decide +kernel
theorem dL_law_654 : decode cL_law 654 = .ok (.iaload, 1) := by decide +kernel
theorem dL_law_655 : decode cL_law 655 = .ok (.invokevirtual 78, 3) := by decide +kernel
theorem dL_law_658 : decode cL_law 658 = .ok (.aload_n 2, 1) := by decide +kernel
theorem dL_law_659 : decode cL_law 659 = .ok (.aload_n 0, 1) := by decide +kernel
theorem dL_law_660 : decode cL_law 660 = .ok (.iload_n 3, 1) := by decide +kernel
theorem dL_law_661 : decode cL_law 661 = .ok (.iconst 1, 1) := by decide +kernel
theorem dL_law_662 : decode cL_law 662 = .ok (.iadd, 1) := by decide +kernel
theorem dL_law_663 : decode cL_law 663 = .ok (.iaload, 1) := by decide +kernel
theorem dL_law_664 : decode cL_law 664 = .ok (.invokevirtual 81, 3) := by decide +kernel
theorem dL_law_667 : decode cL_law 667 = .ok (.if_icmp .eq 385, 3) := by decide +kernel
theorem dL_law_670 : decode cL_law 670 = .ok (.iconst 0, 1) := by decide +kernel
theorem dL_law_671 : decode cL_law 671 = .ok (.ireturn, 1) := by decide +kernel
theorem dL_law_672 : decode cL_law 672 = .ok (.aload_n 1, 1) := by decide +kernel
theorem dL_law_673 : decode cL_law 673 = .ok (.aload_n 0, 1) := by decide +kernel
theorem dL_law_674 : decode cL_law 674 = .ok (.iload_n 3, 1) := by decide +kernel
theorem dL_law_675 : decode cL_law 675 = .ok (.iconst 1, 1) := by decide +kernel
theorem dL_law_676 : decode cL_law 676 = .ok (.iadd, 1) := by decide +kernel
theorem dL_law_677 : decode cL_law 677 = .ok (.iaload, 1) := by decide +kernel
theorem dL_law_678 : decode cL_law 678 = .ok (.aload_n 0, 1) := by decide +kernel
theorem dL_law_679 : decode cL_law 679 = .ok (.iload_n 3, 1) := by decide +kernel
theorem dL_law_680 : decode cL_law 680 = .ok (.iconst 2, 1) := by decide +kernel
theorem dL_law_681 : decode cL_law 681 = .ok (.iadd, 1) := by decide +kernel
theorem dL_law_682 : decode cL_law 682 = .ok (.iaload, 1) := by decide +kernel
theorem dL_law_683 : decode cL_law 683 = .ok (.invokevirtual 82, 3) := by decide +kernel
theorem dL_law_686 : decode cL_law 686 = .ok (.aload_n 2, 1) := by decide +kernel
theorem dL_law_687 : decode cL_law 687 = .ok (.aload_n 0, 1) := by decide +kernel
theorem dL_law_688 : decode cL_law 688 = .ok (.iload_n 3, 1) := by decide +kernel
theorem dL_law_689 : decode cL_law 689 = .ok (.iconst 1, 1) := by decide +kernel
theorem dL_law_690 : decode cL_law 690 = .ok (.iadd, 1) := by decide +kernel
theorem dL_law_691 : decode cL_law 691 = .ok (.iaload, 1) := by decide +kernel
theorem dL_law_692 : decode cL_law 692 = .ok (.aload_n 0, 1) := by decide +kernel
theorem dL_law_693 : decode cL_law 693 = .ok (.iload_n 3, 1) := by decide +kernel
theorem dL_law_694 : decode cL_law 694 = .ok (.iconst 2, 1) := by decide +kernel
theorem dL_law_695 : decode cL_law 695 = .ok (.iadd, 1) := by decide +kernel
theorem dL_law_696 : decode cL_law 696 = .ok (.iaload, 1) := by decide +kernel
theorem dL_law_697 : decode cL_law 697 = .ok (.invokevirtual 86, 3) := by decide +kernel
theorem dL_law_700 : decode cL_law 700 = .ok (.lcmp, 1) := by decide +kernel
theorem dL_law_701 : decode cL_law 701 = .ok (.ifCond .eq 351, 3) := by decide +kernel
theorem dL_law_704 : decode cL_law 704 = .ok (.iconst 0, 1) := by decide +kernel
theorem dL_law_705 : decode cL_law 705 = .ok (.ireturn, 1) := by decide +kernel
theorem dL_law_706 : decode cL_law 706 = .ok (.aload_n 1, 1) := by decide +kernel
theorem dL_law_707 : decode cL_law 707 = .ok (.aload_n 0, 1) := by decide +kernel
theorem dL_law_708 : decode cL_law 708 = .ok (.iload_n 3, 1) := by decide +kernel
theorem dL_law_709 : decode cL_law 709 = .ok (.iconst 1, 1) := by decide +kernel
theorem dL_law_710 : decode cL_law 710 = .ok (.iadd, 1) := by decide +kernel
theorem dL_law_711 : decode cL_law 711 = .ok (.iaload, 1) := by decide +kernel
theorem dL_law_712 : decode cL_law 712 = .ok (.invokevirtual 87, 3) := by decide +kernel
theorem dL_law_715 : decode cL_law 715 = .ok (.aload_n 2, 1) := by decide +kernel
theorem dL_law_716 : decode cL_law 716 = .ok (.aload_n 0, 1) := by decide +kernel
theorem dL_law_717 : decode cL_law 717 = .ok (.iload_n 3, 1) := by decide +kernel
theorem dL_law_718 : decode cL_law 718 = .ok (.iconst 1, 1) := by decide +kernel
theorem dL_law_719 : decode cL_law 719 = .ok (.iadd, 1) := by decide +kernel
theorem dL_law_720 : decode cL_law 720 = .ok (.iaload, 1) := by decide +kernel
theorem dL_law_721 : decode cL_law 721 = .ok (.invokevirtual 90, 3) := by decide +kernel
theorem dL_law_724 : decode cL_law 724 = .ok (.if_icmp .eq 328, 3) := by decide +kernel
theorem dL_law_727 : decode cL_law 727 = .ok (.iconst 0, 1) := by decide +kernel
theorem dL_law_728 : decode cL_law 728 = .ok (.ireturn, 1) := by decide +kernel
theorem dL_law_729 : decode cL_law 729 = .ok (.aload_n 1, 1) := by decide +kernel
theorem dL_law_730 : decode cL_law 730 = .ok (.aload_n 0, 1) := by decide +kernel
theorem dL_law_731 : decode cL_law 731 = .ok (.iload_n 3, 1) := by decide +kernel
theorem dL_law_732 : decode cL_law 732 = .ok (.iconst 1, 1) := by decide +kernel
theorem dL_law_733 : decode cL_law 733 = .ok (.iadd, 1) := by decide +kernel
theorem dL_law_734 : decode cL_law 734 = .ok (.iaload, 1) := by decide +kernel
theorem dL_law_735 : decode cL_law 735 = .ok (.aload_n 0, 1) := by decide +kernel
theorem dL_law_736 : decode cL_law 736 = .ok (.iload_n 3, 1) := by decide +kernel
theorem dL_law_737 : decode cL_law 737 = .ok (.iconst 2, 1) := by decide +kernel
theorem dL_law_738 : decode cL_law 738 = .ok (.iadd, 1) := by decide +kernel
theorem dL_law_739 : decode cL_law 739 = .ok (.iaload, 1) := by decide +kernel
theorem dL_law_740 : decode cL_law 740 = .ok (.invokevirtual 91, 3) := by decide +kernel
theorem dL_law_743 : decode cL_law 743 = .ok (.aload_n 2, 1) := by decide +kernel
theorem dL_law_744 : decode cL_law 744 = .ok (.aload_n 0, 1) := by decide +kernel
theorem dL_law_745 : decode cL_law 745 = .ok (.iload_n 3, 1) := by decide +kernel
theorem dL_law_746 : decode cL_law 746 = .ok (.iconst 1, 1) := by decide +kernel
theorem dL_law_747 : decode cL_law 747 = .ok (.iadd, 1) := by decide +kernel
theorem dL_law_748 : decode cL_law 748 = .ok (.iaload, 1) := by decide +kernel
theorem dL_law_749 : decode cL_law 749 = .ok (.aload_n 0, 1) := by decide +kernel
theorem dL_law_750 : decode cL_law 750 = .ok (.iload_n 3, 1) := by decide +kernel
theorem dL_law_751 : decode cL_law 751 = .ok (.iconst 2, 1) := by decide +kernel
theorem dL_law_752 : decode cL_law 752 = .ok (.iadd, 1) := by decide +kernel
theorem dL_law_753 : decode cL_law 753 = .ok (.iaload, 1) := by decide +kernel
theorem dL_law_754 : decode cL_law 754 = .ok (.invokevirtual 94, 3) := by decide +kernel
theorem dL_law_757 : decode cL_law 757 = .ok (.if_icmp .eq 295, 3) := by decide +kernel
theorem dL_law_760 : decode cL_law 760 = .ok (.iconst 0, 1) := by decide +kernel
theorem dL_law_761 : decode cL_law 761 = .ok (.ireturn, 1) := by decide +kernel
theorem dL_law_762 : decode cL_law 762 = .ok (.aload_n 1, 1) := by decide +kernel
theorem dL_law_763 : decode cL_law 763 = .ok (.aload_n 0, 1) := by decide +kernel
theorem dL_law_764 : decode cL_law 764 = .ok (.iload_n 3, 1) := by decide +kernel
theorem dL_law_765 : decode cL_law 765 = .ok (.iconst 1, 1) := by decide +kernel
theorem dL_law_766 : decode cL_law 766 = .ok (.iadd, 1) := by decide +kernel
theorem dL_law_767 : decode cL_law 767 = .ok (.iaload, 1) := by decide +kernel
theorem dL_law_768 : decode cL_law 768 = .ok (.aload_n 0, 1) := by decide +kernel
theorem dL_law_769 : decode cL_law 769 = .ok (.iload_n 3, 1) := by decide +kernel
theorem dL_law_770 : decode cL_law 770 = .ok (.iconst 2, 1) := by decide +kernel
theorem dL_law_771 : decode cL_law 771 = .ok (.iadd, 1) := by decide +kernel
theorem dL_law_772 : decode cL_law 772 = .ok (.iaload, 1) := by decide +kernel
theorem dL_law_773 : decode cL_law 773 = .ok (.invokevirtual 95, 3) := by decide +kernel
theorem dL_law_776 : decode cL_law 776 = .ok (.aload_n 2, 1) := by decide +kernel
theorem dL_law_777 : decode cL_law 777 = .ok (.aload_n 0, 1) := by decide +kernel
theorem dL_law_778 : decode cL_law 778 = .ok (.iload_n 3, 1) := by decide +kernel
theorem dL_law_779 : decode cL_law 779 = .ok (.iconst 1, 1) := by decide +kernel
theorem dL_law_780 : decode cL_law 780 = .ok (.iadd, 1) := by decide +kernel
theorem dL_law_781 : decode cL_law 781 = .ok (.iaload, 1) := by decide +kernel
theorem dL_law_782 : decode cL_law 782 = .ok (.aload_n 0, 1) := by decide +kernel
theorem dL_law_783 : decode cL_law 783 = .ok (.iload_n 3, 1) := by decide +kernel
theorem dL_law_784 : decode cL_law 784 = .ok (.iconst 2, 1) := by decide +kernel
theorem dL_law_785 : decode cL_law 785 = .ok (.iadd, 1) := by decide +kernel
theorem dL_law_786 : decode cL_law 786 = .ok (.iaload, 1) := by decide +kernel
theorem dL_law_787 : decode cL_law 787 = .ok (.invokevirtual 98, 3) := by decide +kernel
theorem dL_law_790 : decode cL_law 790 = .ok (.if_icmp .eq 262, 3) := by decide +kernel
theorem dL_law_793 : decode cL_law 793 = .ok (.iconst 0, 1) := by decide +kernel
theorem dL_law_794 : decode cL_law 794 = .ok (.ireturn, 1) := by decide +kernel
theorem dL_law_795 : decode cL_law 795 = .ok (.aload_n 1, 1) := by decide +kernel
theorem dL_law_796 : decode cL_law 796 = .ok (.aload_n 0, 1) := by decide +kernel
theorem dL_law_797 : decode cL_law 797 = .ok (.iload_n 3, 1) := by decide +kernel
theorem dL_law_798 : decode cL_law 798 = .ok (.iconst 1, 1) := by decide +kernel
theorem dL_law_799 : decode cL_law 799 = .ok (.iadd, 1) := by decide +kernel
theorem dL_law_800 : decode cL_law 800 = .ok (.iaload, 1) := by decide +kernel
theorem dL_law_801 : decode cL_law 801 = .ok (.invokevirtual 99, 3) := by decide +kernel
theorem dL_law_804 : decode cL_law 804 = .ok (.aload_n 2, 1) := by decide +kernel
theorem dL_law_805 : decode cL_law 805 = .ok (.aload_n 0, 1) := by decide +kernel
theorem dL_law_806 : decode cL_law 806 = .ok (.iload_n 3, 1) := by decide +kernel
theorem dL_law_807 : decode cL_law 807 = .ok (.iconst 1, 1) := by decide +kernel
theorem dL_law_808 : decode cL_law 808 = .ok (.iadd, 1) := by decide +kernel
theorem dL_law_809 : decode cL_law 809 = .ok (.iaload, 1) := by decide +kernel
theorem dL_law_810 : decode cL_law 810 = .ok (.invokevirtual 102, 3) := by decide +kernel
theorem dL_law_813 : decode cL_law 813 = .ok (.if_icmp .eq 239, 3) := by decide +kernel
theorem dL_law_816 : decode cL_law 816 = .ok (.iconst 0, 1) := by decide +kernel
theorem dL_law_817 : decode cL_law 817 = .ok (.ireturn, 1) := by decide +kernel
theorem dL_law_818 : decode cL_law 818 = .ok (.aload_n 1, 1) := by decide +kernel
theorem dL_law_819 : decode cL_law 819 = .ok (.aload_n 0, 1) := by decide +kernel
theorem dL_law_820 : decode cL_law 820 = .ok (.iload_n 3, 1) := by decide +kernel
theorem dL_law_821 : decode cL_law 821 = .ok (.iconst 1, 1) := by decide +kernel
theorem dL_law_822 : decode cL_law 822 = .ok (.iadd, 1) := by decide +kernel
theorem dL_law_823 : decode cL_law 823 = .ok (.iaload, 1) := by decide +kernel
theorem dL_law_824 : decode cL_law 824 = .ok (.invokevirtual 103, 3) := by decide +kernel
theorem dL_law_827 : decode cL_law 827 = .ok (.aload_n 2, 1) := by decide +kernel
theorem dL_law_828 : decode cL_law 828 = .ok (.aload_n 0, 1) := by decide +kernel
theorem dL_law_829 : decode cL_law 829 = .ok (.iload_n 3, 1) := by decide +kernel
theorem dL_law_830 : decode cL_law 830 = .ok (.iconst 1, 1) := by decide +kernel
theorem dL_law_831 : decode cL_law 831 = .ok (.iadd, 1) := by decide +kernel
theorem dL_law_832 : decode cL_law 832 = .ok (.iaload, 1) := by decide +kernel
theorem dL_law_833 : decode cL_law 833 = .ok (.invokevirtual 106, 3) := by decide +kernel
theorem dL_law_836 : decode cL_law 836 = .ok (.if_icmp .eq 216, 3) := by decide +kernel
theorem dL_law_839 : decode cL_law 839 = .ok (.iconst 0, 1) := by decide +kernel
theorem dL_law_840 : decode cL_law 840 = .ok (.ireturn, 1) := by decide +kernel
theorem dL_law_841 : decode cL_law 841 = .ok (.aload_n 1, 1) := by decide +kernel
theorem dL_law_842 : decode cL_law 842 = .ok (.aload_n 0, 1) := by decide +kernel
theorem dL_law_843 : decode cL_law 843 = .ok (.iload_n 3, 1) := by decide +kernel
theorem dL_law_844 : decode cL_law 844 = .ok (.iconst 1, 1) := by decide +kernel
theorem dL_law_845 : decode cL_law 845 = .ok (.iadd, 1) := by decide +kernel
theorem dL_law_846 : decode cL_law 846 = .ok (.iaload, 1) := by decide +kernel
theorem dL_law_847 : decode cL_law 847 = .ok (.aload_n 0, 1) := by decide +kernel
theorem dL_law_848 : decode cL_law 848 = .ok (.iload_n 3, 1) := by decide +kernel
theorem dL_law_849 : decode cL_law 849 = .ok (.iconst 2, 1) := by decide +kernel
theorem dL_law_850 : decode cL_law 850 = .ok (.iadd, 1) := by decide +kernel
theorem dL_law_851 : decode cL_law 851 = .ok (.iaload, 1) := by decide +kernel
theorem dL_law_852 : decode cL_law 852 = .ok (.aload_n 0, 1) := by decide +kernel
theorem dL_law_853 : decode cL_law 853 = .ok (.iload_n 3, 1) := by decide +kernel
theorem dL_law_854 : decode cL_law 854 = .ok (.iconst 3, 1) := by decide +kernel
theorem dL_law_855 : decode cL_law 855 = .ok (.iadd, 1) := by decide +kernel
theorem dL_law_856 : decode cL_law 856 = .ok (.iaload, 1) := by decide +kernel
theorem dL_law_857 : decode cL_law 857 = .ok (.aload_n 0, 1) := by decide +kernel
theorem dL_law_858 : decode cL_law 858 = .ok (.iload_n 3, 1) := by decide +kernel
theorem dL_law_859 : decode cL_law 859 = .ok (.iconst 4, 1) := by decide +kernel
theorem dL_law_860 : decode cL_law 860 = .ok (.iadd, 1) := by decide +kernel
theorem dL_law_861 : decode cL_law 861 = .ok (.iaload, 1) := by decide +kernel
theorem dL_law_862 : decode cL_law 862 = .ok (.invokevirtual 107, 3) := by decide +kernel
theorem dL_law_865 : decode cL_law 865 = .ok (.aload_n 2, 1) := by decide +kernel
theorem dL_law_866 : decode cL_law 866 = .ok (.aload_n 0, 1) := by decide +kernel
theorem dL_law_867 : decode cL_law 867 = .ok (.iload_n 3, 1) := by decide +kernel
theorem dL_law_868 : decode cL_law 868 = .ok (.iconst 1, 1) := by decide +kernel
theorem dL_law_869 : decode cL_law 869 = .ok (.iadd, 1) := by decide +kernel
theorem dL_law_870 : decode cL_law 870 = .ok (.iaload, 1) := by decide +kernel
theorem dL_law_871 : decode cL_law 871 = .ok (.aload_n 0, 1) := by decide +kernel
theorem dL_law_872 : decode cL_law 872 = .ok (.iload_n 3, 1) := by decide +kernel
theorem dL_law_873 : decode cL_law 873 = .ok (.iconst 2, 1) := by decide +kernel
theorem dL_law_874 : decode cL_law 874 = .ok (.iadd, 1) := by decide +kernel
theorem dL_law_875 : decode cL_law 875 = .ok (.iaload, 1) := by decide +kernel
theorem dL_law_876 : decode cL_law 876 = .ok (.aload_n 0, 1) := by decide +kernel
theorem dL_law_877 : decode cL_law 877 = .ok (.iload_n 3, 1) := by decide +kernel
theorem dL_law_878 : decode cL_law 878 = .ok (.iconst 3, 1) := by decide +kernel
theorem dL_law_879 : decode cL_law 879 = .ok (.iadd, 1) := by decide +kernel
theorem dL_law_880 : decode cL_law 880 = .ok (.iaload, 1) := by decide +kernel
theorem dL_law_881 : decode cL_law 881 = .ok (.aload_n 0, 1) := by decide +kernel
theorem dL_law_882 : decode cL_law 882 = .ok (.iload_n 3, 1) := by decide +kernel
theorem dL_law_883 : decode cL_law 883 = .ok (.iconst 4, 1) := by decide +kernel
theorem dL_law_884 : decode cL_law 884 = .ok (.iadd, 1) := by decide +kernel
theorem dL_law_885 : decode cL_law 885 = .ok (.iaload, 1) := by decide +kernel
theorem dL_law_886 : decode cL_law 886 = .ok (.invokevirtual 110, 3) := by decide +kernel
theorem dL_law_889 : decode cL_law 889 = .ok (.if_icmp .eq 163, 3) := by decide +kernel
theorem dL_law_892 : decode cL_law 892 = .ok (.iconst 0, 1) := by decide +kernel
theorem dL_law_893 : decode cL_law 893 = .ok (.ireturn, 1) := by decide +kernel
theorem dL_law_894 : decode cL_law 894 = .ok (.aload_n 1, 1) := by decide +kernel
theorem dL_law_895 : decode cL_law 895 = .ok (.aload_n 0, 1) := by decide +kernel
theorem dL_law_896 : decode cL_law 896 = .ok (.iload_n 3, 1) := by decide +kernel
theorem dL_law_897 : decode cL_law 897 = .ok (.iconst 1, 1) := by decide +kernel
theorem dL_law_898 : decode cL_law 898 = .ok (.iadd, 1) := by decide +kernel
theorem dL_law_899 : decode cL_law 899 = .ok (.iaload, 1) := by decide +kernel
theorem dL_law_900 : decode cL_law 900 = .ok (.aload_n 0, 1) := by decide +kernel
theorem dL_law_901 : decode cL_law 901 = .ok (.iload_n 3, 1) := by decide +kernel
theorem dL_law_902 : decode cL_law 902 = .ok (.iconst 2, 1) := by decide +kernel
theorem dL_law_903 : decode cL_law 903 = .ok (.iadd, 1) := by decide +kernel
theorem dL_law_904 : decode cL_law 904 = .ok (.iaload, 1) := by decide +kernel
theorem dL_law_905 : decode cL_law 905 = .ok (.aload_n 0, 1) := by decide +kernel
theorem dL_law_906 : decode cL_law 906 = .ok (.iload_n 3, 1) := by decide +kernel
theorem dL_law_907 : decode cL_law 907 = .ok (.iconst 3, 1) := by decide +kernel
theorem dL_law_908 : decode cL_law 908 = .ok (.iadd, 1) := by decide +kernel
theorem dL_law_909 : decode cL_law 909 = .ok (.iaload, 1) := by decide +kernel
theorem dL_law_910 : decode cL_law 910 = .ok (.invokevirtual 111, 3) := by decide +kernel
theorem dL_law_913 : decode cL_law 913 = .ok (.aload_n 2, 1) := by decide +kernel
theorem dL_law_914 : decode cL_law 914 = .ok (.aload_n 0, 1) := by decide +kernel
theorem dL_law_915 : decode cL_law 915 = .ok (.iload_n 3, 1) := by decide +kernel
theorem dL_law_916 : decode cL_law 916 = .ok (.iconst 1, 1) := by decide +kernel
theorem dL_law_917 : decode cL_law 917 = .ok (.iadd, 1) := by decide +kernel
theorem dL_law_918 : decode cL_law 918 = .ok (.iaload, 1) := by decide +kernel
theorem dL_law_919 : decode cL_law 919 = .ok (.aload_n 0, 1) := by decide +kernel
theorem dL_law_920 : decode cL_law 920 = .ok (.iload_n 3, 1) := by decide +kernel
theorem dL_law_921 : decode cL_law 921 = .ok (.iconst 2, 1) := by decide +kernel
theorem dL_law_922 : decode cL_law 922 = .ok (.iadd, 1) := by decide +kernel
theorem dL_law_923 : decode cL_law 923 = .ok (.iaload, 1) := by decide +kernel
theorem dL_law_924 : decode cL_law 924 = .ok (.aload_n 0, 1) := by decide +kernel
theorem dL_law_925 : decode cL_law 925 = .ok (.iload_n 3, 1) := by decide +kernel
theorem dL_law_926 : decode cL_law 926 = .ok (.iconst 3, 1) := by decide +kernel
theorem dL_law_927 : decode cL_law 927 = .ok (.iadd, 1) := by decide +kernel
theorem dL_law_928 : decode cL_law 928 = .ok (.iaload, 1) := by decide +kernel
theorem dL_law_929 : decode cL_law 929 = .ok (.invokevirtual 114, 3) := by decide +kernel
theorem dL_law_932 : decode cL_law 932 = .ok (.if_icmp .eq 120, 3) := by decide +kernel
theorem dL_law_935 : decode cL_law 935 = .ok (.iconst 0, 1) := by decide +kernel
theorem dL_law_936 : decode cL_law 936 = .ok (.ireturn, 1) := by decide +kernel
theorem dL_law_937 : decode cL_law 937 = .ok (.aload_n 1, 1) := by decide +kernel
theorem dL_law_938 : decode cL_law 938 = .ok (.aload_n 0, 1) := by decide +kernel
theorem dL_law_939 : decode cL_law 939 = .ok (.iload_n 3, 1) := by decide +kernel
theorem dL_law_940 : decode cL_law 940 = .ok (.iconst 1, 1) := by decide +kernel
theorem dL_law_941 : decode cL_law 941 = .ok (.iadd, 1) := by decide +kernel
theorem dL_law_942 : decode cL_law 942 = .ok (.iaload, 1) := by decide +kernel
theorem dL_law_943 : decode cL_law 943 = .ok (.invokevirtual 115, 3) := by decide +kernel
theorem dL_law_946 : decode cL_law 946 = .ok (.aload_n 2, 1) := by decide +kernel
theorem dL_law_947 : decode cL_law 947 = .ok (.aload_n 0, 1) := by decide +kernel
theorem dL_law_948 : decode cL_law 948 = .ok (.iload_n 3, 1) := by decide +kernel
theorem dL_law_949 : decode cL_law 949 = .ok (.iconst 1, 1) := by decide +kernel
theorem dL_law_950 : decode cL_law 950 = .ok (.iadd, 1) := by decide +kernel
theorem dL_law_951 : decode cL_law 951 = .ok (.iaload, 1) := by decide +kernel
theorem dL_law_952 : decode cL_law 952 = .ok (.invokevirtual 118, 3) := by decide +kernel
theorem dL_law_955 : decode cL_law 955 = .ok (.if_icmp .eq 97, 3) := by decide +kernel
theorem dL_law_958 : decode cL_law 958 = .ok (.iconst 0, 1) := by decide +kernel
theorem dL_law_959 : decode cL_law 959 = .ok (.ireturn, 1) := by decide +kernel
theorem dL_law_960 : decode cL_law 960 = .ok (.aload_n 1, 1) := by decide +kernel
theorem dL_law_961 : decode cL_law 961 = .ok (.aload_n 0, 1) := by decide +kernel
theorem dL_law_962 : decode cL_law 962 = .ok (.iload_n 3, 1) := by decide +kernel
theorem dL_law_963 : decode cL_law 963 = .ok (.iconst 1, 1) := by decide +kernel
theorem dL_law_964 : decode cL_law 964 = .ok (.iadd, 1) := by decide +kernel
theorem dL_law_965 : decode cL_law 965 = .ok (.iaload, 1) := by decide +kernel
theorem dL_law_966 : decode cL_law 966 = .ok (.invokevirtual 119, 3) := by decide +kernel
theorem dL_law_969 : decode cL_law 969 = .ok (.aload_n 2, 1) := by decide +kernel
theorem dL_law_970 : decode cL_law 970 = .ok (.aload_n 0, 1) := by decide +kernel
theorem dL_law_971 : decode cL_law 971 = .ok (.iload_n 3, 1) := by decide +kernel
theorem dL_law_972 : decode cL_law 972 = .ok (.iconst 1, 1) := by decide +kernel
theorem dL_law_973 : decode cL_law 973 = .ok (.iadd, 1) := by decide +kernel
theorem dL_law_974 : decode cL_law 974 = .ok (.iaload, 1) := by decide +kernel
theorem dL_law_975 : decode cL_law 975 = .ok (.invokevirtual 122, 3) := by decide +kernel
theorem dL_law_978 : decode cL_law 978 = .ok (.if_icmp .eq 74, 3) := by decide +kernel
theorem dL_law_981 : decode cL_law 981 = .ok (.iconst 0, 1) := by decide +kernel
theorem dL_law_982 : decode cL_law 982 = .ok (.ireturn, 1) := by decide +kernel
theorem dL_law_983 : decode cL_law 983 = .ok (.aload_n 1, 1) := by decide +kernel
theorem dL_law_984 : decode cL_law 984 = .ok (.aload_n 0, 1) := by decide +kernel
theorem dL_law_985 : decode cL_law 985 = .ok (.iload_n 3, 1) := by decide +kernel
theorem dL_law_986 : decode cL_law 986 = .ok (.iconst 1, 1) := by decide +kernel
theorem dL_law_987 : decode cL_law 987 = .ok (.iadd, 1) := by decide +kernel
theorem dL_law_988 : decode cL_law 988 = .ok (.iaload, 1) := by decide +kernel
theorem dL_law_989 : decode cL_law 989 = .ok (.invokevirtual 123, 3) := by decide +kernel
theorem dL_law_992 : decode cL_law 992 = .ok (.aload_n 2, 1) := by decide +kernel
theorem dL_law_993 : decode cL_law 993 = .ok (.aload_n 0, 1) := by decide +kernel
theorem dL_law_994 : decode cL_law 994 = .ok (.iload_n 3, 1) := by decide +kernel
theorem dL_law_995 : decode cL_law 995 = .ok (.iconst 1, 1) := by decide +kernel
theorem dL_law_996 : decode cL_law 996 = .ok (.iadd, 1) := by decide +kernel
theorem dL_law_997 : decode cL_law 997 = .ok (.iaload, 1) := by decide +kernel
theorem dL_law_998 : decode cL_law 998 = .ok (.invokevirtual 126, 3) := by decide +kernel
theorem dL_law_1001 : decode cL_law 1001 = .ok (.if_icmp .eq 51, 3) := by decide +kernel
theorem dL_law_1004 : decode cL_law 1004 = .ok (.iconst 0, 1) := by decide +kernel
theorem dL_law_1005 : decode cL_law 1005 = .ok (.ireturn, 1) := by decide +kernel
theorem dL_law_1006 : decode cL_law 1006 = .ok (.aload_n 1, 1) := by decide +kernel
theorem dL_law_1007 : decode cL_law 1007 = .ok (.aload_n 0, 1) := by decide +kernel
theorem dL_law_1008 : decode cL_law 1008 = .ok (.iload_n 3, 1) := by decide +kernel
theorem dL_law_1009 : decode cL_law 1009 = .ok (.iconst 1, 1) := by decide +kernel
theorem dL_law_1010 : decode cL_law 1010 = .ok (.iadd, 1) := by decide +kernel
theorem dL_law_1011 : decode cL_law 1011 = .ok (.iaload, 1) := by decide +kernel
theorem dL_law_1012 : decode cL_law 1012 = .ok (.invokevirtual 127, 3) := by decide +kernel
theorem dL_law_1015 : decode cL_law 1015 = .ok (.aload_n 2, 1) := by decide +kernel
theorem dL_law_1016 : decode cL_law 1016 = .ok (.aload_n 0, 1) := by decide +kernel
theorem dL_law_1017 : decode cL_law 1017 = .ok (.iload_n 3, 1) := by decide +kernel
theorem dL_law_1018 : decode cL_law 1018 = .ok (.iconst 1, 1) := by decide +kernel
theorem dL_law_1019 : decode cL_law 1019 = .ok (.iadd, 1) := by decide +kernel
theorem dL_law_1020 : decode cL_law 1020 = .ok (.iaload, 1) := by decide +kernel
theorem dL_law_1021 : decode cL_law 1021 = .ok (.invokevirtual 130, 3) := by decide +kernel
theorem dL_law_1024 : decode cL_law 1024 = .ok (.if_icmp .eq 28, 3) := by decide +kernel
theorem dL_law_1027 : decode cL_law 1027 = .ok (.iconst 0, 1) := by decide +kernel
theorem dL_law_1028 : decode cL_law 1028 = .ok (.ireturn, 1) := by decide +kernel
theorem dL_law_1029 : decode cL_law 1029 = .ok (.aload_n 1, 1) := by decide +kernel
theorem dL_law_1030 : decode cL_law 1030 = .ok (.aload_n 0, 1) := by decide +kernel
theorem dL_law_1031 : decode cL_law 1031 = .ok (.iload_n 3, 1) := by decide +kernel
theorem dL_law_1032 : decode cL_law 1032 = .ok (.iconst 1, 1) := by decide +kernel
theorem dL_law_1033 : decode cL_law 1033 = .ok (.iadd, 1) := by decide +kernel
theorem dL_law_1034 : decode cL_law 1034 = .ok (.iaload, 1) := by decide +kernel
theorem dL_law_1035 : decode cL_law 1035 = .ok (.invokevirtual 131, 3) := by decide +kernel
theorem dL_law_1038 : decode cL_law 1038 = .ok (.aload_n 2, 1) := by decide +kernel
theorem dL_law_1039 : decode cL_law 1039 = .ok (.aload_n 0, 1) := by decide +kernel
theorem dL_law_1040 : decode cL_law 1040 = .ok (.iload_n 3, 1) := by decide +kernel
theorem dL_law_1041 : decode cL_law 1041 = .ok (.iconst 1, 1) := by decide +kernel
theorem dL_law_1042 : decode cL_law 1042 = .ok (.iadd, 1) := by decide +kernel
theorem dL_law_1043 : decode cL_law 1043 = .ok (.iaload, 1) := by decide +kernel
theorem dL_law_1044 : decode cL_law 1044 = .ok (.invokevirtual 134, 3) := by decide +kernel
theorem dL_law_1047 : decode cL_law 1047 = .ok (.if_icmp .eq 5, 3) := by decide +kernel
theorem dL_law_1050 : decode cL_law 1050 = .ok (.iconst 0, 1) := by decide +kernel
theorem dL_law_1051 : decode cL_law 1051 = .ok (.ireturn, 1) := by decide +kernel
theorem dL_law_1052 : decode cL_law 1052 = .ok (.iinc 3 5, 3) := by decide +kernel
theorem dL_law_1055 : decode cL_law 1055 = .ok (.goto (-1037), 3) := by decide +kernel
theorem dL_law_1058 : decode cL_law 1058 = .ok (.iconst 1, 1) := by decide +kernel
theorem dL_law_1059 : decode cL_law 1059 = .ok (.ireturn, 1) := by decide +kernel
end
section
def xNF : List (String × Nat × String × String × String × String) := [(RX1, 7, RX4, "size", "I", RX10), (RX8, 7, RX4, "size", "I", RX10), (RX7, 7, RX4, "size", "I", RX10), (RX6, 29, RX4, "size", "I", RX10), (RX10, 74, RX4, "size", "I", RX10), (RX9, 22, RX4, "size", "I", RX10), (RX0, 45, RX4, "size", "I", RX10), (RX10, 279, RX4, "out", "[I", RX10), (RX0, 49, RX5, "shapeOfCode", "[I", RX10), (RX10, 127, RX5, "shapeOfCode", "[I", RX10), (RX10, 137, RX5, "leastCode", "[I", RX10), (RX10, 140, RX5, "codeCount", "[I", RX10), (RX10, 146, RX5, "placeCount", "[I", RX10), (RX10, 123, RX0, "table", "LNetShapes$ShapeTable;", RX10), (RX10, 174, RX0, "roleOfPost", "[I", RX10), (RX10, 197, RX2, "above", "J", RX10), (RX10, 201, RX2, "below", "J", RX10), (RX10, 183, RX3, "seedNow", "I", RX10), (RX10, 231, RX6, "leastTurned", "I", RX10), (RX10, 234, RX6, "leastSet", "I", RX10)]
def xNM : List (String × Nat × MethodName × String) := [(RX10, 44, yX2_init, RX10), (RX10, 51, yX3_init, RX10), (RX10, 58, yX6_init, RX10), (RX10, 65, yX9_init, RX10)]
end
section
/-! ===== the frame of this proof: abstract cells, values, and the judgement G over one method's walk ===== -/
/-- an abstract cell: an array (kind 0 int, 1 boolean, 2 long, 3 of Nets) or an object (class number, fields); references are places in the list -/
abbrev xC : Type := (Nat × vp_A) ⊕ (Nat × List Value)
/-- what is fixed for one run of the law: class numbers and slots, array classes, the first address, the script (address, length, values), the table's address -/
abbrev xEn : Type := va_G × (Nat → ClassId) × Nat × (Nat × Nat × (Nat → Int32)) × Nat
/-- name, code, locals, return type, frames, words of locals, cells, slots -/
abbrev xM : Type := MethodName × ByteArray × Nat × Option FieldType × Nat × Nat × Nat × Nat
def x_lo (E : xEn) (p : Nat) : Nat := E.2.2.1 + p
def x_v (E : xEn) (v : Value) : Value := match v with
  | .ref p => .ref (x_lo E p)
  | .float u => .ref (if u = 0 then E.2.2.2.1.1 else E.2.2.2.2)
  | w => w
def x_c (E : xEn) (c : xC) : va_E := match c with
  | .inl (t, n, .inr (.inr (.inr (.inr f)))) => .inl (E.2.1 t, n, .inr (.inr (.inr (.inr fun k => (f k).map (x_lo E)))))
  | .inl (t, n, .inl f) => .inl (E.2.1 t, n, .inl f)
  | .inl (t, n, .inr (.inl f)) => .inl (E.2.1 t, n, .inr (.inl f))
  | .inl (t, n, .inr (.inr (.inl f))) => .inl (E.2.1 t, n, .inr (.inr (.inl f)))
  | .inl (t, n, .inr (.inr (.inr (.inl f)))) => .inl (E.2.1 t, n, .inr (.inr (.inr (.inl f))))
  | .inr (k, vs) => .inr (k, vs.map (x_v E))
def x_w (E : xEn) (hp : List xC) : va_W := hp.mapIdx (fun i c => (x_lo E i, x_c E c))
def x_A (E : xEn) : Nat → Prop := fun q => E.2.2.1 ≤ q
def x_lv (E : xEn) (lv : List (Nat × Value)) : List (Nat × Value) := lv.map (fun q => (q.1, x_v E q.2))
theorem x_w_at {E : xEn} {hp : List xC} {p : Nat} {c : xC} (h : hp[p]? = some c) : (x_w E hp)[p]? = some (x_lo E p, x_c E c) := by
  simp [x_w, List.getElem?_mapIdx, h]
theorem x_w_len {E : xEn} {hp : List xC} : (x_w E hp).length = hp.length := by simp [x_w]
theorem x_w_at' {E : xEn} {hp : List xC} {p : Nat} {q : Nat × va_E} (h : (x_w E hp)[p]? = some q) : ∃ c, hp[p]? = some c ∧ q = (x_lo E p, x_c E c) := by
  rw [x_w, List.getElem?_mapIdx] at h
  cases hc : hp[p]? with
  | none => rw [hc] at h; cases h
  | some c => rw [hc] at h; exact ⟨c, rfl, (Option.some.inj h).symm⟩
theorem x_w_D {E : xEn} {hp : List xC} : va_D (x_A E) (x_w E hp) := by
  refine ⟨fun i j a b hi hj hab => ?_, fun k q hk => ?_⟩
  · obtain ⟨c1, -, e1⟩ := x_w_at' hi
    obtain ⟨c2, -, e2⟩ := x_w_at' hj
    subst e1; subst e2
    simp only [x_lo] at hab
    omega
  · obtain ⟨c1, -, e1⟩ := x_w_at' hk
    subst e1
    exact Nat.le_add_right _ _
theorem x_w_set {E : xEn} {hp : List xC} {p : Nat} {c : xC} : (x_w E hp).set p (x_lo E p, x_c E c) = x_w E (hp.set p c) := by
  apply List.ext_getElem?
  intro i
  simp only [x_w, List.getElem?_set, List.getElem?_mapIdx, List.length_mapIdx]
  by_cases h : p = i
  · subst h
    by_cases h2 : p < hp.length <;> simp [h2]
  · simp [h]
theorem x_w_app {E : xEn} {hp : List xC} {c : xC} : x_w E hp ++ [(x_lo E hp.length, x_c E c)] = x_w E (hp ++ [c]) := by
  simp [x_w, List.mapIdx_append]
theorem x_v_cat (E : xEn) (v : Value) : (x_v E v).category = v.category := by cases v <;> rfl
theorem x_cat (E : xEn) (st : List Value) : ((st.map (x_v E)).map fun v => v.category).sum = (st.map fun v => v.category).sum := by
  rw [List.map_map]
  congr 1
  exact List.map_congr_left fun v _ => x_v_cat E v
theorem x_lv_args (E : xEn) (vs : List Value) : ∀ i, lv_args i (vs.map (x_v E)) = x_lv E (lv_args i vs) := by
  induction vs with
  | nil => intro i; rfl
  | cons v vs ih =>
    intro i
    simp only [List.map_cons, lv_args, x_lv, x_v_cat]
    rw [ih]
    rfl
theorem x_sl_len (E : xEn) (vs : List Value) : (lg_sl (vs.map (x_v E))).length = (lg_sl vs).length := by
  induction vs with
  | nil => rfl
  | cons v vs ih =>
    simp only [lg_sl, List.map_cons, List.flatMap_cons, List.length_append, x_v_cat] at ih ⊢
    rw [ih]
    by_cases h : v.category = 2 <;> simp [h]
theorem x_lv_f1 (E : xEn) (lv : List (Nat × Value)) (i : Nat) : (x_lv E lv).filter (fun q => !(q.1 == i) && !(q.1 + 1 == i && q.2.category == 2)) = x_lv E (lv.filter (fun q => !(q.1 == i) && !(q.1 + 1 == i && q.2.category == 2))) := by
  rw [x_lv, x_lv, List.filter_map]
  congr 1
  apply List.filter_congr
  intro q _
  simp only [Function.comp, x_v_cat]
theorem x_lv_f2 (E : xEn) (lv : List (Nat × Value)) (i : Nat) : (x_lv E lv).filter (fun q => !(q.1 == i) && (!(q.1 == i + 1) && !(q.1 + 1 == i && q.2.category == 2))) = x_lv E (lv.filter (fun q => !(q.1 == i) && (!(q.1 == i + 1) && !(q.1 + 1 == i && q.2.category == 2)))) := by
  rw [x_lv, x_lv, List.filter_map]
  congr 1
  apply List.filter_congr
  intro q _
  simp only [Function.comp, x_v_cat]
theorem x_lv_at {E : xEn} {ls : Array Slot} {n : Nat} {lv : List (Nat × Value)} (h : lv_has ls n (x_lv E lv)) (k : Nat) {i : Nat} {v : Value} (hk : lv[k]? = some (i, v)) : ls[i]? = some (.val (x_v E v)) :=
  lv_at h k (by rw [x_lv, List.getElem?_map, hk]; rfl)
theorem x_lv_sub {E : xEn} {ls : Array Slot} {n : Nat} {lv lv' : List (Nat × Value)} (h : lv_has ls n (x_lv E lv)) (ks : List Nat) (hk : lv_pick lv ks = lv') : lv_has ls n (x_lv E lv') := by
  refine ⟨h.1, h.2.1, fun q hq => ?_⟩
  rw [x_lv] at hq
  obtain ⟨a, ha, e⟩ := List.mem_map.mp hq
  rw [← hk] at ha
  obtain ⟨k, -, hk2⟩ := List.mem_filterMap.mp ha
  refine h.2.2 q ?_
  rw [x_lv]
  exact List.mem_map.mpr ⟨a, List.mem_of_getElem? hk2, e⟩
/-! ===== the words, the classes, what stands around ===== -/
def wB : List Cond := lw_tbl.filter goodWord
theorem x_wd {w : Cond} (k : Nat) (h : lw_tbl[k]? = some w) (hg : goodWord w = true) : w ∈ wB := List.mem_filter.mpr ⟨List.mem_of_getElem? h, hg⟩
theorem wB_good : GoodIn wB wB := fun _ h => ⟨h, good_of_word (List.mem_filter.mp h).2⟩
abbrev xCl : List vw_C := [(RX0, TX0, 4), (RX2, TX2, 2), (RX3, TX3, 1), (RX4, TX4, 4), (RX5, TX5, 5), (RX6, TX6, 4), (RX9, TX9, 2), (RX10, TX10, 9), (RX11, TX11, 25)]
def x_tys (E : xEn) : List (ClassId × FieldType) := [(E.2.1 0, .int), (E.2.1 1, .boolean), (E.2.1 2, .long), (E.2.1 3, .object RX4)]
def xOL : List Int32 := [0, 1, 2, 0, 2, 1, 1, 0, 2, 1, 2, 0, 2, 0, 1, 2, 1, 0]
def xOrd (k : Nat) : Int32 := xOL.getD k 0
def x_Nw (U : State) : Prop := (∀ t ∈ xNF, va_Nw (.fieldLinkNest t.1 t.2.1 t.2.2.1 t.2.2.2.1 t.2.2.2.2.1 t.2.2.2.2.2) U) ∧ (∀ t ∈ xNM, va_Nw (.methodLinkNest t.1 t.2.1 t.2.2.1 t.2.2.2) U)
def x_Am (E : xEn) (U : State) (H : Heap) : Prop := va_K E.1 xCl (x_tys E) U ∧ x_Nw U ∧ va_X E.2.2.2.1.1 E.2.2.2.1.2.1 E.2.2.2.1.2.2 U H ∧ E.2.2.2.1.1 < E.2.2.1 ∧ va_Z "NetShapes$ShapeTable" "ORDERS" "[I" (.ref E.2.2.2.2) (x_A E) U H ∧ va_T .int E.2.2.2.2 18 (fun k => .int (xOrd k)) (x_A E) U H
theorem x_Nw.warm {s U : State} (hW : s.WarmedH U.vm) (h : x_Nw s) : x_Nw U := ⟨fun t ht => va_Nw.warmF hW (h.1 t ht), fun t ht => va_Nw.warmM hW (h.2 t ht)⟩
theorem x_Am.warm {E : xEn} {s U : State} {H H1 : Heap} (hW : s.WarmedH U.vm) (hk : ∀ a : Nat, a < H.size → ¬ x_A E a → H1[a]? = H[a]?) (hb : E.2.2.1 ≤ H.size) (h : x_Am E s H) : x_Am E U H1 := by
  obtain ⟨h1, h2, h3, h4, h5, h6⟩ := h
  exact ⟨va_K.moved hW.alike h1, x_Nw.warm hW h2, va_X.moved hW.alike (h3.kept (hk _ (Nat.lt_of_lt_of_le h4 hb) (Nat.not_le.mpr h4))), h4, va_Z.moved hW.alike (h5.kept hk), va_T.moved hW.alike (h6.kept hk)⟩
theorem x_Am.blind {E : xEn} {U : State} {g : JFrame} {mk : MethodId} {a : Array Value} {H : Heap} (h : x_Am E U H) : x_Am E (U.calling g mk a) H := by
  obtain ⟨h1, h2, h3, h4, h5, h6⟩ := h
  exact ⟨va_K.moved (u := U) (U := U.calling g mk a) (Vm.Alike.refl U.vm) h1, ⟨fun t ht => va_Nw.same rfl (u := U) (U := U.calling g mk a) rfl (h2.1 t ht), fun t ht => va_Nw.same rfl (u := U) (U := U.calling g mk a) rfl (h2.2 t ht)⟩, va_X.moved (u := U) (U := U.calling g mk a) (Vm.Alike.refl U.vm) h3, h4, va_Z.moved (u := U) (U := U.calling g mk a) (Vm.Alike.refl U.vm) h5, va_T.moved (u := U) (U := U.calling g mk a) (Vm.Alike.refl U.vm) h6⟩
/-! ===== contracts ===== -/
def x_ws (M : xM) : List Cond := Cond.code M.1 M.2.1 M.2.2.1 M.2.2.2.1 :: wB
def x_rm (M : xM) : Room := { frames := M.2.2.2.2.1, cells := M.2.2.2.2.2.2.1, slots := M.2.2.2.2.2.2.2, locals := M.2.2.2.2.2.1 }
def x_Pre (E : xEn) (hp : List xC) (U : State) : Prop := x_Am E U U.heap ∧ va_P E.1 xCl (x_w E hp) U.heap ∧ U.heap.size = E.2.2.1 + hp.length
def x_Post (E : xEn) (n : Nat) (r : Option Value) (hp' : List xC) : Array Value → State → Outcome → State → Prop := fun _ st oc t => oc = .returned (r.map (x_v E)) ∧ va_P E.1 xCl (x_w E hp') t.heap ∧ hp'.length = n ∧ va_F (x_A E) st t
/-- a call of the method with these arguments in this world answers r, and the world becomes hp' -/
def Cal (E : xEn) (l : Launch) (M : xM) (as : List Value) (hp : List xC) (r : Option Value) (hp' : List xC) : Prop :=
  Met l M.1 (x_ws M) (x_rm M) (va_Pc (as.map (x_v E)) (x_Pre E hp)) (x_Post E (hp.length + M.2.2.2.2.2.2.1) r hp') M.2.2.2.2.2.2.1 M.2.2.2.2.2.2.2 (x_A E)
def x_Cx (E : xEn) (M : xM) (p : Program) (R : Room) (s : State) (m : MethodId) (args : Array Value) (meth : Method) (c : Code) : Prop :=
  p.tables.exec = Jvm.exec ∧ c.code = M.2.1 ∧ c.maxLocals = M.2.2.1 ∧ s.vm.findClass M.1.cls = some m.cls ∧ (∀ w ∈ wB, w.before args s = true) ∧ meth.name = M.1.name ∧ x_Am E s s.heap ∧ E.2.2.1 ≤ s.heap.size ∧
  (M.2.2.2.2.1 ≤ R.frames ∧ M.2.2.2.2.2.1 ≤ R.locals ∧ M.2.2.2.2.2.2.1 ≤ R.cells ∧ M.2.2.2.2.2.2.2 ≤ R.slots)
def x_rd (r : Option Value) : Instr := match r with
  | none => .return_
  | some (.long _) => .lreturn
  | some _ => .ireturn
/-- the method's answer fits its type -/
def x_rt (ret : Option FieldType) (r : Option Value) : Prop := match ret, r with
  | none, none => True
  | some .int, some (.int _) => True
  | some .boolean, some (.int v) => v &&& 1 = v
  | some .long, some (.long _) => True
  | _, _ => False
/-- from here the walk comes to a return with r and the world hp' -/
def G (E : xEn) (l : Launch) (M : xM) (pc : Nat) (lv : List (Nat × Value)) (st : List Value) (hp : List xC) (nc ns : Nat) (r : Option Value) (hp' : List xC) : Prop :=
  ∀ (p : Program) (e : Env) (R : Room) (s : State) (m : MethodId) (args : Array Value) (below : List Frame) (meth : Method) (c : Code) (Q : State → Prop) (H : Heap) (locs : List Loc) (ls : Array Slot),
    x_Cx E M p R s m args meth c → va_P E.1 xCl (x_w E hp) H → va_S (x_A E) s.heap H locs → s.heap.size + nc = E.2.2.1 + hp.length → lv_has ls M.2.2.1 (x_lv E lv) →
    (∀ (pc' : Nat) (H' : Heap) (locs' : List Loc) (ls' : Array Slot), decode M.2.1 pc' = .ok (x_rd r, 1) → x_rt M.2.2.2.1 r → va_P E.1 xCl (x_w E hp') H' → va_S (x_A E) s.heap H' locs' → s.heap.size + M.2.2.2.2.2.2.1 = E.2.2.1 + hp'.length →
      W p l e R s m args below meth c H' locs' M.2.2.2.2.2.2.1 M.2.2.2.2.2.2.2 Q (F0 m pc' ls' (r.map (x_v E)).toList)) →
    W p l e R s m args below meth c H locs nc ns Q (F0 m pc ls (st.map (x_v E)))
/-! ===== Java's arithmetic, where Lean's names are long ===== -/
def jrem (x y : Int32) : Int32 := x - x / y * y
def jremL (x y : Int64) : Int64 := x - x / y * y
def jushr (x y : Int32) : Int32 := (x.toUInt32 >>> (y.toUInt32 &&& Int32.toUInt32 31)).toInt32
def jshl (x y : Int32) : Int32 := x <<< (y &&& 31)
def jshr (x y : Int32) : Int32 := x >>> (y &&& 31)
end
section
section
variable {E : xEn} {l : Launch} {M : xM} {pc pc' : Nat} {lv lv' : List (Nat × Value)} {st : List Value} {hp : List xC} {nc ns : Nat} {r : Option Value} {hp' : List xC}
theorem g_ret {rs : List Value} (hd : decode M.2.1 pc = .ok (x_rd r, 1)) (hrt : x_rt M.2.2.2.1 r) (hc : M.2.2.2.2.2.2.1 = nc) (hs : M.2.2.2.2.2.2.2 = ns) (hst : rs = r.toList) : G E l M pc lv rs hp nc ns r hp := by
  subst hc; subst hs; subst hst
  intro p e R s m args below meth c Q H locs ls C hP hS hz hl K
  have e1 : r.toList.map (x_v E) = (r.map (x_v E)).toList := by cases r <;> rfl
  rw [e1]
  exact K pc H locs ls hd hrt hP hS hz
theorem g_sub (ks : List Nat) (hk : lv_pick lv ks = lv') (kk : G E l M pc lv' st hp nc ns r hp') : G E l M pc lv st hp nc ns r hp' := by
  intro p e R s m args below meth c Q H locs ls C hP hS hz hl K
  exact kk p e R s m args below meth c Q H locs ls C hP hS hz (x_lv_sub hl ks hk) K
theorem g_nm {v w : Value} (h : v = w) (kk : G E l M pc lv (w :: st) hp nc ns r hp') : G E l M pc lv (v :: st) hp nc ns r hp' := by rw [h]; exact kk
theorem g_nmi {v w : Int32} (h : some v = some w) (kk : G E l M pc lv (.int w :: st) hp nc ns r hp') : G E l M pc lv (.int v :: st) hp nc ns r hp' := by rw [Option.some.inj h]; exact kk
theorem g_nml {v w : Int64} (h : some v = some w) (kk : G E l M pc lv (.long w :: st) hp nc ns r hp') : G E l M pc lv (.long v :: st) hp nc ns r hp' := by rw [Option.some.inj h]; exact kk
theorem g_iadd {x y : Int32} (hd : decode M.2.1 pc = .ok (.iadd, 1)) (hpc : pc + 1 = pc')  (kk : G E l M pc' lv (.int (x + y) :: st) hp nc ns r hp') : G E l M pc lv (.int y :: .int x :: st) hp nc ns r hp' := by
  subst hpc
  intro p e R s m args below meth c Q H locs ls C hP hS hz hl K
  exact lv_iadd C.1 C.2.1 hd (kk p e R s m args below meth c Q H locs ls C hP hS hz hl K)
theorem g_isub {x y : Int32} (hd : decode M.2.1 pc = .ok (.isub, 1)) (hpc : pc + 1 = pc')  (kk : G E l M pc' lv (.int (x - y) :: st) hp nc ns r hp') : G E l M pc lv (.int y :: .int x :: st) hp nc ns r hp' := by
  subst hpc
  intro p e R s m args below meth c Q H locs ls C hP hS hz hl K
  exact lv_isub C.1 C.2.1 hd (kk p e R s m args below meth c Q H locs ls C hP hS hz hl K)
theorem g_imul {x y : Int32} (hd : decode M.2.1 pc = .ok (.imul, 1)) (hpc : pc + 1 = pc')  (kk : G E l M pc' lv (.int (x * y) :: st) hp nc ns r hp') : G E l M pc lv (.int y :: .int x :: st) hp nc ns r hp' := by
  subst hpc
  intro p e R s m args below meth c Q H locs ls C hP hS hz hl K
  exact lv_imul C.1 C.2.1 hd (kk p e R s m args below meth c Q H locs ls C hP hS hz hl K)
theorem g_iand {x y : Int32} (hd : decode M.2.1 pc = .ok (.iand, 1)) (hpc : pc + 1 = pc')  (kk : G E l M pc' lv (.int (x &&& y) :: st) hp nc ns r hp') : G E l M pc lv (.int y :: .int x :: st) hp nc ns r hp' := by
  subst hpc
  intro p e R s m args below meth c Q H locs ls C hP hS hz hl K
  exact lv_iand C.1 C.2.1 hd (kk p e R s m args below meth c Q H locs ls C hP hS hz hl K)
theorem g_ior {x y : Int32} (hd : decode M.2.1 pc = .ok (.ior, 1)) (hpc : pc + 1 = pc')  (kk : G E l M pc' lv (.int (x ||| y) :: st) hp nc ns r hp') : G E l M pc lv (.int y :: .int x :: st) hp nc ns r hp' := by
  subst hpc
  intro p e R s m args below meth c Q H locs ls C hP hS hz hl K
  exact lv_ior C.1 C.2.1 hd (kk p e R s m args below meth c Q H locs ls C hP hS hz hl K)
theorem g_ixor {x y : Int32} (hd : decode M.2.1 pc = .ok (.ixor, 1)) (hpc : pc + 1 = pc')  (kk : G E l M pc' lv (.int (x ^^^ y) :: st) hp nc ns r hp') : G E l M pc lv (.int y :: .int x :: st) hp nc ns r hp' := by
  subst hpc
  intro p e R s m args below meth c Q H locs ls C hP hS hz hl K
  exact lv_ixor C.1 C.2.1 hd (kk p e R s m args below meth c Q H locs ls C hP hS hz hl K)
theorem g_idiv {x y : Int32} (hd : decode M.2.1 pc = .ok (.idiv, 1)) (hpc : pc + 1 = pc') (hne : ¬ y = 0) (kk : G E l M pc' lv (.int (x / y) :: st) hp nc ns r hp') : G E l M pc lv (.int y :: .int x :: st) hp nc ns r hp' := by
  subst hpc
  intro p e R s m args below meth c Q H locs ls C hP hS hz hl K
  exact lv_idiv C.1 C.2.1 hd hne (kk p e R s m args below meth c Q H locs ls C hP hS hz hl K)
theorem g_irem {x y : Int32} (hd : decode M.2.1 pc = .ok (.irem, 1)) (hpc : pc + 1 = pc') (hne : ¬ y = 0) (kk : G E l M pc' lv (.int (jrem x y) :: st) hp nc ns r hp') : G E l M pc lv (.int y :: .int x :: st) hp nc ns r hp' := by
  subst hpc
  intro p e R s m args below meth c Q H locs ls C hP hS hz hl K
  exact lv_irem C.1 C.2.1 hd hne (kk p e R s m args below meth c Q H locs ls C hP hS hz hl K)
theorem g_ladd {x y : Int64} (hd : decode M.2.1 pc = .ok (.ladd, 1)) (hpc : pc + 1 = pc')  (kk : G E l M pc' lv (.long (x + y) :: st) hp nc ns r hp') : G E l M pc lv (.long y :: .long x :: st) hp nc ns r hp' := by
  subst hpc
  intro p e R s m args below meth c Q H locs ls C hP hS hz hl K
  exact lv_ladd C.1 C.2.1 hd (kk p e R s m args below meth c Q H locs ls C hP hS hz hl K)
theorem g_lmul {x y : Int64} (hd : decode M.2.1 pc = .ok (.lmul, 1)) (hpc : pc + 1 = pc')  (kk : G E l M pc' lv (.long (x * y) :: st) hp nc ns r hp') : G E l M pc lv (.long y :: .long x :: st) hp nc ns r hp' := by
  subst hpc
  intro p e R s m args below meth c Q H locs ls C hP hS hz hl K
  exact lv_lmul C.1 C.2.1 hd (kk p e R s m args below meth c Q H locs ls C hP hS hz hl K)
theorem g_ldiv {x y : Int64} (hd : decode M.2.1 pc = .ok (.ldiv, 1)) (hpc : pc + 1 = pc') (hne : ¬ y = 0) (kk : G E l M pc' lv (.long (x / y) :: st) hp nc ns r hp') : G E l M pc lv (.long y :: .long x :: st) hp nc ns r hp' := by
  subst hpc
  intro p e R s m args below meth c Q H locs ls C hP hS hz hl K
  exact lv_ldiv C.1 C.2.1 hd hne (kk p e R s m args below meth c Q H locs ls C hP hS hz hl K)
theorem g_lrem {x y : Int64} (hd : decode M.2.1 pc = .ok (.lrem, 1)) (hpc : pc + 1 = pc') (hne : ¬ y = 0) (kk : G E l M pc' lv (.long (jremL x y) :: st) hp nc ns r hp') : G E l M pc lv (.long y :: .long x :: st) hp nc ns r hp' := by
  subst hpc
  intro p e R s m args below meth c Q H locs ls C hP hS hz hl K
  exact lv_lrem C.1 C.2.1 hd hne (kk p e R s m args below meth c Q H locs ls C hP hS hz hl K)
theorem g_ishl {x y : Int32} (hd : decode M.2.1 pc = .ok (.ishl, 1)) (hpc : pc + 1 = pc')  (kk : G E l M pc' lv (.int (jshl x y) :: st) hp nc ns r hp') : G E l M pc lv (.int y :: .int x :: st) hp nc ns r hp' := by
  subst hpc
  intro p e R s m args below meth c Q H locs ls C hP hS hz hl K
  exact lv_ishl C.1 C.2.1 hd (kk p e R s m args below meth c Q H locs ls C hP hS hz hl K)
theorem g_ishr {x y : Int32} (hd : decode M.2.1 pc = .ok (.ishr, 1)) (hpc : pc + 1 = pc')  (kk : G E l M pc' lv (.int (jshr x y) :: st) hp nc ns r hp') : G E l M pc lv (.int y :: .int x :: st) hp nc ns r hp' := by
  subst hpc
  intro p e R s m args below meth c Q H locs ls C hP hS hz hl K
  exact lv_ishr C.1 C.2.1 hd (kk p e R s m args below meth c Q H locs ls C hP hS hz hl K)
theorem g_iushr {x y : Int32} (hd : decode M.2.1 pc = .ok (.iushr, 1)) (hpc : pc + 1 = pc')  (kk : G E l M pc' lv (.int (jushr x y) :: st) hp nc ns r hp') : G E l M pc lv (.int y :: .int x :: st) hp nc ns r hp' := by
  subst hpc
  intro p e R s m args below meth c Q H locs ls C hP hS hz hl K
  exact lv_iushr C.1 C.2.1 hd rfl (kk p e R s m args below meth c Q H locs ls C hP hS hz hl K)
theorem g_ineg {x : Int32} (hd : decode M.2.1 pc = .ok (.ineg, 1)) (hpc : pc + 1 = pc')  (kk : G E l M pc' lv (.int (-x) :: st) hp nc ns r hp') : G E l M pc lv (.int x :: st) hp nc ns r hp' := by
  subst hpc
  intro p e R s m args below meth c Q H locs ls C hP hS hz hl K
  exact lv_ineg C.1 C.2.1 hd (kk p e R s m args below meth c Q H locs ls C hP hS hz hl K)
theorem g_i2l {x : Int32} (hd : decode M.2.1 pc = .ok (.i2l, 1)) (hpc : pc + 1 = pc')  (kk : G E l M pc' lv (.long x.toInt64 :: st) hp nc ns r hp') : G E l M pc lv (.int x :: st) hp nc ns r hp' := by
  subst hpc
  intro p e R s m args below meth c Q H locs ls C hP hS hz hl K
  exact lv_i2l C.1 C.2.1 hd rfl (kk p e R s m args below meth c Q H locs ls C hP hS hz hl K)
theorem g_l2i {x : Int64} (hd : decode M.2.1 pc = .ok (.l2i, 1)) (hpc : pc + 1 = pc')  (kk : G E l M pc' lv (.int x.toInt32 :: st) hp nc ns r hp') : G E l M pc lv (.long x :: st) hp nc ns r hp' := by
  subst hpc
  intro p e R s m args below meth c Q H locs ls C hP hS hz hl K
  exact lv_l2i C.1 C.2.1 hd rfl (kk p e R s m args below meth c Q H locs ls C hP hS hz hl K)
theorem g_lcmp {x y : Int64} (hd : decode M.2.1 pc = .ok (.lcmp, 1)) (hpc : pc + 1 = pc')  (kk : G E l M pc' lv (.int (lg_cmp x y) :: st) hp nc ns r hp') : G E l M pc lv (.long y :: .long x :: st) hp nc ns r hp' := by
  subst hpc
  intro p e R s m args below meth c Q H locs ls C hP hS hz hl K
  exact W.lcmp C.1 C.2.1 hd (kk p e R s m args below meth c Q H locs ls C hP hS hz hl K)
theorem g_iconst {n : Int} (v : Int32) (hd : decode M.2.1 pc = .ok (.iconst n, 1)) (hpc : pc + 1 = pc') (hv : Int32.ofInt n = v) (kk : G E l M pc' lv (.int v :: st) hp nc ns r hp') : G E l M pc lv (st) hp nc ns r hp' := by
  subst hpc
  intro p e R s m args below meth c Q H locs ls C hP hS hz hl K
  exact lv_iconst C.1 C.2.1 hd hv (kk p e R s m args below meth c Q H locs ls C hP hS hz hl K)
theorem g_bipush {n : Int} (v : Int32) (hd : decode M.2.1 pc = .ok (.bipush n, 2)) (hpc : pc + 2 = pc') (hv : (Int8.ofInt n).toInt32 = v) (kk : G E l M pc' lv (.int v :: st) hp nc ns r hp') : G E l M pc lv (st) hp nc ns r hp' := by
  subst hpc
  intro p e R s m args below meth c Q H locs ls C hP hS hz hl K
  exact lv_bipush C.1 C.2.1 hd hv (kk p e R s m args below meth c Q H locs ls C hP hS hz hl K)
theorem g_sipush {n : Int} (v : Int32) (hd : decode M.2.1 pc = .ok (.sipush n, 3)) (hpc : pc + 3 = pc') (hv : (Int16.ofInt n).toInt32 = v) (kk : G E l M pc' lv (.int v :: st) hp nc ns r hp') : G E l M pc lv (st) hp nc ns r hp' := by
  subst hpc
  intro p e R s m args below meth c Q H locs ls C hP hS hz hl K
  exact lv_sipush C.1 C.2.1 hd hv (kk p e R s m args below meth c Q H locs ls C hP hS hz hl K)
theorem g_lconst {n : Fin 2} (v : Int64) (hd : decode M.2.1 pc = .ok (.lconst n, 1)) (hpc : pc + 1 = pc') (hv : Int64.ofNat (n : Nat) = v) (kk : G E l M pc' lv (.long v :: st) hp nc ns r hp') : G E l M pc lv (st) hp nc ns r hp' := by
  subst hpc
  intro p e R s m args below meth c Q H locs ls C hP hS hz hl K
  exact lv_lconst C.1 C.2.1 hd hv (kk p e R s m args below meth c Q H locs ls C hP hS hz hl K)
theorem g_ldc {ix : Nat} {v : Int32} (hd : decode M.2.1 pc = .ok (.ldc ix, 2)) (hpc : pc + 2 = pc') (hw : Cond.constant M.1.cls ix v ∈ wB) (kk : G E l M pc' lv (.int v :: st) hp nc ns r hp') : G E l M pc lv (st) hp nc ns r hp' := by
  subst hpc
  intro p e R s m args below meth c Q H locs ls C hP hS hz hl K
  exact lv_ldc C.1 C.2.1 C.2.2.2.1 (C.2.2.2.2.1 _ hw) hd (kk p e R s m args below meth c Q H locs ls C hP hS hz hl K)
theorem g_ldcw {ix : Nat} {v : Int32} (hd : decode M.2.1 pc = .ok (.ldc_w ix, 3)) (hpc : pc + 3 = pc') (hw : Cond.constant M.1.cls ix v ∈ wB) (kk : G E l M pc' lv (.int v :: st) hp nc ns r hp') : G E l M pc lv (st) hp nc ns r hp' := by
  subst hpc
  intro p e R s m args below meth c Q H locs ls C hP hS hz hl K
  exact lv_ldcw C.1 C.2.1 C.2.2.2.1 (C.2.2.2.2.1 _ hw) hd (kk p e R s m args below meth c Q H locs ls C hP hS hz hl K)
theorem g_ldc2 {ix : Nat} {v : Int64} (hd : decode M.2.1 pc = .ok (.ldc2_w ix, 3)) (hpc : pc + 3 = pc') (hw : Cond.constantLong M.1.cls ix v ∈ wB) (kk : G E l M pc' lv (.long v :: st) hp nc ns r hp') : G E l M pc lv (st) hp nc ns r hp' := by
  subst hpc
  intro p e R s m args below meth c Q H locs ls C hP hS hz hl K
  exact lv_ldc2 C.1 C.2.1 C.2.2.2.1 (C.2.2.2.2.1 _ hw) hd (kk p e R s m args below meth c Q H locs ls C hP hS hz hl K)
theorem g_iload_n {k : Fin 4} {x : Int32} (j i : Nat) (hd : decode M.2.1 pc = .ok (.iload_n k, 1)) (hpc : pc + 1 = pc') (hi : (k : Nat) = i) (hj : lv[j]? = some (i, .int x)) (kk : G E l M pc' lv (.int x :: st) hp nc ns r hp') : G E l M pc lv (st) hp nc ns r hp' := by
  subst hpc
  intro p e R s m args below meth c Q H locs ls C hP hS hz hl K
  exact lv_iload_n C.1 C.2.1 hd hi (x_lv_at hl j hj) (kk p e R s m args below meth c Q H locs ls C hP hS hz hl K)
theorem g_iload {i : Nat} {x : Int32} (j : Nat) (hd : decode M.2.1 pc = .ok (.iload i, 2)) (hpc : pc + 2 = pc') (hj : lv[j]? = some (i, .int x)) (kk : G E l M pc' lv (.int x :: st) hp nc ns r hp') : G E l M pc lv (st) hp nc ns r hp' := by
  subst hpc
  intro p e R s m args below meth c Q H locs ls C hP hS hz hl K
  exact lv_iload C.1 C.2.1 hd (x_lv_at hl j hj) (kk p e R s m args below meth c Q H locs ls C hP hS hz hl K)
theorem g_istore_n {k : Fin 4} (i : Nat) {x : Int32} (lv' : List (Nat × Value)) (hd : decode M.2.1 pc = .ok (.istore_n k, 1)) (hpc : pc + 1 = pc') (hi : (k : Nat) = i) (hn : i < M.2.2.1) (he : (i, Value.int x) :: lv.filter (fun q => !(q.1 == i) && !(q.1 + 1 == i && q.2.category == 2)) = lv') (kk : G E l M pc' lv' st hp nc ns r hp') : G E l M pc lv (.int x :: st) hp nc ns r hp' := by
  subst hpc
  intro p e R s m args below meth c Q H locs ls C hP hS hz hl K
  exact lv_istore_n C.1 C.2.1 hd hi hl hn (lv' := x_lv E lv') (by rw [x_lv_f1, ← he]; rfl) (fun ls' hl2 => kk p e R s m args below meth c Q H locs ls' C hP hS hz hl2 K)
theorem g_istore {i : Nat} {x : Int32} (lv' : List (Nat × Value)) (hd : decode M.2.1 pc = .ok (.istore i, 2)) (hpc : pc + 2 = pc')  (hn : i < M.2.2.1) (he : (i, Value.int x) :: lv.filter (fun q => !(q.1 == i) && !(q.1 + 1 == i && q.2.category == 2)) = lv') (kk : G E l M pc' lv' st hp nc ns r hp') : G E l M pc lv (.int x :: st) hp nc ns r hp' := by
  subst hpc
  intro p e R s m args below meth c Q H locs ls C hP hS hz hl K
  exact lv_istore C.1 C.2.1 hd hl hn (lv' := x_lv E lv') (by rw [x_lv_f1, ← he]; rfl) (fun ls' hl2 => kk p e R s m args below meth c Q H locs ls' C hP hS hz hl2 K)
theorem g_lload_n {k : Fin 4} {x : Int64} (j i : Nat) (hd : decode M.2.1 pc = .ok (.lload_n k, 1)) (hpc : pc + 1 = pc') (hi : (k : Nat) = i) (hj : lv[j]? = some (i, .long x)) (kk : G E l M pc' lv (.long x :: st) hp nc ns r hp') : G E l M pc lv (st) hp nc ns r hp' := by
  subst hpc
  intro p e R s m args below meth c Q H locs ls C hP hS hz hl K
  exact lv_lload_n C.1 C.2.1 hd hi (x_lv_at hl j hj) (kk p e R s m args below meth c Q H locs ls C hP hS hz hl K)
theorem g_lload {i : Nat} {x : Int64} (j : Nat) (hd : decode M.2.1 pc = .ok (.lload i, 2)) (hpc : pc + 2 = pc') (hj : lv[j]? = some (i, .long x)) (kk : G E l M pc' lv (.long x :: st) hp nc ns r hp') : G E l M pc lv (st) hp nc ns r hp' := by
  subst hpc
  intro p e R s m args below meth c Q H locs ls C hP hS hz hl K
  exact lv_lload C.1 C.2.1 hd (x_lv_at hl j hj) (kk p e R s m args below meth c Q H locs ls C hP hS hz hl K)
theorem g_lstore_n {k : Fin 4} (i : Nat) {x : Int64} (lv' : List (Nat × Value)) (hd : decode M.2.1 pc = .ok (.lstore_n k, 1)) (hpc : pc + 1 = pc') (hi : (k : Nat) = i) (hn : i + 1 < M.2.2.1) (he : (i, Value.long x) :: lv.filter (fun q => !(q.1 == i) && (!(q.1 == i + 1) && !(q.1 + 1 == i && q.2.category == 2))) = lv') (kk : G E l M pc' lv' st hp nc ns r hp') : G E l M pc lv (.long x :: st) hp nc ns r hp' := by
  subst hpc
  intro p e R s m args below meth c Q H locs ls C hP hS hz hl K
  exact lv_lstore_n C.1 C.2.1 hd hi hl hn (lv' := x_lv E lv') (by rw [x_lv_f2, ← he]; rfl) (fun ls' hl2 => kk p e R s m args below meth c Q H locs ls' C hP hS hz hl2 K)
theorem g_lstore {i : Nat} {x : Int64} (lv' : List (Nat × Value)) (hd : decode M.2.1 pc = .ok (.lstore i, 2)) (hpc : pc + 2 = pc')  (hn : i + 1 < M.2.2.1) (he : (i, Value.long x) :: lv.filter (fun q => !(q.1 == i) && (!(q.1 == i + 1) && !(q.1 + 1 == i && q.2.category == 2))) = lv') (kk : G E l M pc' lv' st hp nc ns r hp') : G E l M pc lv (.long x :: st) hp nc ns r hp' := by
  subst hpc
  intro p e R s m args below meth c Q H locs ls C hP hS hz hl K
  exact lv_lstore C.1 C.2.1 hd hl hn (lv' := x_lv E lv') (by rw [x_lv_f2, ← he]; rfl) (fun ls' hl2 => kk p e R s m args below meth c Q H locs ls' C hP hS hz hl2 K)
theorem g_aload_n {k : Fin 4} {x : Nat} (j i : Nat) (hd : decode M.2.1 pc = .ok (.aload_n k, 1)) (hpc : pc + 1 = pc') (hi : (k : Nat) = i) (hj : lv[j]? = some (i, .ref x)) (kk : G E l M pc' lv (.ref x :: st) hp nc ns r hp') : G E l M pc lv (st) hp nc ns r hp' := by
  subst hpc
  intro p e R s m args below meth c Q H locs ls C hP hS hz hl K
  exact lv_aload_n C.1 C.2.1 hd hi (x_lv_at hl j hj) (kk p e R s m args below meth c Q H locs ls C hP hS hz hl K)
theorem g_aload {i : Nat} {x : Nat} (j : Nat) (hd : decode M.2.1 pc = .ok (.aload i, 2)) (hpc : pc + 2 = pc') (hj : lv[j]? = some (i, .ref x)) (kk : G E l M pc' lv (.ref x :: st) hp nc ns r hp') : G E l M pc lv (st) hp nc ns r hp' := by
  subst hpc
  intro p e R s m args below meth c Q H locs ls C hP hS hz hl K
  exact lv_aload C.1 C.2.1 hd (x_lv_at hl j hj) (kk p e R s m args below meth c Q H locs ls C hP hS hz hl K)
theorem g_astore_n {k : Fin 4} (i : Nat) {x : Nat} (lv' : List (Nat × Value)) (hd : decode M.2.1 pc = .ok (.astore_n k, 1)) (hpc : pc + 1 = pc') (hi : (k : Nat) = i) (hn : i < M.2.2.1) (he : (i, Value.ref x) :: lv.filter (fun q => !(q.1 == i) && !(q.1 + 1 == i && q.2.category == 2)) = lv') (kk : G E l M pc' lv' st hp nc ns r hp') : G E l M pc lv (.ref x :: st) hp nc ns r hp' := by
  subst hpc
  intro p e R s m args below meth c Q H locs ls C hP hS hz hl K
  exact lv_astore_n C.1 C.2.1 hd hi hl hn (lv' := x_lv E lv') (by rw [x_lv_f1, ← he]; rfl) (fun ls' hl2 => kk p e R s m args below meth c Q H locs ls' C hP hS hz hl2 K)
theorem g_astore {i : Nat} {x : Nat} (lv' : List (Nat × Value)) (hd : decode M.2.1 pc = .ok (.astore i, 2)) (hpc : pc + 2 = pc')  (hn : i < M.2.2.1) (he : (i, Value.ref x) :: lv.filter (fun q => !(q.1 == i) && !(q.1 + 1 == i && q.2.category == 2)) = lv') (kk : G E l M pc' lv' st hp nc ns r hp') : G E l M pc lv (.ref x :: st) hp nc ns r hp' := by
  subst hpc
  intro p e R s m args below meth c Q H locs ls C hP hS hz hl K
  exact lv_astore C.1 C.2.1 hd hl hn (lv' := x_lv E lv') (by rw [x_lv_f1, ← he]; rfl) (fun ls' hl2 => kk p e R s m args below meth c Q H locs ls' C hP hS hz hl2 K)
theorem g_sload_n {k : Fin 4} {x : UInt32} (j i : Nat) (hd : decode M.2.1 pc = .ok (.aload_n k, 1)) (hpc : pc + 1 = pc') (hi : (k : Nat) = i) (hj : lv[j]? = some (i, .float x)) (kk : G E l M pc' lv (.float x :: st) hp nc ns r hp') : G E l M pc lv (st) hp nc ns r hp' := by
  subst hpc
  intro p e R s m args below meth c Q H locs ls C hP hS hz hl K
  exact lv_aload_n C.1 C.2.1 hd hi (x_lv_at hl j hj) (kk p e R s m args below meth c Q H locs ls C hP hS hz hl K)
theorem g_iinc {i : Nat} {n : Int} {x : Int32} (d : Int32) (j : Nat) (lv' : List (Nat × Value)) (hd : decode M.2.1 pc = .ok (.iinc i n, 3)) (hpc : pc + 3 = pc') (hj : lv[j]? = some (i, .int x)) (hv : Int32.ofInt n = d) (hn : i < M.2.2.1) (he : (i, Value.int (x + d)) :: lv.filter (fun q => !(q.1 == i) && !(q.1 + 1 == i && q.2.category == 2)) = lv') (kk : G E l M pc' lv' st hp nc ns r hp') : G E l M pc lv st hp nc ns r hp' := by
  subst hpc
  intro p e R s m args below meth c Q H locs ls C hP hS hz hl K
  exact lv_iinc C.1 C.2.1 hd hl (k := j) (x := x) (by rw [x_lv, List.getElem?_map, hj]; rfl) (by rw [hv]) hn (lv' := x_lv E lv') (by rw [x_lv_f1, ← he]; rfl) (fun ls' hl2 => kk p e R s m args below meth c Q H locs ls' C hP hS hz hl2 K)
theorem g_dup {a : Value} (hd : decode M.2.1 pc = .ok (.dup, 1)) (hpc : pc + 1 = pc') (h1 : a.category = 1) (kk : G E l M pc' lv (a :: a :: st) hp nc ns r hp') : G E l M pc lv (a :: st) hp nc ns r hp' := by
  subst hpc
  intro p e R s m args below meth c Q H locs ls C hP hS hz hl K
  exact lv_dup C.1 C.2.1 hd ((x_v_cat E a).trans h1) (kk p e R s m args below meth c Q H locs ls C hP hS hz hl K)
theorem g_pop {a : Value} (hd : decode M.2.1 pc = .ok (.pop, 1)) (hpc : pc + 1 = pc') (h1 : a.category = 1) (kk : G E l M pc' lv (st) hp nc ns r hp') : G E l M pc lv (a :: st) hp nc ns r hp' := by
  subst hpc
  intro p e R s m args below meth c Q H locs ls C hP hS hz hl K
  exact lv_pop C.1 C.2.1 hd ((x_v_cat E a).trans h1) (kk p e R s m args below meth c Q H locs ls C hP hS hz hl K)
theorem g_dup2 {a b : Value} (hd : decode M.2.1 pc = .ok (.dup2, 1)) (hpc : pc + 1 = pc') (h1 : a.category = 1) (h2 : b.category = 1) (kk : G E l M pc' lv (a :: b :: a :: b :: st) hp nc ns r hp') : G E l M pc lv (a :: b :: st) hp nc ns r hp' := by
  subst hpc
  intro p e R s m args below meth c Q H locs ls C hP hS hz hl K
  exact lv_dup2_11 C.1 C.2.1 hd ((x_v_cat E a).trans h1) ((x_v_cat E b).trans h2) (kk p e R s m args below meth c Q H locs ls C hP hS hz hl K)
theorem g_icmp_eq {x y : Int32} {off : Int} (tgt : Nat) (hd : decode M.2.1 pc = .ok (.if_icmp .eq off, 3)) (ht : (pc : Int) + off = (tgt : Int)) (hpc : pc + 3 = pc') (kt : x = y → G E l M tgt lv st hp nc ns r hp') (kf : ¬ x = y → G E l M pc' lv st hp nc ns r hp') : G E l M pc lv (.int y :: .int x :: st) hp nc ns r hp' := by
  subst hpc
  intro p e R s m args below meth c Q H locs ls C hP hS hz hl K
  exact lv_icmp_eq C.1 C.2.1 hd ht (fun h => kt h p e R s m args below meth c Q H locs ls C hP hS hz hl K) (fun h => kf h p e R s m args below meth c Q H locs ls C hP hS hz hl K)
theorem g_if_eq {x : Int32} {off : Int} (tgt : Nat) (hd : decode M.2.1 pc = .ok (.ifCond .eq off, 3)) (ht : (pc : Int) + off = (tgt : Int)) (hpc : pc + 3 = pc') (kt : x = 0 → G E l M tgt lv st hp nc ns r hp') (kf : ¬ x = 0 → G E l M pc' lv st hp nc ns r hp') : G E l M pc lv (.int x :: st) hp nc ns r hp' := by
  subst hpc
  intro p e R s m args below meth c Q H locs ls C hP hS hz hl K
  exact lv_if_eq C.1 C.2.1 hd ht (fun h => kt h p e R s m args below meth c Q H locs ls C hP hS hz hl K) (fun h => kf h p e R s m args below meth c Q H locs ls C hP hS hz hl K)
theorem g_icmp_ne {x y : Int32} {off : Int} (tgt : Nat) (hd : decode M.2.1 pc = .ok (.if_icmp .ne off, 3)) (ht : (pc : Int) + off = (tgt : Int)) (hpc : pc + 3 = pc') (kt : ¬ x = y → G E l M tgt lv st hp nc ns r hp') (kf : x = y → G E l M pc' lv st hp nc ns r hp') : G E l M pc lv (.int y :: .int x :: st) hp nc ns r hp' := by
  subst hpc
  intro p e R s m args below meth c Q H locs ls C hP hS hz hl K
  exact lv_icmp_ne C.1 C.2.1 hd ht (fun h => kt h p e R s m args below meth c Q H locs ls C hP hS hz hl K) (fun h => kf h p e R s m args below meth c Q H locs ls C hP hS hz hl K)
theorem g_if_ne {x : Int32} {off : Int} (tgt : Nat) (hd : decode M.2.1 pc = .ok (.ifCond .ne off, 3)) (ht : (pc : Int) + off = (tgt : Int)) (hpc : pc + 3 = pc') (kt : ¬ x = 0 → G E l M tgt lv st hp nc ns r hp') (kf : x = 0 → G E l M pc' lv st hp nc ns r hp') : G E l M pc lv (.int x :: st) hp nc ns r hp' := by
  subst hpc
  intro p e R s m args below meth c Q H locs ls C hP hS hz hl K
  exact lv_if_ne C.1 C.2.1 hd ht (fun h => kt h p e R s m args below meth c Q H locs ls C hP hS hz hl K) (fun h => kf h p e R s m args below meth c Q H locs ls C hP hS hz hl K)
theorem g_icmp_lt {x y : Int32} {off : Int} (tgt : Nat) (hd : decode M.2.1 pc = .ok (.if_icmp .lt off, 3)) (ht : (pc : Int) + off = (tgt : Int)) (hpc : pc + 3 = pc') (kt : x < y → G E l M tgt lv st hp nc ns r hp') (kf : ¬ x < y → G E l M pc' lv st hp nc ns r hp') : G E l M pc lv (.int y :: .int x :: st) hp nc ns r hp' := by
  subst hpc
  intro p e R s m args below meth c Q H locs ls C hP hS hz hl K
  exact lv_icmp_lt C.1 C.2.1 hd ht (fun h => kt h p e R s m args below meth c Q H locs ls C hP hS hz hl K) (fun h => kf h p e R s m args below meth c Q H locs ls C hP hS hz hl K)
theorem g_if_lt {x : Int32} {off : Int} (tgt : Nat) (hd : decode M.2.1 pc = .ok (.ifCond .lt off, 3)) (ht : (pc : Int) + off = (tgt : Int)) (hpc : pc + 3 = pc') (kt : x < 0 → G E l M tgt lv st hp nc ns r hp') (kf : ¬ x < 0 → G E l M pc' lv st hp nc ns r hp') : G E l M pc lv (.int x :: st) hp nc ns r hp' := by
  subst hpc
  intro p e R s m args below meth c Q H locs ls C hP hS hz hl K
  exact lv_if_lt C.1 C.2.1 hd ht (fun h => kt h p e R s m args below meth c Q H locs ls C hP hS hz hl K) (fun h => kf h p e R s m args below meth c Q H locs ls C hP hS hz hl K)
theorem g_icmp_ge {x y : Int32} {off : Int} (tgt : Nat) (hd : decode M.2.1 pc = .ok (.if_icmp .ge off, 3)) (ht : (pc : Int) + off = (tgt : Int)) (hpc : pc + 3 = pc') (kt : y ≤ x → G E l M tgt lv st hp nc ns r hp') (kf : ¬ y ≤ x → G E l M pc' lv st hp nc ns r hp') : G E l M pc lv (.int y :: .int x :: st) hp nc ns r hp' := by
  subst hpc
  intro p e R s m args below meth c Q H locs ls C hP hS hz hl K
  exact lv_icmp_ge C.1 C.2.1 hd ht (fun h => kt h p e R s m args below meth c Q H locs ls C hP hS hz hl K) (fun h => kf h p e R s m args below meth c Q H locs ls C hP hS hz hl K)
theorem g_if_ge {x : Int32} {off : Int} (tgt : Nat) (hd : decode M.2.1 pc = .ok (.ifCond .ge off, 3)) (ht : (pc : Int) + off = (tgt : Int)) (hpc : pc + 3 = pc') (kt : 0 ≤ x → G E l M tgt lv st hp nc ns r hp') (kf : ¬ 0 ≤ x → G E l M pc' lv st hp nc ns r hp') : G E l M pc lv (.int x :: st) hp nc ns r hp' := by
  subst hpc
  intro p e R s m args below meth c Q H locs ls C hP hS hz hl K
  exact lv_if_ge C.1 C.2.1 hd ht (fun h => kt h p e R s m args below meth c Q H locs ls C hP hS hz hl K) (fun h => kf h p e R s m args below meth c Q H locs ls C hP hS hz hl K)
theorem g_icmp_gt {x y : Int32} {off : Int} (tgt : Nat) (hd : decode M.2.1 pc = .ok (.if_icmp .gt off, 3)) (ht : (pc : Int) + off = (tgt : Int)) (hpc : pc + 3 = pc') (kt : y < x → G E l M tgt lv st hp nc ns r hp') (kf : ¬ y < x → G E l M pc' lv st hp nc ns r hp') : G E l M pc lv (.int y :: .int x :: st) hp nc ns r hp' := by
  subst hpc
  intro p e R s m args below meth c Q H locs ls C hP hS hz hl K
  exact lv_icmp_gt C.1 C.2.1 hd ht (fun h => kt h p e R s m args below meth c Q H locs ls C hP hS hz hl K) (fun h => kf h p e R s m args below meth c Q H locs ls C hP hS hz hl K)
theorem g_if_gt {x : Int32} {off : Int} (tgt : Nat) (hd : decode M.2.1 pc = .ok (.ifCond .gt off, 3)) (ht : (pc : Int) + off = (tgt : Int)) (hpc : pc + 3 = pc') (kt : 0 < x → G E l M tgt lv st hp nc ns r hp') (kf : ¬ 0 < x → G E l M pc' lv st hp nc ns r hp') : G E l M pc lv (.int x :: st) hp nc ns r hp' := by
  subst hpc
  intro p e R s m args below meth c Q H locs ls C hP hS hz hl K
  exact lv_if_gt C.1 C.2.1 hd ht (fun h => kt h p e R s m args below meth c Q H locs ls C hP hS hz hl K) (fun h => kf h p e R s m args below meth c Q H locs ls C hP hS hz hl K)
theorem g_icmp_le {x y : Int32} {off : Int} (tgt : Nat) (hd : decode M.2.1 pc = .ok (.if_icmp .le off, 3)) (ht : (pc : Int) + off = (tgt : Int)) (hpc : pc + 3 = pc') (kt : x ≤ y → G E l M tgt lv st hp nc ns r hp') (kf : ¬ x ≤ y → G E l M pc' lv st hp nc ns r hp') : G E l M pc lv (.int y :: .int x :: st) hp nc ns r hp' := by
  subst hpc
  intro p e R s m args below meth c Q H locs ls C hP hS hz hl K
  exact lv_icmp_le C.1 C.2.1 hd ht (fun h => kt h p e R s m args below meth c Q H locs ls C hP hS hz hl K) (fun h => kf h p e R s m args below meth c Q H locs ls C hP hS hz hl K)
theorem g_if_le {x : Int32} {off : Int} (tgt : Nat) (hd : decode M.2.1 pc = .ok (.ifCond .le off, 3)) (ht : (pc : Int) + off = (tgt : Int)) (hpc : pc + 3 = pc') (kt : x ≤ 0 → G E l M tgt lv st hp nc ns r hp') (kf : ¬ x ≤ 0 → G E l M pc' lv st hp nc ns r hp') : G E l M pc lv (.int x :: st) hp nc ns r hp' := by
  subst hpc
  intro p e R s m args below meth c Q H locs ls C hP hS hz hl K
  exact lv_if_le C.1 C.2.1 hd ht (fun h => kt h p e R s m args below meth c Q H locs ls C hP hS hz hl K) (fun h => kf h p e R s m args below meth c Q H locs ls C hP hS hz hl K)
theorem g_goto {off : Int} (tgt : Nat) (hd : decode M.2.1 pc = .ok (.goto off, 3)) (ht : (pc : Int) + off = (tgt : Int)) (kk : G E l M tgt lv st hp nc ns r hp') : G E l M pc lv st hp nc ns r hp' := by
  intro p e R s m args below meth c Q H locs ls C hP hS hz hl K
  exact lv_goto C.1 C.2.1 hd ht (kk p e R s m args below meth c Q H locs ls C hP hS hz hl K)
theorem g_tsw_in {dflt lo hi : Int} {offs : Array Int} {len : Nat} {x : Int32} {off : Int} (tgt : Nat) (hd : decode M.2.1 pc = .ok (.tableswitch dflt lo hi offs, len)) (h1 : ¬ x.toInt < lo) (h2 : ¬ hi < x.toInt) (ho : offs[(x.toInt - lo).toNat]? = some off) (ht : (pc : Int) + off = (tgt : Int)) (kk : G E l M tgt lv st hp nc ns r hp') : G E l M pc lv (.int x :: st) hp nc ns r hp' := by
  intro p e R s m args below meth c Q H locs ls C hP hS hz hl K
  exact lv_tableIn C.1 C.2.1 hd h1 h2 ho ht (kk p e R s m args below meth c Q H locs ls C hP hS hz hl K)
theorem g_tsw_out {dflt lo hi : Int} {offs : Array Int} {len : Nat} {x : Int32} (tgt : Nat) (hd : decode M.2.1 pc = .ok (.tableswitch dflt lo hi offs, len)) (h : x.toInt < lo ∨ hi < x.toInt) (ht : (pc : Int) + dflt = (tgt : Int)) (kk : G E l M tgt lv st hp nc ns r hp') : G E l M pc lv (.int x :: st) hp nc ns r hp' := by
  intro p e R s m args below meth c Q H locs ls C hP hS hz hl K
  exact lv_tableOut C.1 C.2.1 hd h ht (kk p e R s m args below meth c Q H locs ls C hP hS hz hl K)
end
/-! ===== fields ===== -/
def xgV (h : List xC) (p ci k : Nat) : Option Value := match h[p]? with
  | some (.inr (c, fs)) => if c = ci then fs[k]? else none
  | _ => none
def xgI (h : List xC) (p ci k : Nat) : Option Int32 := match xgV h p ci k with
  | some (.int v) => some v
  | _ => none
def xgL (h : List xC) (p ci k : Nat) : Option Int64 := match xgV h p ci k with
  | some (.long v) => some v
  | _ => none
def xgR (h : List xC) (p ci k : Nat) : Option Nat := match xgV h p ci k with
  | some (.ref v) => some v
  | _ => none
def xpV (h : List xC) (p ci k : Nat) (v : Value) : Option (List xC) := match h[p]? with
  | some (.inr (c, fs)) => if c = ci ∧ k < fs.length then some (h.set p (.inr (c, fs.set k v))) else none
  | _ => none
/-- the object at p is of the class -/
def xck (h : List xC) (p ci : Nat) : Option Unit := match h[p]? with
  | some (.inr (c, _)) => if c = ci then some () else none
  | _ => none
theorem xgV_e {h : List xC} {p ci k : Nat} {v : Value} (e : xgV h p ci k = some v) : ∃ fs, h[p]? = some (.inr (ci, fs)) ∧ fs[k]? = some v := by
  unfold xgV at e
  split at e
  · rename_i c fs h1
    split at e
    · rename_i h2; subst h2; exact ⟨fs, h1, e⟩
    · cases e
  · cases e
theorem xgI_e {h : List xC} {p ci k : Nat} {v : Int32} (e : xgI h p ci k = some v) : xgV h p ci k = some (.int v) := by
  unfold xgI at e
  split at e
  · rename_i w h1; cases e; exact h1
  · cases e
theorem xgL_e {h : List xC} {p ci k : Nat} {v : Int64} (e : xgL h p ci k = some v) : xgV h p ci k = some (.long v) := by
  unfold xgL at e
  split at e
  · rename_i w h1; cases e; exact h1
  · cases e
theorem xgR_e {h : List xC} {p ci k : Nat} {v : Nat} (e : xgR h p ci k = some v) : xgV h p ci k = some (.ref v) := by
  unfold xgR at e
  split at e
  · rename_i w h1; cases e; exact h1
  · cases e
theorem xpV_e {h h' : List xC} {p ci k : Nat} {v : Value} (e : xpV h p ci k v = some h') : ∃ fs, h[p]? = some (.inr (ci, fs)) ∧ k < fs.length ∧ h' = h.set p (.inr (ci, fs.set k v)) := by
  unfold xpV at e
  split at e
  · rename_i c fs h1
    split at e
    · rename_i h2; obtain ⟨h2, h3⟩ := h2; subst h2; exact ⟨fs, h1, h3, (Option.some.inj e).symm⟩
    · cases e
  · cases e
theorem xck_e {h : List xC} {p ci : Nat} {u : Unit} (e : xck h p ci = some u) : ∃ fs, h[p]? = some (.inr (ci, fs)) := by
  unfold xck at e
  split at e
  · rename_i c fs h1
    split at e
    · rename_i h2; subst h2; exact ⟨fs, h1⟩
    · cases e
  · cases e
def x_F (own : String) (ix ci k : Nat) : Prop := ∃ (C : String) (T : u_T) (N : Nat), xCl[ci]? = some (C, T, N) ∧ (∀ w ∈ u_ws C T N, w ∈ wB) ∧ k < N ∧ (Cond.fieldLink own ix (T k).1 (T k).2.1 (T k).2.2.1 ∈ wB ∨ ∃ host, (own, ix, (T k).1, (T k).2.1, (T k).2.2.1, host) ∈ xNF)
def x_FW (own : String) (ix ci k : Nat) (ty : FieldType) (fin : Bool) : Prop := ∃ (C : String) (T : u_T) (N : Nat) (ty0 : Nat → FieldType), xCl[ci]? = some (C, T, N) ∧ (∀ w ∈ u_ws C T N, w ∈ wB) ∧ (∀ k, k < N → parseFieldDescriptor (T k).2.2.1 = some (ty0 k)) ∧ (∀ a, a < N → ∀ b, b < N → a ≠ b → (T a).2.1 ≠ (T b).2.1) ∧ k < N ∧ parseFieldDescriptor (T k).2.2.1 = some ty ∧ (T k).2.2.2 = fin ∧ (fin = true → (T k).1 = own) ∧ (Cond.fieldLink own ix (T k).1 (T k).2.1 (T k).2.2.1 ∈ wB ∨ (fin = false ∧ ∃ host, (own, ix, (T k).1, (T k).2.1, (T k).2.2.1, host) ∈ xNF))
section
variable {E : xEn} {l : Launch} {M : xM} {pc pc' : Nat} {lv lv' : List (Nat × Value)} {st : List Value} {hp hp1 : List xC} {nc ns : Nat} {r : Option Value} {hp' : List xC}
theorem g_getV {ix ci k q : Nat} {v : Value} (F : x_F M.1.cls ix ci k) (hv : xgV hp q ci k = some v) (hd : decode M.2.1 pc = .ok (.getfield ix, 3)) (hpc : pc + 3 = pc') (kk : G E l M pc' lv (v :: st) hp nc ns r hp') : G E l M pc lv (.ref q :: st) hp nc ns r hp' := by
  subst hpc
  intro p e R s m args below meth c Q H locs ls C hP hS hz hl K
  obtain ⟨Cn, T, N, hc, hin, hk, hlink⟩ := F
  obtain ⟨fs, h1, h2⟩ := xgV_e hv
  have he : (x_w E hp)[q]? = some (x_lo E q, .inr (ci, fs.map (x_v E))) := x_w_at h1
  have hv2 : (fs.map (x_v E))[k]? = some (x_v E v) := by rw [List.getElem?_map, h2]; rfl
  have k2 := kk p e R s m args below meth c Q H locs ls C hP hS hz hl K
  rcases hlink with hlink | ⟨host, hlink⟩
  · exact va_get C.1 C.2.1 C.2.2.2.2.1 hin C.2.2.2.1 C.2.2.2.2.2.2.1.1 hP q he hc k hk (C.2.2.2.2.1 _ hlink) (fun _ h => h) hv2 hd k2
  · exact va_getN C.1 C.2.1 C.2.2.2.2.1 hin C.2.2.2.1 C.2.2.2.2.2.2.1.1 hP q he hc k hk (va_Nw.use rfl (C.2.2.2.2.2.2.1.2.1.1 _ hlink)) (fun _ h => h) hv2 hd k2
theorem g_getI {ix ci k q : Nat} {v : Int32} (F : x_F M.1.cls ix ci k) (hv : xgI hp q ci k = some v) (hd : decode M.2.1 pc = .ok (.getfield ix, 3)) (hpc : pc + 3 = pc') (kk : G E l M pc' lv (.int v :: st) hp nc ns r hp') : G E l M pc lv (.ref q :: st) hp nc ns r hp' := g_getV F (xgI_e hv) hd hpc kk
theorem g_getL {ix ci k q : Nat} {v : Int64} (F : x_F M.1.cls ix ci k) (hv : xgL hp q ci k = some v) (hd : decode M.2.1 pc = .ok (.getfield ix, 3)) (hpc : pc + 3 = pc') (kk : G E l M pc' lv (.long v :: st) hp nc ns r hp') : G E l M pc lv (.ref q :: st) hp nc ns r hp' := g_getV F (xgL_e hv) hd hpc kk
theorem g_getR {ix ci k q : Nat} {v : Nat} (F : x_F M.1.cls ix ci k) (hv : xgR hp q ci k = some v) (hd : decode M.2.1 pc = .ok (.getfield ix, 3)) (hpc : pc + 3 = pc') (kk : G E l M pc' lv (.ref v :: st) hp nc ns r hp') : G E l M pc lv (.ref q :: st) hp nc ns r hp' := g_getV F (xgR_e hv) hd hpc kk
theorem g_putV {ix ci k q : Nat} {v : Value} {ty : FieldType} {fin : Bool} (F : x_FW M.1.cls ix ci k ty fin) (hv : xpV hp q ci k v = some hp1) (hfin : fin = true → M.1.name = "<init>") (hn : narrow ty (x_v E v) = x_v E v) (hf : fits ty (x_v E v) = true) (hd : decode M.2.1 pc = .ok (.putfield ix, 3)) (hpc : pc + 3 = pc') (kk : G E l M pc' lv st hp1 nc ns r hp') : G E l M pc lv (v :: .ref q :: st) hp nc ns r hp' := by
  subst hpc
  intro p e R s m args below meth c Q H locs ls C hP hS hz hl K
  obtain ⟨Cn, T, N, ty0, hc, hin, hty, hnm, hk, hpt, hfi, hdecl, hlink⟩ := F
  obtain ⟨fs, h1, h2, h3⟩ := xpV_e hv
  subst h3
  have he : (x_w E hp)[q]? = some (x_lo E q, .inr (ci, fs.map (x_v E))) := x_w_at h1
  have hset : (x_w E hp).set q (x_lo E q, .inr (ci, (fs.map (x_v E)).set k (x_v E v))) = x_w E (hp.set q (.inr (ci, fs.set k v))) := by
    rw [← x_w_set]
    congr 1
    show _ = (_, Sum.inr (ci, (fs.set k v).map (x_v E)))
    rw [List.map_set]
  have k2 : ∀ (H1 : Heap) (locs1 : List Loc), va_P E.1 xCl ((x_w E hp).set q (x_lo E q, .inr (ci, (fs.map (x_v E)).set k (x_v E v)))) H1 → va_D (x_A E) ((x_w E hp).set q (x_lo E q, .inr (ci, (fs.map (x_v E)).set k (x_v E v)))) → va_S (x_A E) s.heap H1 locs1 → W p l e R s m args below meth c H1 locs1 nc ns Q (F0 m (pc + 3) ls (st.map (x_v E))) := by
    intro H1 locs1 hP1 _ hS1
    rw [hset] at hP1
    exact kk p e R s m args below meth c Q H1 locs1 ls C hP1 hS1 (by rw [List.length_set]; exact hz) hl K
  cases fin with
  | true =>
    rcases hlink with hlink | ⟨hx, -⟩
    · exact va_putF C.1 C.2.1 C.2.2.2.2.1 hin ty0 hty hnm C.2.2.2.1 C.2.2.2.2.2.2.1.1 hP x_w_D hS q he hc k hk (C.2.2.2.2.1 _ hlink) (fun _ h => h) hfi (C.2.2.2.2.2.1.trans (hfin rfl)) (hdecl rfl) hpt hn hf (by rw [List.length_map]; exact h2) hd k2
    · cases hx
  | false =>
    rcases hlink with hlink | ⟨-, host, hlink⟩
    · exact va_put C.1 C.2.1 C.2.2.2.2.1 hin ty0 hty hnm C.2.2.2.1 C.2.2.2.2.2.2.1.1 hP x_w_D hS q he hc k hk (C.2.2.2.2.1 _ hlink) (fun _ h => h) hfi hpt hn hf (by rw [List.length_map]; exact h2) hd k2
    · exact va_putN C.1 C.2.1 C.2.2.2.2.1 hin ty0 hty hnm C.2.2.2.1 C.2.2.2.2.2.2.1.1 hP x_w_D hS q he hc k hk (va_Nw.use rfl (C.2.2.2.2.2.2.1.2.1.1 _ hlink)) (fun _ h => h) hfi hpt hn hf (by rw [List.length_map]; exact h2) hd k2
end
end
section
/-! ===== arrays ===== -/
def xaT (t : Nat) (h : List xC) (p : Nat) (i : Int32) : Option Int32 := match h[p]? with
  | some (.inl (u, n, .inl f)) => if u = t ∧ ¬ (i < 0 ∨ n ≤ i.toNatClampNeg) then some (f i.toNatClampNeg) else none
  | _ => none
def xaL (h : List xC) (p : Nat) (i : Int32) : Option Int64 := match h[p]? with
  | some (.inl (u, n, .inr (.inl f))) => if u = 2 ∧ ¬ (i < 0 ∨ n ≤ i.toNatClampNeg) then some (f i.toNatClampNeg) else none
  | _ => none
def xaR (h : List xC) (p : Nat) (i : Int32) : Option Nat := match h[p]? with
  | some (.inl (u, n, .inr (.inr (.inr (.inr f))))) => if u = 3 ∧ ¬ (i < 0 ∨ n ≤ i.toNatClampNeg) then f i.toNatClampNeg else none
  | _ => none
def xsT (t : Nat) (h : List xC) (p : Nat) (i v : Int32) : Option (List xC) := match h[p]? with
  | some (.inl (u, n, .inl f)) => if u = t ∧ ¬ (i < 0 ∨ n ≤ i.toNatClampNeg) then some (h.set p (.inl (u, n, .inl (upd f i.toNatClampNeg v)))) else none
  | _ => none
def xsL (h : List xC) (p : Nat) (i : Int32) (v : Int64) : Option (List xC) := match h[p]? with
  | some (.inl (u, n, .inr (.inl f))) => if u = 2 ∧ ¬ (i < 0 ∨ n ≤ i.toNatClampNeg) then some (h.set p (.inl (u, n, .inr (.inl (vp_updL f i.toNatClampNeg v))))) else none
  | _ => none
def xsR (h : List xC) (p : Nat) (i : Int32) (v : Nat) : Option (List xC) := match h[p]? with
  | some (.inl (u, n, .inr (.inr (.inr (.inr f))))) => if u = 3 ∧ ¬ (i < 0 ∨ n ≤ i.toNatClampNeg) then some (h.set p (.inl (u, n, .inr (.inr (.inr (.inr (va_up f i.toNatClampNeg (some v)))))))) else none
  | _ => none
/-- the length of an int array -/
def xln (h : List xC) (p : Nat) : Option Int32 := match h[p]? with
  | some (.inl (u, n, .inl _)) => if u = 0 then some (Int32.ofNat n) else none
  | _ => none
/-- System.arraycopy between int arrays -/
def xcp (h : List xC) (p : Nat) (sp : Int32) (q : Nat) (dp n : Int32) : Option (List xC) := match h[p]? with
  | some (.inl (u, n0, .inl f)) => match h[q]? with
    | some (.inl (u1, n1, .inl g)) => if u = 0 ∧ u1 = 0 ∧ ¬ sp < 0 ∧ ¬ dp < 0 ∧ ¬ n < 0 ∧ sp.toNatClampNeg + n.toNatClampNeg ≤ n0 ∧ dp.toNatClampNeg + n.toNatClampNeg ≤ n1 then some (h.set q (.inl (u1, n1, .inl (va_cpy f g sp.toNatClampNeg dp.toNatClampNeg n.toNatClampNeg)))) else none
    | _ => none
  | _ => none
theorem xaT_e {t : Nat} {h : List xC} {p : Nat} {i v : Int32} (e : xaT t h p i = some v) : ∃ n f, h[p]? = some (.inl (t, n, .inl f)) ∧ vp_in i n ∧ v = f i.toNatClampNeg := by
  unfold xaT at e
  split at e
  · rename_i u n f h1
    split at e
    · rename_i h2; obtain ⟨h2, h3⟩ := h2; subst h2; exact ⟨n, f, h1, h3, (Option.some.inj e).symm⟩
    · cases e
  · cases e
theorem xaL_e {h : List xC} {p : Nat} {i : Int32} {v : Int64} (e : xaL h p i = some v) : ∃ n f, h[p]? = some (.inl (2, n, .inr (.inl f))) ∧ vp_in i n ∧ v = f i.toNatClampNeg := by
  unfold xaL at e
  split at e
  · rename_i u n f h1
    split at e
    · rename_i h2; obtain ⟨h2, h3⟩ := h2; subst h2; exact ⟨n, f, h1, h3, (Option.some.inj e).symm⟩
    · cases e
  · cases e
theorem xaR_e {h : List xC} {p : Nat} {i : Int32} {v : Nat} (e : xaR h p i = some v) : ∃ n f, h[p]? = some (.inl (3, n, .inr (.inr (.inr (.inr f))))) ∧ vp_in i n ∧ f i.toNatClampNeg = some v := by
  unfold xaR at e
  split at e
  · rename_i u n f h1
    split at e
    · rename_i h2; obtain ⟨h2, h3⟩ := h2; subst h2; exact ⟨n, f, h1, h3, e⟩
    · cases e
  · cases e
theorem xsT_e {t : Nat} {h h' : List xC} {p : Nat} {i v : Int32} (e : xsT t h p i v = some h') : ∃ n f, h[p]? = some (.inl (t, n, .inl f)) ∧ vp_in i n ∧ h' = h.set p (.inl (t, n, .inl (upd f i.toNatClampNeg v))) := by
  unfold xsT at e
  split at e
  · rename_i u n f h1
    split at e
    · rename_i h2; obtain ⟨h2, h3⟩ := h2; subst h2; exact ⟨n, f, h1, h3, (Option.some.inj e).symm⟩
    · cases e
  · cases e
theorem xsL_e {h h' : List xC} {p : Nat} {i : Int32} {v : Int64} (e : xsL h p i v = some h') : ∃ n f, h[p]? = some (.inl (2, n, .inr (.inl f))) ∧ vp_in i n ∧ h' = h.set p (.inl (2, n, .inr (.inl (vp_updL f i.toNatClampNeg v)))) := by
  unfold xsL at e
  split at e
  · rename_i u n f h1
    split at e
    · rename_i h2; obtain ⟨h2, h3⟩ := h2; subst h2; exact ⟨n, f, h1, h3, (Option.some.inj e).symm⟩
    · cases e
  · cases e
theorem xsR_e {h h' : List xC} {p : Nat} {i : Int32} {v : Nat} (e : xsR h p i v = some h') : ∃ n f, h[p]? = some (.inl (3, n, .inr (.inr (.inr (.inr f))))) ∧ vp_in i n ∧ h' = h.set p (.inl (3, n, .inr (.inr (.inr (.inr (va_up f i.toNatClampNeg (some v))))))) := by
  unfold xsR at e
  split at e
  · rename_i u n f h1
    split at e
    · rename_i h2; obtain ⟨h2, h3⟩ := h2; subst h2; exact ⟨n, f, h1, h3, (Option.some.inj e).symm⟩
    · cases e
  · cases e
theorem xln_e {h : List xC} {p : Nat} {v : Int32} (e : xln h p = some v) : ∃ n f, h[p]? = some (.inl (0, n, .inl f)) ∧ v = Int32.ofNat n := by
  unfold xln at e
  split at e
  · rename_i u n f h1
    split at e
    · rename_i h2; subst h2; exact ⟨n, f, h1, (Option.some.inj e).symm⟩
    · cases e
  · cases e
theorem xcp_e {h h' : List xC} {p q : Nat} {sp dp n : Int32} (e : xcp h p sp q dp n = some h') : ∃ n0 f n1 g, h[p]? = some (.inl (0, n0, .inl f)) ∧ h[q]? = some (.inl (0, n1, .inl g)) ∧ ¬ sp < 0 ∧ ¬ dp < 0 ∧ ¬ n < 0 ∧ sp.toNatClampNeg + n.toNatClampNeg ≤ n0 ∧ dp.toNatClampNeg + n.toNatClampNeg ≤ n1 ∧ h' = h.set q (.inl (0, n1, .inl (va_cpy f g sp.toNatClampNeg dp.toNatClampNeg n.toNatClampNeg))) := by
  unfold xcp at e
  split at e
  · rename_i u n0 f h1
    split at e
    · rename_i u1 n1 g h2
      split at e
      · rename_i h3
        obtain ⟨a1, a2, a3, a4, a5, a6, a7⟩ := h3
        subst a1; subst a2
        exact ⟨n0, f, n1, g, h1, h2, a3, a4, a5, a6, a7, (Option.some.inj e).symm⟩
      · cases e
    · cases e
  · cases e
section
variable {E : xEn} {l : Launch} {M : xM} {pc pc' : Nat} {lv lv' : List (Nat × Value)} {st : List Value} {hp hp1 : List xC} {nc ns : Nat} {r : Option Value} {hp' : List xC}
theorem g_iald {q : Nat} {i v : Int32} (hv : xaT 0 hp q i = some v) (hd : decode M.2.1 pc = .ok (.iaload, 1)) (hpc : pc + 1 = pc') (kk : G E l M pc' lv (.int v :: st) hp nc ns r hp') : G E l M pc lv (.int i :: .ref q :: st) hp nc ns r hp' := by
  subst hpc
  intro p e R s m args below meth c Q H locs ls C hP hS hz hl K
  obtain ⟨n, f, h1, h2, h3⟩ := xaT_e hv
  subst h3
  exact va_iald C.1 C.2.1 C.2.2.2.2.2.2.1.1 hP q 0 (x_w_at h1) rfl h2 hd (kk p e R s m args below meth c Q H locs ls C hP hS hz hl K)
theorem g_zald {q : Nat} {i v : Int32} (hv : xaT 1 hp q i = some v) (hd : decode M.2.1 pc = .ok (.baload, 1)) (hpc : pc + 1 = pc') (kk : G E l M pc' lv (.int v :: st) hp nc ns r hp') : G E l M pc lv (.int i :: .ref q :: st) hp nc ns r hp' := by
  subst hpc
  intro p e R s m args below meth c Q H locs ls C hP hS hz hl K
  obtain ⟨n, f, h1, h2, h3⟩ := xaT_e hv
  subst h3
  exact va_zald C.1 C.2.1 C.2.2.2.2.2.2.1.1 hP q 1 (x_w_at h1) rfl h2 hd (kk p e R s m args below meth c Q H locs ls C hP hS hz hl K)
theorem g_lald {q : Nat} {i : Int32} {v : Int64} (hv : xaL hp q i = some v) (hd : decode M.2.1 pc = .ok (.laload, 1)) (hpc : pc + 1 = pc') (kk : G E l M pc' lv (.long v :: st) hp nc ns r hp') : G E l M pc lv (.int i :: .ref q :: st) hp nc ns r hp' := by
  subst hpc
  intro p e R s m args below meth c Q H locs ls C hP hS hz hl K
  obtain ⟨n, f, h1, h2, h3⟩ := xaL_e hv
  subst h3
  exact va_lald C.1 C.2.1 C.2.2.2.2.2.2.1.1 hP q 2 (x_w_at h1) rfl h2 hd (kk p e R s m args below meth c Q H locs ls C hP hS hz hl K)
theorem g_aald {q : Nat} {i : Int32} {v : Nat} (hv : xaR hp q i = some v) (hd : decode M.2.1 pc = .ok (.aaload, 1)) (hpc : pc + 1 = pc') (kk : G E l M pc' lv (.ref v :: st) hp nc ns r hp') : G E l M pc lv (.int i :: .ref q :: st) hp nc ns r hp' := by
  subst hpc
  intro p e R s m args below meth c Q H locs ls C hP hS hz hl K
  obtain ⟨n, f, h1, h2, h3⟩ := xaR_e hv
  refine va_aldq C.1 C.2.1 C.2.2.2.2.2.2.1.1 hP q 3 (x_w_at h1) rfl h2 hd ?_
  rw [h3]
  exact kk p e R s m args below meth c Q H locs ls C hP hS hz hl K
theorem g_iast {q : Nat} {i v : Int32} (hv : xsT 0 hp q i v = some hp1) (hd : decode M.2.1 pc = .ok (.iastore, 1)) (hpc : pc + 1 = pc') (kk : G E l M pc' lv st hp1 nc ns r hp') : G E l M pc lv (.int v :: .int i :: .ref q :: st) hp nc ns r hp' := by
  subst hpc
  intro p e R s m args below meth c Q H locs ls C hP hS hz hl K
  obtain ⟨n, f, h1, h2, h3⟩ := xsT_e hv
  subst h3
  refine va_iast C.1 C.2.1 C.2.2.2.2.2.2.1.1 hP x_w_D hS q 0 (x_w_at h1) rfl h2 hd (fun H1 locs1 hP1 _ hS1 => ?_)
  exact kk p e R s m args below meth c Q H1 locs1 ls C (by rw [← x_w_set]; exact hP1) hS1 (by rw [List.length_set]; exact hz) hl K
theorem g_zast {q : Nat} {i v : Int32} (hv : xsT 1 hp q i (v &&& 1) = some hp1) (hd : decode M.2.1 pc = .ok (.bastore, 1)) (hpc : pc + 1 = pc') (kk : G E l M pc' lv st hp1 nc ns r hp') : G E l M pc lv (.int v :: .int i :: .ref q :: st) hp nc ns r hp' := by
  subst hpc
  intro p e R s m args below meth c Q H locs ls C hP hS hz hl K
  obtain ⟨n, f, h1, h2, h3⟩ := xsT_e hv
  subst h3
  refine va_zast C.1 C.2.1 C.2.2.2.2.2.2.1.1 hP x_w_D hS q 1 (x_w_at h1) rfl h2 hd (fun H1 locs1 hP1 _ hS1 => ?_)
  exact kk p e R s m args below meth c Q H1 locs1 ls C (by rw [← x_w_set]; exact hP1) hS1 (by rw [List.length_set]; exact hz) hl K
theorem g_last {q : Nat} {i : Int32} {v : Int64} (hv : xsL hp q i v = some hp1) (hd : decode M.2.1 pc = .ok (.lastore, 1)) (hpc : pc + 1 = pc') (kk : G E l M pc' lv st hp1 nc ns r hp') : G E l M pc lv (.long v :: .int i :: .ref q :: st) hp nc ns r hp' := by
  subst hpc
  intro p e R s m args below meth c Q H locs ls C hP hS hz hl K
  obtain ⟨n, f, h1, h2, h3⟩ := xsL_e hv
  subst h3
  refine va_last C.1 C.2.1 C.2.2.2.2.2.2.1.1 hP x_w_D hS q 2 (x_w_at h1) rfl h2 hd (fun H1 locs1 hP1 _ hS1 => ?_)
  exact kk p e R s m args below meth c Q H1 locs1 ls C (by rw [← x_w_set]; exact hP1) hS1 (by rw [List.length_set]; exact hz) hl K
theorem g_aast {q v : Nat} {i : Int32} (hk : xck hp v 3 = some ()) (hv : xsR hp q i v = some hp1) (hd : decode M.2.1 pc = .ok (.aastore, 1)) (hpc : pc + 1 = pc') (kk : G E l M pc' lv st hp1 nc ns r hp') : G E l M pc lv (.ref v :: .int i :: .ref q :: st) hp nc ns r hp' := by
  subst hpc
  intro p e R s m args below meth c Q H locs ls C hP hS hz hl K
  obtain ⟨n, f, h1, h2, h3⟩ := xsR_e hv
  obtain ⟨fs, h4⟩ := xck_e hk
  subst h3
  refine va_astq C.1 C.2.1 C.2.2.2.2.2.2.1.1 hP x_w_D hS q 3 v 3 (x_w_at h1) (r := (RX4, TX4, 4)) rfl (x_w_at h4) rfl h2 hd (fun H1 locs1 hP1 _ hS1 => ?_)
  have e1 : va_up (fun k => (f k).map (x_lo E)) i.toNatClampNeg (some (x_lo E v)) = fun k => (va_up f i.toNatClampNeg (some v) k).map (x_lo E) := by
    funext k
    unfold va_up
    by_cases h : k = i.toNatClampNeg <;> simp [h]
  rw [e1] at hP1
  exact kk p e R s m args below meth c Q H1 locs1 ls C (by rw [← x_w_set]; exact hP1) hS1 (by rw [List.length_set]; exact hz) hl K
theorem g_alen {q : Nat} {v : Int32} (hv : xln hp q = some v) (hd : decode M.2.1 pc = .ok (.arraylength, 1)) (hpc : pc + 1 = pc') (kk : G E l M pc' lv (.int v :: st) hp nc ns r hp') : G E l M pc lv (.ref q :: st) hp nc ns r hp' := by
  subst hpc
  intro p e R s m args below meth c Q H locs ls C hP hS hz hl K
  obtain ⟨n, f, h1, h2⟩ := xln_e hv
  exact va_alen C.1 C.2.1 C.2.2.2.2.2.2.1.1 hP q 0 (x_w_at h1) rfl h2.symm hd (kk p e R s m args below meth c Q H locs ls C hP hS hz hl K)
/-- the script -/
theorem g_slen (hd : decode M.2.1 pc = .ok (.arraylength, 1)) (hpc : pc + 1 = pc') (kk : G E l M pc' lv (.int (Int32.ofNat E.2.2.2.1.2.1) :: st) hp nc ns r hp') : G E l M pc lv (.float 0 :: st) hp nc ns r hp' := by
  subst hpc
  intro p e R s m args below meth c Q H locs ls C hP hS hz hl K
  obtain ⟨-, -, hX, hlt, -, -⟩ := C.2.2.2.2.2.2.1
  exact va_slen C.1 C.2.1 hX (Nat.lt_of_lt_of_le hlt C.2.2.2.2.2.2.2.1) (Nat.not_le.mpr hlt) hS hd (kk p e R s m args below meth c Q H locs ls C hP hS hz hl K)
theorem g_sald {i : Int32} (hin : vp_in i E.2.2.2.1.2.1) (hd : decode M.2.1 pc = .ok (.iaload, 1)) (hpc : pc + 1 = pc') (kk : G E l M pc' lv (.int (E.2.2.2.1.2.2 i.toNatClampNeg) :: st) hp nc ns r hp') : G E l M pc lv (.int i :: .float 0 :: st) hp nc ns r hp' := by
  subst hpc
  intro p e R s m args below meth c Q H locs ls C hP hS hz hl K
  obtain ⟨-, -, hX, hlt, -, -⟩ := C.2.2.2.2.2.2.1
  exact va_sld C.1 C.2.1 hX (Nat.lt_of_lt_of_le hlt C.2.2.2.2.2.2.2.1) (Nat.not_le.mpr hlt) hS hin hd (kk p e R s m args below meth c Q H locs ls C hP hS hz hl K)
/-- the table ORDERS -/
theorem g_gets {ix : Nat} (hw : Cond.fieldLink M.1.cls ix "NetShapes$ShapeTable" "ORDERS" "[I" ∈ wB) (hd : decode M.2.1 pc = .ok (.getstatic ix, 3)) (hpc : pc + 3 = pc') (kk : G E l M pc' lv (.float 1 :: st) hp nc ns r hp') : G E l M pc lv st hp nc ns r hp' := by
  subst hpc
  intro p e R s m args below meth c Q H locs ls C hP hS hz hl K
  exact va_gets C.1 C.2.1 C.2.2.2.2.2.2.1.2.2.2.2.1 hS C.2.2.2.1 (C.2.2.2.2.1 _ hw) (fun _ h => h) hd (kk p e R s m args below meth c Q H locs ls C hP hS hz hl K)
theorem g_tlen (hd : decode M.2.1 pc = .ok (.arraylength, 1)) (hpc : pc + 1 = pc') (kk : G E l M pc' lv (.int 18 :: st) hp nc ns r hp') : G E l M pc lv (.float 1 :: st) hp nc ns r hp' := by
  subst hpc
  intro p e R s m args below meth c Q H locs ls C hP hS hz hl K
  exact va_tlen C.1 C.2.1 C.2.2.2.2.2.2.1.2.2.2.2.2 hS rfl hd (kk p e R s m args below meth c Q H locs ls C hP hS hz hl K)
theorem g_tald {i : Int32} (hin : vp_in i 18) (hd : decode M.2.1 pc = .ok (.iaload, 1)) (hpc : pc + 1 = pc') (kk : G E l M pc' lv (.int (xOrd i.toNatClampNeg) :: st) hp nc ns r hp') : G E l M pc lv (.int i :: .float 1 :: st) hp nc ns r hp' := by
  subst hpc
  intro p e R s m args below meth c Q H locs ls C hP hS hz hl K
  exact va_ti C.1 C.2.1 C.2.2.2.2.2.2.1.2.2.2.2.2 hS hin rfl hd (kk p e R s m args below meth c Q H locs ls C hP hS hz hl K)
theorem g_copy {ix p0 q0 : Nat} {sp dp n : Int32} (hw : Cond.methodLink M.1.cls ix arraycopyName ∈ wB ∧ Cond.native arraycopyName ∈ wB ∧ Cond.static arraycopyName ∈ wB ∧ Cond.initialized "java/lang/System" ∈ wB) (hv : xcp hp p0 sp q0 dp n = some hp1) (hfr : 1 ≤ M.2.2.2.2.1) (hlo : (st.map fun v => v.category).sum + 18 ≤ M.2.2.2.2.2.1) (hd : decode M.2.1 pc = .ok (.invokestatic ix, 3)) (hpc : pc + 3 = pc') (kk : G E l M pc' lv st hp1 nc ns r hp') : G E l M pc lv (.int n :: .int dp :: .ref q0 :: .int sp :: .ref p0 :: st) hp nc ns r hp' := by
  subst hpc
  intro p e R s m args below meth c Q H locs ls C hP hS hz hl K
  obtain ⟨n0, f, n1, g, h1, h2, h3, h4, h5, h6, h7, h8⟩ := xcp_e hv
  subst h8
  refine va_copyi C.1 C.2.1 (C.2.2.1.trans hl.1.symm) C.2.2.2.1 (C.2.2.2.2.1 _ hw.1) (C.2.2.2.2.1 _ hw.2.1) (C.2.2.2.2.1 _ hw.2.2.1) (C.2.2.2.2.1 _ hw.2.2.2) C.2.2.2.2.2.2.1.1 hP x_w_D hS p0 q0 0 0 (ty := .int) (x_w_at h1) (x_w_at h2) rfl rfl rfl h3 h4 h5 h6 h7 (fun _ _ => rfl) (Nat.le_trans hfr C.2.2.2.2.2.2.2.2.1) (Nat.le_trans (by rw [x_cat]; exact hlo) C.2.2.2.2.2.2.2.2.2.1) hd (fun H1 locs1 hP1 _ hS1 => ?_)
  exact kk p e R s m args below meth c Q H1 locs1 ls C (by rw [← x_w_set]; exact hP1) hS1 (by rw [List.length_set]; exact hz) hl K
end
end
section
/-! ===== new cells ===== -/
section
variable {p : Program} {l : Launch} {e : Env} {R : Room} {s : State} {m : MethodId} {args : Array Value} {below : List Frame} {meth : Method} {c : Code} {H : Heap} {locs : List Loc} {cells slots : Nat} {Q : State → Prop} {g : JFrame}
theorem x_sized (k : H.size ≤ s.heap.size + cells → W p l e R s m args below meth c H locs cells slots Q g) : W p l e R s m args below meth c H locs cells slots Q g :=
  fun T hT X => k (by rw [← hT]; exact X.heapSize) T hT X
end
/-- the cell that came is the next one -/
theorem x_next {E : xEn} {hp : List xC} {q n : Nat} {v : va_E} {H1 : Heap} (hP1 : va_P E.1 xCl (x_w E hp ++ [(q, v)]) H1) (hD1 : va_D (x_A E) (x_w E hp ++ [(q, v)])) (hz : H1.size ≤ n + 1) (hn : n = E.2.2.1 + hp.length) : q = x_lo E hp.length := by
  have hq : (x_w E hp ++ [(q, v)])[hp.length]? = some (q, v) := by rw [List.getElem?_append_right (by rw [x_w_len]; exact Nat.le_refl _), x_w_len, Nat.sub_self]; rfl
  have h1 : q < H1.size := (hP1 _ _ hq).lt
  have h2 : E.2.2.1 ≤ q := hD1.2 _ _ hq
  rcases Nat.lt_or_ge q (E.2.2.1 + hp.length) with h3 | h3
  · have hi : q - E.2.2.1 < hp.length := by omega
    have he : (x_w E hp ++ [(q, v)])[q - E.2.2.1]? = some (x_lo E (q - E.2.2.1), x_c E hp[q - E.2.2.1]) := by
      rw [List.getElem?_append_left (by rw [x_w_len]; exact hi)]
      exact x_w_at (List.getElem?_eq_getElem hi)
    have := hD1.1 _ _ _ _ he hq (by simp only [x_lo]; omega)
    omega
  · unfold x_lo
    omega
section
variable {E : xEn} {l : Launch} {M : xM} {pc pc' : Nat} {lv lv' : List (Nat × Value)} {st : List Value} {hp hp1 : List xC} {nc ns nc' ns' : Nat} {r : Option Value} {hp' : List xC}
def x_NW (own : String) (ix ci N : Nat) (ty : Nat → FieldType) : Prop := ∃ (C : String) (T : u_T), xCl[ci]? = some (C, T, N) ∧ (∀ w ∈ u_ws C T N, w ∈ wB) ∧ (∀ k, k < N → parseFieldDescriptor (T k).2.2.1 = some (ty k)) ∧ Cond.classLink own ix C ∈ wB ∧ Cond.instantiable C N ∈ wB ∧ Cond.initialized C ∈ wB
theorem g_new {ix ci N : Nat} {ty : Nat → FieldType} (fs : List Value) (F : x_NW M.1.cls ix ci N ty) (hfs : ∀ j, j < N → defaultValue (ty j) = vp_V fs j) (hx : fs.map (x_v E) = fs) (hd : decode M.2.1 pc = .ok (.new ix, 3)) (hpc : pc + 3 = pc') (hnc : nc + 1 = nc') (hns : ns + N = ns') (hrc : nc' ≤ M.2.2.2.2.2.2.1) (hrs : ns' ≤ M.2.2.2.2.2.2.2) (kk : G E l M pc' lv (.ref hp.length :: st) (hp ++ [.inr (ci, fs)]) nc' ns' r hp') : G E l M pc lv st hp nc ns r hp' := by
  subst hpc; subst hnc; subst hns
  intro p e R s m args below meth c Q H locs ls C hP hS hz hl K
  obtain ⟨Cn, T, hc, hin, hty, w1, w2, w3⟩ := F
  refine va_new C.1 C.2.1 C.2.2.2.2.1 hin ty hty C.2.2.2.1 (C.2.2.2.2.1 _ w1) (C.2.2.2.2.1 _ w2) (C.2.2.2.2.1 _ w3) C.2.2.2.2.2.2.1.1 hP x_w_D hS (fun q h => Nat.le_trans C.2.2.2.2.2.2.2.1 h) hc hfs (Nat.le_trans hrc C.2.2.2.2.2.2.2.2.2.2.1) (Nat.le_trans hrs C.2.2.2.2.2.2.2.2.2.2.2) hd (fun q H1 hP1 hD1 hS1 => ?_)
  refine x_sized (fun hz1 => ?_)
  have hq := x_next hP1 hD1 (n := s.heap.size + nc) hz1 hz
  subst hq
  have hP2 : va_P E.1 xCl (x_w E (hp ++ [.inr (ci, fs)])) H1 := by
    rw [← x_w_app]
    show va_P E.1 xCl (x_w E hp ++ [(x_lo E hp.length, Sum.inr (ci, fs.map (x_v E)))]) H1
    rw [hx]
    exact hP1
  exact kk p e R s m args below meth c Q H1 locs ls C hP2 hS1 (by rw [List.length_append]; show _ = _ + (_ + 1); omega) hl K
theorem x_cA {E : xEn} {U : State} {t : Nat} {ty : FieldType} {cA : ClassId} {tys : List (ClassId × FieldType)} (hK : va_K E.1 xCl (x_tys E) U) (ht : (x_tys E)[t]? = some (E.2.1 t, ty)) (hK2 : va_K E.1 xCl (tys ++ [(cA, ty)]) U) : cA = E.2.1 t := by
  have h1 := (hK.2 t _ ht).2
  have h2 := (hK2.2 tys.length (cA, ty) (by rw [List.getElem?_append_right (Nat.le_refl _), Nat.sub_self]; rfl)).2
  dsimp only at h1 h2
  cases ty with
  | object C =>
    obtain ⟨_, _, -, -, -, e1⟩ := h1
    obtain ⟨_, _, -, -, -, e2⟩ := h2
    exact Option.some.inj (e2.symm.trans e1)
  | _ => exact Option.some.inj (h2.symm.trans h1)
theorem g_newa {atype : ArrayType} {t N : Nat} {n : Int32} {ty : FieldType} (a0 : (Nat → Int32) ⊕ (Nat → Int64) ⊕ (Nat → UInt32) ⊕ (Nat → UInt64) ⊕ (Nat → Option Nat)) (hw : Cond.arrayClass (newarray.typeOf atype) ∈ wB) (hty : newarray.typeOf atype = ty) (ht : ∀ E : xEn, (x_tys E)[t]? = some (E.2.1 t, ty)) (hxc : ∀ E : xEn, x_c E (.inl (t, N, a0)) = .inl (E.2.1 t, N, a0)) (ha : ∀ cA : ClassId, vp_cell cA (N, a0) = arrV cA N (fun _ => defaultValue ty)) (hn : ¬ n < 0) (hN : n.toNatClampNeg = N) (hb : N * componentBytes ty ≤ 536870912) (hd : decode M.2.1 pc = .ok (.newarray atype, 2)) (hpc : pc + 2 = pc') (hnc : nc + 1 = nc') (hns : ns + N = ns') (hrc : nc' ≤ M.2.2.2.2.2.2.1) (hrs : ns' ≤ M.2.2.2.2.2.2.2) (kk : G E l M pc' lv (.ref hp.length :: st) (hp ++ [.inl (t, N, a0)]) nc' ns' r hp') : G E l M pc lv (.int n :: st) hp nc ns r hp' := by
  subst hpc; subst hnc; subst hns
  intro p e R s m args below meth c Q H locs ls C hP hS hz hl K
  refine va_newa C.1 C.2.1 (C.2.2.2.2.1 _ hw) hty C.2.2.2.2.2.2.1.1 hP x_w_D hS (fun q h => Nat.le_trans C.2.2.2.2.2.2.2.1 h) ha hn hN hb (Nat.le_trans hrc C.2.2.2.2.2.2.2.2.2.2.1) (Nat.le_trans hrs C.2.2.2.2.2.2.2.2.2.2.2) hd (fun q cA H1 hK1 hP1 hD1 hS1 => ?_)
  refine x_sized (fun hz1 => ?_)
  have hq := x_next hP1 hD1 (n := s.heap.size + nc) hz1 hz
  subst hq
  have hcA := x_cA C.2.2.2.2.2.2.1.1 (ht E) hK1
  subst hcA
  have hP2 : va_P E.1 xCl (x_w E (hp ++ [.inl (t, N, a0)])) H1 := by
    rw [← x_w_app, hxc]
    exact hP1
  exact kk p e R s m args below meth c Q H1 locs ls C hP2 hS1 (by rw [List.length_append]; show _ = _ + (_ + 1); omega) hl K
theorem g_newq {ix N : Nat} {n : Int32} (hw : Cond.classLink M.1.cls ix RX4 ∈ wB) (hw2 : Cond.arrayOver (.object RX4) ∈ wB) (hn : ¬ n < 0) (hN : n.toNatClampNeg = N) (hb : N * 4 ≤ 536870912) (hd : decode M.2.1 pc = .ok (.anewarray ix, 3)) (hpc : pc + 3 = pc') (hnc : nc + 1 = nc') (hns : ns + N = ns') (hrc : nc' ≤ M.2.2.2.2.2.2.1) (hrs : ns' ≤ M.2.2.2.2.2.2.2) (kk : G E l M pc' lv (.ref hp.length :: st) (hp ++ [.inl (3, N, .inr (.inr (.inr (.inr (fun _ => none)))))]) nc' ns' r hp') : G E l M pc lv (.int n :: st) hp nc ns r hp' := by
  subst hpc; subst hnc; subst hns
  intro p e R s m args below meth c Q H locs ls C hP hS hz hl K
  refine va_newq C.1 C.2.1 C.2.2.2.1 (C.2.2.2.2.1 _ hw) (va_AO.of (C.2.2.2.2.1 _ hw2)) C.2.2.2.2.2.2.1.1 hP x_w_D hS (fun q h => Nat.le_trans C.2.2.2.2.2.2.2.1 h) hn hN hb (Nat.le_trans hrc C.2.2.2.2.2.2.2.2.2.2.1) (Nat.le_trans hrs C.2.2.2.2.2.2.2.2.2.2.2) hd (fun q cA H1 hK1 hP1 hD1 hS1 => ?_)
  refine x_sized (fun hz1 => ?_)
  have hq := x_next hP1 hD1 (n := s.heap.size + nc) hz1 hz
  subst hq
  have hcA := x_cA (t := 3) C.2.2.2.2.2.2.1.1 rfl hK1
  subst hcA
  have hP2 : va_P E.1 xCl (x_w E (hp ++ [.inl (3, N, .inr (.inr (.inr (.inr (fun _ => none)))))])) H1 := by
    rw [← x_w_app]
    exact hP1
  exact kk p e R s m args below meth c Q H1 locs ls C hP2 hS1 (by rw [List.length_append]; show _ = _ + (_ + 1); omega) hl K
theorem g_obj {ix q : Nat} (hw : Cond.methodLink M.1.cls ix Lib.objectInit ∈ wB ∧ Cond.instanceMethod Lib.objectInit ∈ wB ∧ Cond.code Lib.objectInit ⟨#[0xb1]⟩ 1 none ∈ wB) (hfr : 1 ≤ M.2.2.2.2.1) (hlo : (st.map fun v => v.category).sum + 12 ≤ M.2.2.2.2.2.1) (hd : decode M.2.1 pc = .ok (.invokespecial ix, 3)) (hpc : pc + 3 = pc') (kk : G E l M pc' lv st hp nc ns r hp') : G E l M pc lv (.ref q :: st) hp nc ns r hp' := by
  subst hpc
  intro p e R s m args below meth c Q H locs ls C hP hS hz hl K
  refine W.objInit C.1 C.2.1 C.2.2.2.1 (C.2.2.2.2.1 _ hw.1) (C.2.2.2.2.1 _ hw.2.1) (C.2.2.2.2.1 _ hw.2.2) rfl (hl.1.trans C.2.2.1.symm) (a := x_lo E q) (rest := st.map (x_v E)) rfl hd (Nat.le_trans hfr C.2.2.2.2.2.2.2.2.1) ?_ (kk p e R s m args below meth c Q H locs ls C hP hS hz hl K)
  refine Nat.le_trans ?_ C.2.2.2.2.2.2.2.2.2.1
  rw [x_cat]
  show 2 * 0 + _ + 12 ≤ _
  omega
end
/-! ===== calls ===== -/
section
variable {p : Program} {l : Launch} {e : Env} {R : Room} {s : State} {m : MethodId} {args : Array Value} {below : List Frame} {meth : Method} {c : Code} {H : Heap} {locs : List Loc} {cells slots mc ms : Nat} {Q : State → Prop}
theorem x_goW {E : xEn} {n pc : Nat} {r : Option Value} {hp1 : List xC} {a : Array Value} {ls : Array Slot} {st0 rest : List Value} (hr : va_Run p l e R s m args below meth c H locs cells slots mc ms (F0 m pc ls st0) rest (x_Post E n r hp1 a) (x_A E)) (hS : va_S (x_A E) s.heap H locs)
    (kk : ∀ (H1 : Heap) (locs1 : List Loc), va_P E.1 xCl (x_w E hp1) H1 → hp1.length = n → va_S (x_A E) s.heap H1 locs1 → W p l e R s m args below meth c H1 locs1 (cells + mc) (slots + ms) Q (F0 m (pc + 3) ls ((r.map (x_v E)).toList ++ rest))) : W p l e R s m args below meth c H locs cells slots Q (F0 m pc ls st0) := by
  intro T hT X
  obtain ⟨v, st₀, t, T', L, h0, X', hL, e1, e2, ⟨hv, hp, hn, hz, hk⟩, st⟩ := hr T hT X
  cases hv
  rw [h0] at hz hk
  obtain ⟨t2, a1, b1⟩ := kk T'.heap (locs ++ L) (by rw [e1]; exact hp) hn
    ⟨Nat.le_trans hS.1 (by rw [e1]; exact hz), fun q h1 h2 => by rw [e1, hk q (Nat.lt_of_lt_of_le h1 hS.1) h2]; exact hS.2.1 q h1 h2, fun q hq => by
      rcases List.mem_append.mp hq with h | h
      · exact hS.2.2 q h
      · exact hL q h⟩ T' rfl X'
  exact ⟨t2, st t2 a1, b1⟩
end
theorem x_blind {E : xEn} {as : List Value} {hp : List xC} : FrameBlind (va_Pc as (x_Pre E hp)) := by
  intro a U g mk h
  obtain ⟨h0, h1, h2, h3⟩ := h
  exact ⟨h0, h1.blind, h2, h3⟩
theorem x_pre {E : xEn} {M : xM} {p : Program} {R : Room} {s : State} {m : MethodId} {args : Array Value} {meth : Method} {c : Code} {H : Heap} {locs : List Loc} {hp : List xC} {nc : Nat} {as : List Value} (C : x_Cx E M p R s m args meth c) (hP : va_P E.1 xCl (x_w E hp) H) (hS : va_S (x_A E) s.heap H locs) (hz : H.size = E.2.2.1 + hp.length) : ∀ U : State, U.heap = H → s.WarmedH U.vm → va_Pc as (x_Pre E hp) as.toArray U := by
  intro U hU hW
  refine ⟨rfl, ?_, by rw [hU]; exact hP, by rw [hU]; exact hz⟩
  rw [hU]
  exact C.2.2.2.2.2.2.1.warm hW hS.2.1 C.2.2.2.2.2.2.2.1
theorem x_size {E : xEn} {hp : List xC} {H : Heap} {n : Nat} (hP : va_P E.1 xCl (x_w E hp) H) (hz : H.size ≤ n) (hn : n = E.2.2.1 + hp.length) (hb : E.2.2.1 ≤ H.size) : H.size = E.2.2.1 + hp.length := by
  rcases Nat.eq_zero_or_pos hp.length with h | h
  · omega
  · have hi : hp.length - 1 < hp.length := by omega
    have h1 := (hP _ _ (x_w_at (E := E) (List.getElem?_eq_getElem hi))).lt
    simp only [x_lo] at h1
    omega
def x_nm (M' : xM) (n : Nat) : Prop := M'.1.cls ≠ "java/lang/invoke/MethodHandle" ∧ M'.1.cls ≠ "java/lang/invoke/VarHandle" ∧ (parseMethodDescriptor M'.1.desc).map (fun d => d.parameters.length) = some n
def x_KS (own : String) (ix : Nat) (M' : xM) (n : Nat) : Prop := Cond.methodLink own ix M'.1 ∈ wB ∧ Cond.static M'.1 ∈ wB ∧ Cond.initialized M'.1.cls ∈ wB ∧ Cond.code M'.1 M'.2.1 M'.2.2.1 M'.2.2.2.1 ∈ wB ∧ x_nm M' n
def x_KV (own : String) (ix : Nat) (M' : xM) (n ci : Nat) : Prop := Cond.methodLink own ix M'.1 ∈ wB ∧ Cond.instanceMethod M'.1 ∈ wB ∧ Cond.selects M'.1.cls M'.1 M'.1 ∈ wB ∧ Cond.initialized M'.1.cls ∈ wB ∧ Cond.code M'.1 M'.2.1 M'.2.2.1 M'.2.2.2.1 ∈ wB ∧ x_nm M' n ∧ ∃ q : vw_C, xCl[ci]? = some q ∧ q.1 = M'.1.cls
def x_KI (own : String) (ix : Nat) (M' : xM) (n : Nat) : Prop := (Cond.methodLink own ix M'.1 ∈ wB ∨ ∃ host, (own, ix, M'.1, host) ∈ xNM) ∧ Cond.instanceMethod M'.1 ∈ wB ∧ Cond.initialized M'.1.cls ∈ wB ∧ Cond.code M'.1 M'.2.1 M'.2.2.1 none ∈ wB ∧ x_nm M' n ∧ M'.1.name = "<init>" ∧ M'.2.2.2.1 = none
theorem x_good {M' : xM} (h : Cond.code M'.1 M'.2.1 M'.2.2.1 M'.2.2.2.1 ∈ wB) : GoodIn wB (x_ws M') := by
  intro w hw
  rcases List.mem_cons.mp hw with e | hw
  · subst e; exact wB_good _ h
  · exact wB_good _ hw
section
variable {E : xEn} {l : Launch} {M : xM} {pc pc' : Nat} {lv lv' : List (Nat × Value)} {st : List Value} {hp hp1 : List xC} {nc ns nc' ns' : Nat} {r r1 : Option Value} {hp' : List xC} {M' : xM} {n ix : Nat}
theorem g_cS (As : List Value) (F : x_KS M.1.cls ix M' n) (hcal : Cal E l M' As hp r1 hp1) (hn : As.length = n) (hst : (st.map fun v => v.category).sum ≤ 8) (hR : M'.2.2.2.2.1 + 1 ≤ M.2.2.2.2.1 ∧ 8 + (M'.2.2.1 + 11) + M'.2.2.2.2.2.1 ≤ M.2.2.2.2.2.1) (hd : decode M.2.1 pc = .ok (.invokestatic ix, 3)) (hpc : pc + 3 = pc') (hnc : nc + M'.2.2.2.2.2.2.1 = nc') (hns : ns + M'.2.2.2.2.2.2.2 = ns') (hrc : nc' ≤ M.2.2.2.2.2.2.1) (hrs : ns' ≤ M.2.2.2.2.2.2.2) (kk : G E l M pc' lv (r1.toList ++ st) hp1 nc' ns' r hp') : G E l M pc lv (As.reverse ++ st) hp nc ns r hp' := by
  subst hpc; subst hnc; subst hns
  intro p e R s m args below meth c Q H locs ls C hP hS hz hl K
  refine x_sized (fun hz1 => ?_)
  have hH := x_size hP hz1 hz (Nat.le_trans C.2.2.2.2.2.2.2.1 hS.1)
  obtain ⟨w1, w2, w3, w4, hnm⟩ := F
  have hts := C.2.2.2.2.1
  have hcw : CallB R s args M.1.cls ix M'.1 M'.2.1 M'.2.2.1 M'.2.2.2.1 (x_ws M') (x_rm M') M'.2.2.2.2.2.2.1 M'.2.2.2.2.2.2.2 n := callB_of n hts (x_good w4) rfl rfl rfl (hts _ w3) (hts _ w1) hnm ⟨Nat.le_trans hR.1 C.2.2.2.2.2.2.2.2.1, Nat.le_trans hR.2 C.2.2.2.2.2.2.2.2.2.1⟩
  have hrun := va_runS (As := As.map (x_v E)) (rest := st.map (x_v E)) (g := F0 m pc ls ((As.reverse ++ st).map (x_v E))) (below := below) (meth := meth) (e := e) (H := H) (locs := locs) (cells := nc) (slots := ns) (S := ⟨C.1, C.2.1, C.2.2.1, C.2.2.2.1, hts⟩) hcal ⟨hcw, hts _ w2⟩ ⟨x_blind, x_pre C hP hS hH (nc := nc)⟩ rfl (by rw [List.length_map]; exact hn) hl.1 (by rw [← List.map_reverse, ← List.map_append]) (lv_room (rest := (As.reverse ++ st).map (x_v E)) (by rw [x_cat]; exact hst)) hd ⟨Nat.le_trans hrc C.2.2.2.2.2.2.2.2.2.2.1, Nat.le_trans hrs C.2.2.2.2.2.2.2.2.2.2.2⟩
  refine x_goW hrun hS (fun H1 locs1 hP1 hlen hS1 => ?_)
  have e1 : (r1.map (x_v E)).toList ++ st.map (x_v E) = (r1.toList ++ st).map (x_v E) := by cases r1 <;> rfl
  rw [e1]
  exact kk p e R s m args below meth c Q H1 locs1 ls C hP1 hS1 (by rw [hlen]; omega) hl K
theorem g_cV {ci q : Nat} (As : List Value) (F : x_KV M.1.cls ix M' n ci) (hck : xck hp q ci = some ()) (hcal : Cal E l M' (.ref q :: As) hp r1 hp1) (hn : As.length = n) (hst : (st.map fun v => v.category).sum ≤ 8) (hR : M'.2.2.2.2.1 + 1 ≤ M.2.2.2.2.1 ∧ 8 + (M'.2.2.1 + 11) + M'.2.2.2.2.2.1 ≤ M.2.2.2.2.2.1) (hd : decode M.2.1 pc = .ok (.invokevirtual ix, 3)) (hpc : pc + 3 = pc') (hnc : nc + M'.2.2.2.2.2.2.1 = nc') (hns : ns + M'.2.2.2.2.2.2.2 = ns') (hrc : nc' ≤ M.2.2.2.2.2.2.1) (hrs : ns' ≤ M.2.2.2.2.2.2.2) (kk : G E l M pc' lv (r1.toList ++ st) hp1 nc' ns' r hp') : G E l M pc lv (As.reverse ++ .ref q :: st) hp nc ns r hp' := by
  subst hpc; subst hnc; subst hns
  intro p e R s m args below meth c Q H locs ls C hP hS hz hl K
  refine x_sized (fun hz1 => ?_)
  have hH := x_size hP hz1 hz (Nat.le_trans C.2.2.2.2.2.2.2.1 hS.1)
  obtain ⟨w1, w2, w3, w4, w5, hnm, qc, hq1, hq2⟩ := F
  obtain ⟨fs, hfs⟩ := xck_e hck
  have hts := C.2.2.2.2.1
  have hcw : CallB R s args M.1.cls ix M'.1 M'.2.1 M'.2.2.1 M'.2.2.2.1 (x_ws M') (x_rm M') M'.2.2.2.2.2.2.1 M'.2.2.2.2.2.2.2 n := callB_of n hts (x_good w5) rfl rfl rfl (hts _ w4) (hts _ w1) hnm ⟨Nat.le_trans hR.1 C.2.2.2.2.2.2.2.2.1, Nat.le_trans hR.2 C.2.2.2.2.2.2.2.2.2.1⟩
  have hrecv := va_recv C.2.2.2.2.2.2.1.1 hP hq1 (x_w_at (E := E) hfs)
  rw [hq2] at hrecv
  have hrun := va_runV (b := x_lo E q) (C := M'.1.cls) (As := As.map (x_v E)) (rest := st.map (x_v E)) (g := F0 m pc ls ((As.reverse ++ .ref q :: st).map (x_v E))) (below := below) (meth := meth) (e := e) (H := H) (locs := locs) (cells := nc) (slots := ns) (S := ⟨C.1, C.2.1, C.2.2.1, C.2.2.2.1, hts⟩) hcal ⟨hcw, hts _ w2, hts _ w3⟩ ⟨x_blind, hrecv, x_pre C hP hS hH (nc := nc) (as := (.ref q :: As).map (x_v E))⟩ rfl (by rw [List.length_map]; exact hn) hl.1 (by rw [← List.map_reverse, List.map_append]; rfl) (lv_room (rest := (As.reverse ++ .ref q :: st).map (x_v E)) (by rw [x_cat]; exact hst)) hd ⟨Nat.le_trans hrc C.2.2.2.2.2.2.2.2.2.2.1, Nat.le_trans hrs C.2.2.2.2.2.2.2.2.2.2.2⟩
  refine x_goW hrun hS (fun H1 locs1 hP1 hlen hS1 => ?_)
  have e1 : (r1.map (x_v E)).toList ++ st.map (x_v E) = (r1.toList ++ st).map (x_v E) := by cases r1 <;> rfl
  rw [e1]
  exact kk p e R s m args below meth c Q H1 locs1 ls C hP1 hS1 (by rw [hlen]; omega) hl K
theorem g_cI {q : Nat} (As : List Value) (F : x_KI M.1.cls ix M' n) (hcal : Cal E l M' (.ref q :: As) hp none hp1) (hn : As.length = n) (hst : (st.map fun v => v.category).sum ≤ 8) (hR : M'.2.2.2.2.1 + 1 ≤ M.2.2.2.2.1 ∧ 8 + (M'.2.2.1 + 11) + M'.2.2.2.2.2.1 ≤ M.2.2.2.2.2.1) (hd : decode M.2.1 pc = .ok (.invokespecial ix, 3)) (hpc : pc + 3 = pc') (hnc : nc + M'.2.2.2.2.2.2.1 = nc') (hns : ns + M'.2.2.2.2.2.2.2 = ns') (hrc : nc' ≤ M.2.2.2.2.2.2.1) (hrs : ns' ≤ M.2.2.2.2.2.2.2) (kk : G E l M pc' lv st hp1 nc' ns' r hp') : G E l M pc lv (As.reverse ++ .ref q :: st) hp nc ns r hp' := by
  subst hpc; subst hnc; subst hns
  intro p e R s m args below meth c Q H locs ls C hP hS hz hl K
  refine x_sized (fun hz1 => ?_)
  have hH := x_size hP hz1 hz (Nat.le_trans C.2.2.2.2.2.2.2.1 hS.1)
  obtain ⟨w1, w2, w3, w4, hnm, hy, hrt⟩ := F
  have hts := C.2.2.2.2.1
  have hR2 : (x_rm M').frames + 1 ≤ R.frames ∧ 8 + (M'.2.2.1 + 11) + (x_rm M').locals ≤ R.locals := ⟨Nat.le_trans hR.1 C.2.2.2.2.2.2.2.2.1, Nat.le_trans hR.2 C.2.2.2.2.2.2.2.2.2.1⟩
  have hg : GoodIn wB (x_ws M') := x_good (by rw [hrt]; exact w4)
  have hw0 : x_ws M' = Cond.code M'.1 M'.2.1 M'.2.2.1 none :: wB := by unfold x_ws; rw [hrt]
  have hrun : va_Run p l e R s m args below meth c H locs nc ns M'.2.2.2.2.2.2.1 M'.2.2.2.2.2.2.2 (F0 m pc ls ((As.reverse ++ .ref q :: st).map (x_v E))) (st.map (x_v E)) (x_Post E (hp.length + M'.2.2.2.2.2.2.1) none hp1 (Value.ref (x_lo E q) :: As.map (x_v E)).toArray) (x_A E) := by
    rcases w1 with w1 | ⟨host, w1⟩
    · exact va_runI (b := x_lo E q) (As := As.map (x_v E)) (rest := st.map (x_v E)) (S := ⟨C.1, C.2.1, C.2.2.1, C.2.2.2.1, hts⟩) hcal ⟨callB_of n hts hg hw0 rfl rfl (hts _ w3) (hts _ w1) hnm hR2, hy, hts _ w2⟩ ⟨x_blind, x_pre C hP hS hH (nc := nc) (as := (.ref q :: As).map (x_v E))⟩ rfl (by rw [List.length_map]; exact hn) hl.1 (by show _ = _; rw [← List.map_reverse, List.map_append]; rfl) (lv_room (rest := (As.reverse ++ .ref q :: st).map (x_v E)) (by rw [x_cat]; exact hst)) hd ⟨Nat.le_trans hrc C.2.2.2.2.2.2.2.2.2.2.1, Nat.le_trans hrs C.2.2.2.2.2.2.2.2.2.2.2⟩
    · exact va_runIN (b := x_lo E q) (As := As.map (x_v E)) (rest := st.map (x_v E)) (S := ⟨C.1, C.2.1, C.2.2.1, C.2.2.2.1, hts⟩) hcal ⟨va_cnB n hts hg hw0 rfl rfl (C.2.2.2.2.2.2.1.2.1.2 _ w1) (hts _ w3) hnm hR2, hy, hts _ w2⟩ ⟨x_blind, x_pre C hP hS hH (nc := nc) (as := (.ref q :: As).map (x_v E))⟩ rfl (by rw [List.length_map]; exact hn) hl.1 (by show _ = _; rw [← List.map_reverse, List.map_append]; rfl) (lv_room (rest := (As.reverse ++ .ref q :: st).map (x_v E)) (by rw [x_cat]; exact hst)) hd ⟨Nat.le_trans hrc C.2.2.2.2.2.2.2.2.2.2.1, Nat.le_trans hrs C.2.2.2.2.2.2.2.2.2.2.2⟩
  refine x_goW hrun hS (fun H1 locs1 hP1 hlen hS1 => ?_)
  exact kk p e R s m args below meth c Q H1 locs1 ls C hP1 hS1 (by rw [hlen]; omega) hl K
theorem x_cal {As : List Value} (hy : plainName M.1.cls = true) (hsl : (lg_sl As).length ≤ M.2.2.1) (hG : G E l M 0 (lv_args 0 As) [] hp 0 0 r hp') : Cal E l M As hp r hp' := by
  refine Met.ofW (cc := M.2.1) (maxL := M.2.2.1) (ret := M.2.2.2.1) (ws' := wB) hy rfl ?_
  intro p e s m args below meth c s₁ B hml hv
  obtain ⟨rfl, hAm, hP, hsz⟩ := hv
  have hts := atoms_spec (ws := x_ws M) B.pre
  have hown : s.vm.findClass M.1.cls = some m.cls := findClass_of_methodNamed B.named
  have hlocks := B.notSynchronized
  have hr := B.returns
  have hl := lv_entry (As.map (x_v E)) (n := M.2.2.1) (by rw [x_sl_len]; exact hsl)
  rw [x_lv_args] at hl
  rw [lg_entry_eq]
  generalize (lg_sl (As.map (x_v E)) ++ List.replicate (M.2.2.1 - (lg_sl (As.map (x_v E))).length) Slot.unset).toArray = ls at hl ⊢
  have C : x_Cx E M p (headSpec (x_ws M) (x_rm M)).room s m (As.map (x_v E)).toArray meth c := ⟨B.exec, B.bytes, hml, hown, fun w hw => hts w (List.mem_cons_of_mem _ hw), (name_of_methodNamed B.named B.method).1, hAm, by rw [hsz]; exact Nat.le_add_right _ _, Nat.le_refl _, Nat.le_refl _, Nat.le_refl _, Nat.le_refl _⟩
  refine hG p e _ s m _ below meth c _ s.heap [] ls C hP va_S.rf (by rw [hsz]; rfl) hl (fun pc' H' locs' ls' hd hrt hP' hS' hz' => ?_)
  have hpost : ∀ t : State, t.heap = H' → s.WarmedH t.vm → x_Post E (hp.length + M.2.2.2.2.2.2.1) r hp' (As.map (x_v E)).toArray s (.returned (r.map (x_v E))) t := fun t ht _ => ⟨rfl, by rw [ht]; exact hP', by omega, hS'.F ht⟩
  cases hret : M.2.2.2.1 with
  | none =>
    cases r with
    | none => exact W.vret B.exec B.bytes (hr.trans hret) hpost hS'.2.2 hd
    | some v => rw [hret] at hrt; exact absurd hrt (by simp [x_rt])
  | some ty =>
    cases r with
    | none => rw [hret] at hrt; exact absurd hrt (by cases ty <;> simp [x_rt])
    | some v =>
      rw [hret] at hrt
      cases v with
      | int x =>
        have hn : narrow ty (.int x) = .int x := by
          cases ty <;> first | rfl | (simp only [x_rt] at hrt; simp only [narrow]; rw [hrt]) | (simp [x_rt] at hrt)
        exact W.zret B.exec B.bytes (hr.trans hret) hn hpost hS'.2.2 hd
      | long x =>
        have ht : ty = .long := by cases ty <;> first | rfl | (simp [x_rt] at hrt)
        subst ht
        exact W.lret B.exec B.bytes (hr.trans hret) hpost hS'.2.2 hd
      | _ => exact absurd hrt (by cases ty <;> simp [x_rt])
end
end
section
/-! ===== the same rules, out of a pure function's text ===== -/
theorem xbnd {α β : Type} {o : Option α} {F : α → Option β} {b : β} (h : o.bind F = some b) : ∃ a, o = some a ∧ F a = some b := Option.bind_eq_some_iff.mp h
def xb2 {α β γ : Type} (o : Option (α × β)) (f : α → β → Option γ) : Option γ := o.bind (fun p => f p.1 p.2)
theorem xbnd2 {α β γ : Type} {o : Option (α × β)} {F : α → β → Option γ} {b : γ} (h : xb2 o F = some b) : ∃ u v, o = some (u, v) ∧ F u v = some b := by
  obtain ⟨p, h1, h2⟩ := xbnd h
  exact ⟨p.1, p.2, h1, h2⟩
theorem xif_t {c : Prop} [Decidable c] {α : Type} {A B : Option α} {b : α} (h : (if c then A else B) = some b) (hc : c) : A = some b := by rw [if_pos hc] at h; exact h
theorem xif_f {c : Prop} [Decidable c] {α : Type} {A B : Option α} {b : α} (h : (if c then A else B) = some b) (hc : ¬ c) : B = some b := by rw [if_neg hc] at h; exact h
theorem xgd {c : Prop} [Decidable c] {α : Type} {B : Option α} {b : α} (h : (if c then none else B) = some b) : ¬ c ∧ B = some b := by
  by_cases hc : c
  · rw [if_pos hc] at h; cases h
  · rw [if_neg hc] at h; exact ⟨hc, h⟩
/-- a boolean answer -/
def xbo (v : Int32) : Option Int32 := if v &&& 1 = v then some v else none
theorem xbo_e {v w : Int32} (h : xbo v = some w) : v = w ∧ w &&& 1 = w := by
  unfold xbo at h
  by_cases hc : v &&& 1 = v
  · rw [if_pos hc] at h; cases h; exact ⟨rfl, hc⟩
  · rw [if_neg hc] at h; cases h
section
variable {E : xEn} {l : Launch} {M : xM} {pc pc' : Nat} {lv lv' : List (Nat × Value)} {st : List Value} {hp hp1 : List xC} {nc ns nc' ns' : Nat} {r : Option Value} {hp' : List xC} {β : Type} {b : β}
theorem g_retI {v w : Int32} (hf : some v = some w) (hd : decode M.2.1 pc = .ok (.ireturn, 1)) (hm : M.2.2.2.1 = some .int) (hc : M.2.2.2.2.2.2.1 = nc) (hs : M.2.2.2.2.2.2.2 = ns) : G E l M pc lv [.int v] hp nc ns (some (.int w)) hp := by
  cases hf
  exact g_ret hd (by rw [hm]; trivial) hc hs rfl
theorem g_retIh {v w : Int32} (hf : some (v, hp) = some (w, hp')) (hd : decode M.2.1 pc = .ok (.ireturn, 1)) (hm : M.2.2.2.1 = some .int) (hc : M.2.2.2.2.2.2.1 = nc) (hs : M.2.2.2.2.2.2.2 = ns) : G E l M pc lv [.int v] hp nc ns (some (.int w)) hp' := by
  cases hf
  exact g_ret hd (by rw [hm]; trivial) hc hs rfl
theorem g_retZ {v w : Int32} (hf : xbo v = some w) (hd : decode M.2.1 pc = .ok (.ireturn, 1)) (hm : M.2.2.2.1 = some .boolean) (hc : M.2.2.2.2.2.2.1 = nc) (hs : M.2.2.2.2.2.2.2 = ns) : G E l M pc lv [.int v] hp nc ns (some (.int w)) hp := by
  obtain ⟨rfl, h2⟩ := xbo_e hf
  exact g_ret hd (by rw [hm]; exact h2) hc hs rfl
theorem g_retZh {v w : Int32} (hf : (xbo v).bind (fun u => some (u, hp)) = some (w, hp')) (hd : decode M.2.1 pc = .ok (.ireturn, 1)) (hm : M.2.2.2.1 = some .boolean) (hc : M.2.2.2.2.2.2.1 = nc) (hs : M.2.2.2.2.2.2.2 = ns) : G E l M pc lv [.int v] hp nc ns (some (.int w)) hp' := by
  obtain ⟨u, h1, h2⟩ := xbnd hf
  obtain ⟨rfl, h3⟩ := xbo_e h1
  cases h2
  exact g_ret hd (by rw [hm]; exact h3) hc hs rfl
theorem g_retL {v w : Int64} (hf : some v = some w) (hd : decode M.2.1 pc = .ok (.lreturn, 1)) (hm : M.2.2.2.1 = some .long) (hc : M.2.2.2.2.2.2.1 = nc) (hs : M.2.2.2.2.2.2.2 = ns) : G E l M pc lv [.long v] hp nc ns (some (.long w)) hp := by
  cases hf
  exact g_ret hd (by rw [hm]; trivial) hc hs rfl
theorem g_retLh {v w : Int64} (hf : some (v, hp) = some (w, hp')) (hd : decode M.2.1 pc = .ok (.lreturn, 1)) (hm : M.2.2.2.1 = some .long) (hc : M.2.2.2.2.2.2.1 = nc) (hs : M.2.2.2.2.2.2.2 = ns) : G E l M pc lv [.long v] hp nc ns (some (.long w)) hp' := by
  cases hf
  exact g_ret hd (by rw [hm]; trivial) hc hs rfl
theorem g_retV (hf : some hp = some hp') (hd : decode M.2.1 pc = .ok (.return_, 1)) (hm : M.2.2.2.1 = none) (hc : M.2.2.2.2.2.2.1 = nc) (hs : M.2.2.2.2.2.2.2 = ns) : G E l M pc lv [] hp nc ns none hp' := by
  cases hf
  exact g_ret hd (by rw [hm]; trivial) hc hs rfl
theorem g_nmib {v : Int32} {F : Int32 → Option β} (hf : (some v).bind F = some b) (kk : ∀ w, F w = some b → G E l M pc lv (.int w :: st) hp nc ns r hp') : G E l M pc lv (.int v :: st) hp nc ns r hp' := kk v hf
theorem g_nmlb {v : Int64} {F : Int64 → Option β} (hf : (some v).bind F = some b) (kk : ∀ w, F w = some b → G E l M pc lv (.long w :: st) hp nc ns r hp') : G E l M pc lv (.long v :: st) hp nc ns r hp' := kk v hf
theorem g_idivb {x y : Int32} {A : Option β} (hf : (if y = 0 then none else A) = some b) (hd : decode M.2.1 pc = .ok (.idiv, 1)) (hpc : pc + 1 = pc') (kk : A = some b → G E l M pc' lv (.int (x / y) :: st) hp nc ns r hp') : G E l M pc lv (.int y :: .int x :: st) hp nc ns r hp' := g_idiv hd hpc (xgd hf).1 (kk (xgd hf).2)
theorem g_iremb {x y : Int32} {A : Option β} (hf : (if y = 0 then none else A) = some b) (hd : decode M.2.1 pc = .ok (.irem, 1)) (hpc : pc + 1 = pc') (kk : A = some b → G E l M pc' lv (.int (jrem x y) :: st) hp nc ns r hp') : G E l M pc lv (.int y :: .int x :: st) hp nc ns r hp' := g_irem hd hpc (xgd hf).1 (kk (xgd hf).2)
theorem g_ldivb {x y : Int64} {A : Option β} (hf : (if y = 0 then none else A) = some b) (hd : decode M.2.1 pc = .ok (.ldiv, 1)) (hpc : pc + 1 = pc') (kk : A = some b → G E l M pc' lv (.long (x / y) :: st) hp nc ns r hp') : G E l M pc lv (.long y :: .long x :: st) hp nc ns r hp' := g_ldiv hd hpc (xgd hf).1 (kk (xgd hf).2)
theorem g_lremb {x y : Int64} {A : Option β} (hf : (if y = 0 then none else A) = some b) (hd : decode M.2.1 pc = .ok (.lrem, 1)) (hpc : pc + 1 = pc') (kk : A = some b → G E l M pc' lv (.long (jremL x y) :: st) hp nc ns r hp') : G E l M pc lv (.long y :: .long x :: st) hp nc ns r hp' := g_lrem hd hpc (xgd hf).1 (kk (xgd hf).2)
theorem g_getIb {ix ci k q : Nat} {F : Int32 → Option β} (W0 : x_F M.1.cls ix ci k) (hf : (xgI hp q ci k).bind F = some b) (hd : decode M.2.1 pc = .ok (.getfield ix, 3)) (hpc : pc + 3 = pc') (kk : ∀ v, F v = some b → G E l M pc' lv (.int v :: st) hp nc ns r hp') : G E l M pc lv (.ref q :: st) hp nc ns r hp' := by
  obtain ⟨v, h1, h2⟩ := xbnd hf
  exact g_getI W0 h1 hd hpc (kk v h2)
theorem g_getLb {ix ci k q : Nat} {F : Int64 → Option β} (W0 : x_F M.1.cls ix ci k) (hf : (xgL hp q ci k).bind F = some b) (hd : decode M.2.1 pc = .ok (.getfield ix, 3)) (hpc : pc + 3 = pc') (kk : ∀ v, F v = some b → G E l M pc' lv (.long v :: st) hp nc ns r hp') : G E l M pc lv (.ref q :: st) hp nc ns r hp' := by
  obtain ⟨v, h1, h2⟩ := xbnd hf
  exact g_getL W0 h1 hd hpc (kk v h2)
theorem g_getRb {ix ci k q : Nat} {F : Nat → Option β} (W0 : x_F M.1.cls ix ci k) (hf : (xgR hp q ci k).bind F = some b) (hd : decode M.2.1 pc = .ok (.getfield ix, 3)) (hpc : pc + 3 = pc') (kk : ∀ v, F v = some b → G E l M pc' lv (.ref v :: st) hp nc ns r hp') : G E l M pc lv (.ref q :: st) hp nc ns r hp' := by
  obtain ⟨v, h1, h2⟩ := xbnd hf
  exact g_getR W0 h1 hd hpc (kk v h2)
theorem g_putb {ix ci k q : Nat} {v : Value} {ty : FieldType} {fin : Bool} {F : List xC → Option β} (W0 : x_FW M.1.cls ix ci k ty fin) (hf : (xpV hp q ci k v).bind F = some b) (hfin : fin = true → M.1.name = "<init>") (hn : narrow ty (x_v E v) = x_v E v) (hft : fits ty (x_v E v) = true) (hd : decode M.2.1 pc = .ok (.putfield ix, 3)) (hpc : pc + 3 = pc') (kk : ∀ h1, F h1 = some b → G E l M pc' lv st h1 nc ns r hp') : G E l M pc lv (v :: .ref q :: st) hp nc ns r hp' := by
  obtain ⟨h1, e1, h2⟩ := xbnd hf
  exact g_putV W0 e1 hfin hn hft hd hpc (kk h1 h2)
theorem g_ialdb {q : Nat} {i : Int32} {F : Int32 → Option β} (hf : (xaT 0 hp q i).bind F = some b) (hd : decode M.2.1 pc = .ok (.iaload, 1)) (hpc : pc + 1 = pc') (kk : ∀ v, F v = some b → G E l M pc' lv (.int v :: st) hp nc ns r hp') : G E l M pc lv (.int i :: .ref q :: st) hp nc ns r hp' := by
  obtain ⟨v, h1, h2⟩ := xbnd hf
  exact g_iald h1 hd hpc (kk v h2)
theorem g_zaldb {q : Nat} {i : Int32} {F : Int32 → Option β} (hf : (xaT 1 hp q i).bind F = some b) (hd : decode M.2.1 pc = .ok (.baload, 1)) (hpc : pc + 1 = pc') (kk : ∀ v, F v = some b → G E l M pc' lv (.int v :: st) hp nc ns r hp') : G E l M pc lv (.int i :: .ref q :: st) hp nc ns r hp' := by
  obtain ⟨v, h1, h2⟩ := xbnd hf
  exact g_zald h1 hd hpc (kk v h2)
theorem g_laldb {q : Nat} {i : Int32} {F : Int64 → Option β} (hf : (xaL hp q i).bind F = some b) (hd : decode M.2.1 pc = .ok (.laload, 1)) (hpc : pc + 1 = pc') (kk : ∀ v, F v = some b → G E l M pc' lv (.long v :: st) hp nc ns r hp') : G E l M pc lv (.int i :: .ref q :: st) hp nc ns r hp' := by
  obtain ⟨v, h1, h2⟩ := xbnd hf
  exact g_lald h1 hd hpc (kk v h2)
theorem g_aaldb {q : Nat} {i : Int32} {F : Nat → Option β} (hf : (xaR hp q i).bind F = some b) (hd : decode M.2.1 pc = .ok (.aaload, 1)) (hpc : pc + 1 = pc') (kk : ∀ v, F v = some b → G E l M pc' lv (.ref v :: st) hp nc ns r hp') : G E l M pc lv (.int i :: .ref q :: st) hp nc ns r hp' := by
  obtain ⟨v, h1, h2⟩ := xbnd hf
  exact g_aald h1 hd hpc (kk v h2)
theorem g_iastb {q : Nat} {i v : Int32} {F : List xC → Option β} (hf : (xsT 0 hp q i v).bind F = some b) (hd : decode M.2.1 pc = .ok (.iastore, 1)) (hpc : pc + 1 = pc') (kk : ∀ h1, F h1 = some b → G E l M pc' lv st h1 nc ns r hp') : G E l M pc lv (.int v :: .int i :: .ref q :: st) hp nc ns r hp' := by
  obtain ⟨h1, e1, h2⟩ := xbnd hf
  exact g_iast e1 hd hpc (kk h1 h2)
theorem g_zastb {q : Nat} {i v : Int32} {F : List xC → Option β} (hf : (xsT 1 hp q i (v &&& 1)).bind F = some b) (hd : decode M.2.1 pc = .ok (.bastore, 1)) (hpc : pc + 1 = pc') (kk : ∀ h1, F h1 = some b → G E l M pc' lv st h1 nc ns r hp') : G E l M pc lv (.int v :: .int i :: .ref q :: st) hp nc ns r hp' := by
  obtain ⟨h1, e1, h2⟩ := xbnd hf
  exact g_zast e1 hd hpc (kk h1 h2)
theorem g_lastb {q : Nat} {i : Int32} {v : Int64} {F : List xC → Option β} (hf : (xsL hp q i v).bind F = some b) (hd : decode M.2.1 pc = .ok (.lastore, 1)) (hpc : pc + 1 = pc') (kk : ∀ h1, F h1 = some b → G E l M pc' lv st h1 nc ns r hp') : G E l M pc lv (.long v :: .int i :: .ref q :: st) hp nc ns r hp' := by
  obtain ⟨h1, e1, h2⟩ := xbnd hf
  exact g_last e1 hd hpc (kk h1 h2)
theorem g_aastb {q v : Nat} {i : Int32} {F : List xC → Option β} (hf : (xck hp v 3).bind (fun _ => (xsR hp q i v).bind F) = some b) (hd : decode M.2.1 pc = .ok (.aastore, 1)) (hpc : pc + 1 = pc') (kk : ∀ h1, F h1 = some b → G E l M pc' lv st h1 nc ns r hp') : G E l M pc lv (.ref v :: .int i :: .ref q :: st) hp nc ns r hp' := by
  obtain ⟨_, e0, hf⟩ := xbnd hf
  obtain ⟨h1, e1, h2⟩ := xbnd hf
  exact g_aast e0 e1 hd hpc (kk h1 h2)
theorem g_alenb {q : Nat} {F : Int32 → Option β} (hf : (xln hp q).bind F = some b) (hd : decode M.2.1 pc = .ok (.arraylength, 1)) (hpc : pc + 1 = pc') (kk : ∀ v, F v = some b → G E l M pc' lv (.int v :: st) hp nc ns r hp') : G E l M pc lv (.ref q :: st) hp nc ns r hp' := by
  obtain ⟨v, h1, h2⟩ := xbnd hf
  exact g_alen h1 hd hpc (kk v h2)
/-- an element of the script (L, xs), and of the table -/
def xsc (L : Nat) (xs : Nat → Int32) (i : Int32) : Option Int32 := if i < 0 ∨ L ≤ i.toNatClampNeg then none else some (xs i.toNatClampNeg)
def xor_ (i : Int32) : Option Int32 := if i < 0 ∨ 18 ≤ i.toNatClampNeg then none else some (xOrd i.toNatClampNeg)
theorem g_saldb {i : Int32} {F : Int32 → Option β} (hf : (xsc E.2.2.2.1.2.1 E.2.2.2.1.2.2 i).bind F = some b) (hd : decode M.2.1 pc = .ok (.iaload, 1)) (hpc : pc + 1 = pc') (kk : ∀ v, F v = some b → G E l M pc' lv (.int v :: st) hp nc ns r hp') : G E l M pc lv (.int i :: .float 0 :: st) hp nc ns r hp' := by
  obtain ⟨v, h1, h2⟩ := xbnd hf
  obtain ⟨h3, h4⟩ := xgd h1
  cases h4
  exact g_sald h3 hd hpc (kk _ h2)
theorem g_taldb {i : Int32} {F : Int32 → Option β} (hf : (xor_ i).bind F = some b) (hd : decode M.2.1 pc = .ok (.iaload, 1)) (hpc : pc + 1 = pc') (kk : ∀ v, F v = some b → G E l M pc' lv (.int v :: st) hp nc ns r hp') : G E l M pc lv (.int i :: .float 1 :: st) hp nc ns r hp' := by
  obtain ⟨v, h1, h2⟩ := xbnd hf
  obtain ⟨h3, h4⟩ := xgd h1
  cases h4
  exact g_tald h3 hd hpc (kk _ h2)
theorem g_copyb {ix p0 q0 : Nat} {sp dp n : Int32} {F : List xC → Option β} (hw : Cond.methodLink M.1.cls ix arraycopyName ∈ wB ∧ Cond.native arraycopyName ∈ wB ∧ Cond.static arraycopyName ∈ wB ∧ Cond.initialized "java/lang/System" ∈ wB) (hf : (xcp hp p0 sp q0 dp n).bind F = some b) (hfr : 1 ≤ M.2.2.2.2.1) (hlo : (st.map fun v => v.category).sum + 18 ≤ M.2.2.2.2.2.1) (hd : decode M.2.1 pc = .ok (.invokestatic ix, 3)) (hpc : pc + 3 = pc') (kk : ∀ h1, F h1 = some b → G E l M pc' lv st h1 nc ns r hp') : G E l M pc lv (.int n :: .int dp :: .ref q0 :: .int sp :: .ref p0 :: st) hp nc ns r hp' := by
  obtain ⟨h1, e1, h2⟩ := xbnd hf
  exact g_copy hw e1 hfr hlo hd hpc (kk h1 h2)
theorem g_newb {ix ci N : Nat} {ty : Nat → FieldType} {F : List xC → Option β} (fs : List Value) (W0 : x_NW M.1.cls ix ci N ty) (hf : (some (hp ++ [.inr (ci, fs)])).bind F = some b) (hfs : ∀ j, j < N → defaultValue (ty j) = vp_V fs j) (hx : fs.map (x_v E) = fs) (hd : decode M.2.1 pc = .ok (.new ix, 3)) (hpc : pc + 3 = pc') (hnc : nc + 1 = nc') (hns : ns + N = ns') (hrc : nc' ≤ M.2.2.2.2.2.2.1) (hrs : ns' ≤ M.2.2.2.2.2.2.2) (kk : ∀ h1, F h1 = some b → G E l M pc' lv (.ref hp.length :: st) h1 nc' ns' r hp') : G E l M pc lv st hp nc ns r hp' :=
  g_new fs W0 hfs hx hd hpc hnc hns hrc hrs (kk _ hf)
theorem g_newIb {N : Nat} {n : Int32} {F : List xC → Option β} (hw : Cond.arrayClass .int ∈ wB) (hf : (some (hp ++ [.inl (0, N, .inl (fun _ => 0))])).bind F = some b) (hn : ¬ n < 0) (hN : n.toNatClampNeg = N) (hb : N * 4 ≤ 536870912) (hd : decode M.2.1 pc = .ok (.newarray .int, 2)) (hpc : pc + 2 = pc') (hnc : nc + 1 = nc') (hns : ns + N = ns') (hrc : nc' ≤ M.2.2.2.2.2.2.1) (hrs : ns' ≤ M.2.2.2.2.2.2.2) (kk : ∀ h1, F h1 = some b → G E l M pc' lv (.ref hp.length :: st) h1 nc' ns' r hp') : G E l M pc lv (.int n :: st) hp nc ns r hp' :=
  g_newa (atype := .int) (ty := .int) (.inl (fun _ => 0)) hw rfl (fun _ => rfl) (fun _ => rfl) (fun _ => rfl) hn hN hb hd hpc hnc hns hrc hrs (kk _ hf)
theorem g_newZb {N : Nat} {n : Int32} {F : List xC → Option β} (hw : Cond.arrayClass .boolean ∈ wB) (hf : (some (hp ++ [.inl (1, N, .inl (fun _ => 0))])).bind F = some b) (hn : ¬ n < 0) (hN : n.toNatClampNeg = N) (hb : N * 1 ≤ 536870912) (hd : decode M.2.1 pc = .ok (.newarray .boolean, 2)) (hpc : pc + 2 = pc') (hnc : nc + 1 = nc') (hns : ns + N = ns') (hrc : nc' ≤ M.2.2.2.2.2.2.1) (hrs : ns' ≤ M.2.2.2.2.2.2.2) (kk : ∀ h1, F h1 = some b → G E l M pc' lv (.ref hp.length :: st) h1 nc' ns' r hp') : G E l M pc lv (.int n :: st) hp nc ns r hp' :=
  g_newa (atype := .boolean) (ty := .boolean) (.inl (fun _ => 0)) hw rfl (fun _ => rfl) (fun _ => rfl) (fun _ => rfl) hn hN hb hd hpc hnc hns hrc hrs (kk _ hf)
theorem g_newLb {N : Nat} {n : Int32} {F : List xC → Option β} (hw : Cond.arrayClass .long ∈ wB) (hf : (some (hp ++ [.inl (2, N, .inr (.inl (fun _ => 0)))])).bind F = some b) (hn : ¬ n < 0) (hN : n.toNatClampNeg = N) (hb : N * 8 ≤ 536870912) (hd : decode M.2.1 pc = .ok (.newarray .long, 2)) (hpc : pc + 2 = pc') (hnc : nc + 1 = nc') (hns : ns + N = ns') (hrc : nc' ≤ M.2.2.2.2.2.2.1) (hrs : ns' ≤ M.2.2.2.2.2.2.2) (kk : ∀ h1, F h1 = some b → G E l M pc' lv (.ref hp.length :: st) h1 nc' ns' r hp') : G E l M pc lv (.int n :: st) hp nc ns r hp' :=
  g_newa (atype := .long) (ty := .long) (.inr (.inl (fun _ => 0))) hw rfl (fun _ => rfl) (fun _ => rfl) (fun _ => rfl) hn hN hb hd hpc hnc hns hrc hrs (kk _ hf)
theorem g_newqb {ix N : Nat} {n : Int32} {F : List xC → Option β} (hw : Cond.classLink M.1.cls ix RX4 ∈ wB) (hw2 : Cond.arrayOver (.object RX4) ∈ wB) (hf : (some (hp ++ [.inl (3, N, .inr (.inr (.inr (.inr (fun _ => none)))))])).bind F = some b) (hn : ¬ n < 0) (hN : n.toNatClampNeg = N) (hb : N * 4 ≤ 536870912) (hd : decode M.2.1 pc = .ok (.anewarray ix, 3)) (hpc : pc + 3 = pc') (hnc : nc + 1 = nc') (hns : ns + N = ns') (hrc : nc' ≤ M.2.2.2.2.2.2.1) (hrs : ns' ≤ M.2.2.2.2.2.2.2) (kk : ∀ h1, F h1 = some b → G E l M pc' lv (.ref hp.length :: st) h1 nc' ns' r hp') : G E l M pc lv (.int n :: st) hp nc ns r hp' :=
  g_newq hw hw2 hn hN hb hd hpc hnc hns hrc hrs (kk _ hf)
variable {M' : xM} {n ix : Nat} {st0 : List Value}
theorem g_cSI {o : Option Int32} {F : Int32 → Option β} (As : List Value) (W0 : x_KS M.1.cls ix M' n) (hf : o.bind F = some b) (hcal : ∀ v, o = some v → Cal E l M' As hp (some (.int v)) hp) (h0 : As.reverse ++ st = st0) (hn : As.length = n) (hst : (st.map fun v => v.category).sum ≤ 8) (hR : M'.2.2.2.2.1 + 1 ≤ M.2.2.2.2.1 ∧ 8 + (M'.2.2.1 + 11) + M'.2.2.2.2.2.1 ≤ M.2.2.2.2.2.1) (hd : decode M.2.1 pc = .ok (.invokestatic ix, 3)) (hpc : pc + 3 = pc') (hnc : nc + M'.2.2.2.2.2.2.1 = nc') (hns : ns + M'.2.2.2.2.2.2.2 = ns') (hrc : nc' ≤ M.2.2.2.2.2.2.1) (hrs : ns' ≤ M.2.2.2.2.2.2.2) (kk : ∀ v, F v = some b → G E l M pc' lv (.int v :: st) hp nc' ns' r hp') : G E l M pc lv st0 hp nc ns r hp' := by
  subst h0
  obtain ⟨v, h1, h2⟩ := xbnd hf
  exact g_cS As W0 (hcal v h1) hn hst hR hd hpc hnc hns hrc hrs (kk v h2)
theorem g_cSL {o : Option Int64} {F : Int64 → Option β} (As : List Value) (W0 : x_KS M.1.cls ix M' n) (hf : o.bind F = some b) (hcal : ∀ v, o = some v → Cal E l M' As hp (some (.long v)) hp) (h0 : As.reverse ++ st = st0) (hn : As.length = n) (hst : (st.map fun v => v.category).sum ≤ 8) (hR : M'.2.2.2.2.1 + 1 ≤ M.2.2.2.2.1 ∧ 8 + (M'.2.2.1 + 11) + M'.2.2.2.2.2.1 ≤ M.2.2.2.2.2.1) (hd : decode M.2.1 pc = .ok (.invokestatic ix, 3)) (hpc : pc + 3 = pc') (hnc : nc + M'.2.2.2.2.2.2.1 = nc') (hns : ns + M'.2.2.2.2.2.2.2 = ns') (hrc : nc' ≤ M.2.2.2.2.2.2.1) (hrs : ns' ≤ M.2.2.2.2.2.2.2) (kk : ∀ v, F v = some b → G E l M pc' lv (.long v :: st) hp nc' ns' r hp') : G E l M pc lv st0 hp nc ns r hp' := by
  subst h0
  obtain ⟨v, h1, h2⟩ := xbnd hf
  exact g_cS As W0 (hcal v h1) hn hst hR hd hpc hnc hns hrc hrs (kk v h2)
theorem g_cSV {o : Option (List xC)} {F : List xC → Option β} (As : List Value) (W0 : x_KS M.1.cls ix M' n) (hf : o.bind F = some b) (hcal : ∀ h1, o = some h1 → Cal E l M' As hp none h1) (h0 : As.reverse ++ st = st0) (hn : As.length = n) (hst : (st.map fun v => v.category).sum ≤ 8) (hR : M'.2.2.2.2.1 + 1 ≤ M.2.2.2.2.1 ∧ 8 + (M'.2.2.1 + 11) + M'.2.2.2.2.2.1 ≤ M.2.2.2.2.2.1) (hd : decode M.2.1 pc = .ok (.invokestatic ix, 3)) (hpc : pc + 3 = pc') (hnc : nc + M'.2.2.2.2.2.2.1 = nc') (hns : ns + M'.2.2.2.2.2.2.2 = ns') (hrc : nc' ≤ M.2.2.2.2.2.2.1) (hrs : ns' ≤ M.2.2.2.2.2.2.2) (kk : ∀ h1, F h1 = some b → G E l M pc' lv st h1 nc' ns' r hp') : G E l M pc lv st0 hp nc ns r hp' := by
  subst h0
  obtain ⟨v, h1, h2⟩ := xbnd hf
  exact g_cS As W0 (hcal v h1) hn hst hR hd hpc hnc hns hrc hrs (kk v h2)
theorem g_cVI {ci q : Nat} {o : Option Int32} {F : Int32 → Option β} (As : List Value) (W0 : x_KV M.1.cls ix M' n ci) (hf : (xck hp q ci).bind (fun _ => o.bind F) = some b) (hcal : ∀ v, o = some v → Cal E l M' (.ref q :: As) hp (some (.int v)) hp) (h0 : As.reverse ++ .ref q :: st = st0) (hn : As.length = n) (hst : (st.map fun v => v.category).sum ≤ 8) (hR : M'.2.2.2.2.1 + 1 ≤ M.2.2.2.2.1 ∧ 8 + (M'.2.2.1 + 11) + M'.2.2.2.2.2.1 ≤ M.2.2.2.2.2.1) (hd : decode M.2.1 pc = .ok (.invokevirtual ix, 3)) (hpc : pc + 3 = pc') (hnc : nc + M'.2.2.2.2.2.2.1 = nc') (hns : ns + M'.2.2.2.2.2.2.2 = ns') (hrc : nc' ≤ M.2.2.2.2.2.2.1) (hrs : ns' ≤ M.2.2.2.2.2.2.2) (kk : ∀ v, F v = some b → G E l M pc' lv (.int v :: st) hp nc' ns' r hp') : G E l M pc lv st0 hp nc ns r hp' := by
  subst h0
  obtain ⟨_, e0, hf⟩ := xbnd hf
  obtain ⟨v, h1, h2⟩ := xbnd hf
  exact g_cV As W0 e0 (hcal v h1) hn hst hR hd hpc hnc hns hrc hrs (kk v h2)
theorem g_cVL {ci q : Nat} {o : Option Int64} {F : Int64 → Option β} (As : List Value) (W0 : x_KV M.1.cls ix M' n ci) (hf : (xck hp q ci).bind (fun _ => o.bind F) = some b) (hcal : ∀ v, o = some v → Cal E l M' (.ref q :: As) hp (some (.long v)) hp) (h0 : As.reverse ++ .ref q :: st = st0) (hn : As.length = n) (hst : (st.map fun v => v.category).sum ≤ 8) (hR : M'.2.2.2.2.1 + 1 ≤ M.2.2.2.2.1 ∧ 8 + (M'.2.2.1 + 11) + M'.2.2.2.2.2.1 ≤ M.2.2.2.2.2.1) (hd : decode M.2.1 pc = .ok (.invokevirtual ix, 3)) (hpc : pc + 3 = pc') (hnc : nc + M'.2.2.2.2.2.2.1 = nc') (hns : ns + M'.2.2.2.2.2.2.2 = ns') (hrc : nc' ≤ M.2.2.2.2.2.2.1) (hrs : ns' ≤ M.2.2.2.2.2.2.2) (kk : ∀ v, F v = some b → G E l M pc' lv (.long v :: st) hp nc' ns' r hp') : G E l M pc lv st0 hp nc ns r hp' := by
  subst h0
  obtain ⟨_, e0, hf⟩ := xbnd hf
  obtain ⟨v, h1, h2⟩ := xbnd hf
  exact g_cV As W0 e0 (hcal v h1) hn hst hR hd hpc hnc hns hrc hrs (kk v h2)
theorem g_cVV {ci q : Nat} {o : Option (List xC)} {F : List xC → Option β} (As : List Value) (W0 : x_KV M.1.cls ix M' n ci) (hf : (xck hp q ci).bind (fun _ => o.bind F) = some b) (hcal : ∀ h1, o = some h1 → Cal E l M' (.ref q :: As) hp none h1) (h0 : As.reverse ++ .ref q :: st = st0) (hn : As.length = n) (hst : (st.map fun v => v.category).sum ≤ 8) (hR : M'.2.2.2.2.1 + 1 ≤ M.2.2.2.2.1 ∧ 8 + (M'.2.2.1 + 11) + M'.2.2.2.2.2.1 ≤ M.2.2.2.2.2.1) (hd : decode M.2.1 pc = .ok (.invokevirtual ix, 3)) (hpc : pc + 3 = pc') (hnc : nc + M'.2.2.2.2.2.2.1 = nc') (hns : ns + M'.2.2.2.2.2.2.2 = ns') (hrc : nc' ≤ M.2.2.2.2.2.2.1) (hrs : ns' ≤ M.2.2.2.2.2.2.2) (kk : ∀ h1, F h1 = some b → G E l M pc' lv st h1 nc' ns' r hp') : G E l M pc lv st0 hp nc ns r hp' := by
  subst h0
  obtain ⟨_, e0, hf⟩ := xbnd hf
  obtain ⟨v, h1, h2⟩ := xbnd hf
  exact g_cV As W0 e0 (hcal v h1) hn hst hR hd hpc hnc hns hrc hrs (kk v h2)
theorem g_cVIh {ci q : Nat} {o : Option (Int32 × List xC)} {F : Int32 → List xC → Option β} (As : List Value) (W0 : x_KV M.1.cls ix M' n ci) (hf : (xck hp q ci).bind (fun _ => xb2 o F) = some b) (hcal : ∀ v h1, o = some (v, h1) → Cal E l M' (.ref q :: As) hp (some (.int v)) h1) (h0 : As.reverse ++ .ref q :: st = st0) (hn : As.length = n) (hst : (st.map fun v => v.category).sum ≤ 8) (hR : M'.2.2.2.2.1 + 1 ≤ M.2.2.2.2.1 ∧ 8 + (M'.2.2.1 + 11) + M'.2.2.2.2.2.1 ≤ M.2.2.2.2.2.1) (hd : decode M.2.1 pc = .ok (.invokevirtual ix, 3)) (hpc : pc + 3 = pc') (hnc : nc + M'.2.2.2.2.2.2.1 = nc') (hns : ns + M'.2.2.2.2.2.2.2 = ns') (hrc : nc' ≤ M.2.2.2.2.2.2.1) (hrs : ns' ≤ M.2.2.2.2.2.2.2) (kk : ∀ v h1, F v h1 = some b → G E l M pc' lv (.int v :: st) h1 nc' ns' r hp') : G E l M pc lv st0 hp nc ns r hp' := by
  subst h0
  obtain ⟨_, e0, hf⟩ := xbnd hf
  obtain ⟨v, h1, e1, h2⟩ := xbnd2 hf
  exact g_cV As W0 e0 (hcal v h1 e1) hn hst hR hd hpc hnc hns hrc hrs (kk v h1 h2)
theorem g_cVLh {ci q : Nat} {o : Option (Int64 × List xC)} {F : Int64 → List xC → Option β} (As : List Value) (W0 : x_KV M.1.cls ix M' n ci) (hf : (xck hp q ci).bind (fun _ => xb2 o F) = some b) (hcal : ∀ v h1, o = some (v, h1) → Cal E l M' (.ref q :: As) hp (some (.long v)) h1) (h0 : As.reverse ++ .ref q :: st = st0) (hn : As.length = n) (hst : (st.map fun v => v.category).sum ≤ 8) (hR : M'.2.2.2.2.1 + 1 ≤ M.2.2.2.2.1 ∧ 8 + (M'.2.2.1 + 11) + M'.2.2.2.2.2.1 ≤ M.2.2.2.2.2.1) (hd : decode M.2.1 pc = .ok (.invokevirtual ix, 3)) (hpc : pc + 3 = pc') (hnc : nc + M'.2.2.2.2.2.2.1 = nc') (hns : ns + M'.2.2.2.2.2.2.2 = ns') (hrc : nc' ≤ M.2.2.2.2.2.2.1) (hrs : ns' ≤ M.2.2.2.2.2.2.2) (kk : ∀ v h1, F v h1 = some b → G E l M pc' lv (.long v :: st) h1 nc' ns' r hp') : G E l M pc lv st0 hp nc ns r hp' := by
  subst h0
  obtain ⟨_, e0, hf⟩ := xbnd hf
  obtain ⟨v, h1, e1, h2⟩ := xbnd2 hf
  exact g_cV As W0 e0 (hcal v h1 e1) hn hst hR hd hpc hnc hns hrc hrs (kk v h1 h2)
theorem g_cIb {q : Nat} {o : Option (List xC)} {F : List xC → Option β} (As : List Value) (W0 : x_KI M.1.cls ix M' n) (hf : o.bind F = some b) (hcal : ∀ h1, o = some h1 → Cal E l M' (.ref q :: As) hp none h1) (h0 : As.reverse ++ .ref q :: st = st0) (hn : As.length = n) (hst : (st.map fun v => v.category).sum ≤ 8) (hR : M'.2.2.2.2.1 + 1 ≤ M.2.2.2.2.1 ∧ 8 + (M'.2.2.1 + 11) + M'.2.2.2.2.2.1 ≤ M.2.2.2.2.2.1) (hd : decode M.2.1 pc = .ok (.invokespecial ix, 3)) (hpc : pc + 3 = pc') (hnc : nc + M'.2.2.2.2.2.2.1 = nc') (hns : ns + M'.2.2.2.2.2.2.2 = ns') (hrc : nc' ≤ M.2.2.2.2.2.2.1) (hrs : ns' ≤ M.2.2.2.2.2.2.2) (kk : ∀ h1, F h1 = some b → G E l M pc' lv st h1 nc' ns' r hp') : G E l M pc lv st0 hp nc ns r hp' := by
  subst h0
  obtain ⟨h1, e1, h2⟩ := xbnd hf
  exact g_cI As W0 (hcal h1 e1) hn hst hR hd hpc hnc hns hrc hrs (kk h1 h2)
end
end
