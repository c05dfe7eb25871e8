section
-- ===== PART A: goes FIRST, ahead of the names: the tables' words, and 'selects' of the private methods out of them =====
/-- a private method of a class that the tables say can be made, by its rows of tables_1 -/
def lw_okq (q : MethodName × Nat) : Prop := (q.1.cls ≠ "java/lang/invoke/MethodHandle" ∧ q.1.cls ≠ "java/lang/invoke/VarHandle") ∧ Cond.instantiable q.1.cls q.2 ∈ tables_1 ∧ Cond.privateMethod q.1 ∈ tables_1 ∧ Cond.instanceMethod q.1 ∈ tables_1
theorem lw_p0 : lw_okq (⟨"ValueMill", "forgetWhatWasMade", "()V"⟩, 12) := ⟨⟨by decide +kernel, by decide +kernel⟩, List.mem_of_getElem? (i := 16) (by decide +kernel), List.mem_of_getElem? (i := 468) (by decide +kernel), List.mem_of_getElem? (i := 469) (by decide +kernel)⟩
theorem lw_p1 : lw_okq (⟨"ValueMill$Program", "hasBlock", "(I)Z"⟩, 11) := ⟨⟨by decide +kernel, by decide +kernel⟩, List.mem_of_getElem? (i := 24) (by decide +kernel), List.mem_of_getElem? (i := 476) (by decide +kernel), List.mem_of_getElem? (i := 477) (by decide +kernel)⟩
theorem lw_p2 : lw_okq (⟨"ValueMill$Program", "addOperation", "(IIIII)V"⟩, 11) := ⟨⟨by decide +kernel, by decide +kernel⟩, List.mem_of_getElem? (i := 24) (by decide +kernel), List.mem_of_getElem? (i := 486) (by decide +kernel), List.mem_of_getElem? (i := 487) (by decide +kernel)⟩
theorem lw_p3 : lw_okq (⟨"ValueMill$Program", "setEnd", "(III)V"⟩, 11) := ⟨⟨by decide +kernel, by decide +kernel⟩, List.mem_of_getElem? (i := 24) (by decide +kernel), List.mem_of_getElem? (i := 494) (by decide +kernel), List.mem_of_getElem? (i := 495) (by decide +kernel)⟩
theorem lw_p4 : lw_okq (⟨"ValueMill$Program", "setEdges", "(III)V"⟩, 11) := ⟨⟨by decide +kernel, by decide +kernel⟩, List.mem_of_getElem? (i := 24) (by decide +kernel), List.mem_of_getElem? (i := 498) (by decide +kernel), List.mem_of_getElem? (i := 499) (by decide +kernel)⟩
theorem lw_p5 : lw_okq (⟨"ValueMill", "makeCode", "(II)V"⟩, 12) := ⟨⟨by decide +kernel, by decide +kernel⟩, List.mem_of_getElem? (i := 16) (by decide +kernel), List.mem_of_getElem? (i := 521) (by decide +kernel), List.mem_of_getElem? (i := 522) (by decide +kernel)⟩
theorem lw_p6 : lw_okq (⟨"ValueMill$Writer", "writeAsItIs", "()V"⟩, 7) := ⟨⟨by decide +kernel, by decide +kernel⟩, List.mem_of_getElem? (i := 345) (by decide +kernel), List.mem_of_getElem? (i := 525) (by decide +kernel), List.mem_of_getElem? (i := 526) (by decide +kernel)⟩
theorem lw_p7 : lw_okq (⟨"ValueMill$Code", "clear", "()V"⟩, 10) := ⟨⟨by decide +kernel, by decide +kernel⟩, List.mem_of_getElem? (i := 298) (by decide +kernel), List.mem_of_getElem? (i := 529) (by decide +kernel), List.mem_of_getElem? (i := 530) (by decide +kernel)⟩
theorem lw_p8 : lw_okq (⟨"ValueMill$Code", "begin", "(I)V"⟩, 10) := ⟨⟨by decide +kernel, by decide +kernel⟩, List.mem_of_getElem? (i := 298) (by decide +kernel), List.mem_of_getElem? (i := 536) (by decide +kernel), List.mem_of_getElem? (i := 537) (by decide +kernel)⟩
theorem lw_p9 : lw_okq (⟨"ValueMill$Writer", "plainForm", "(I)I"⟩, 7) := ⟨⟨by decide +kernel, by decide +kernel⟩, List.mem_of_getElem? (i := 345) (by decide +kernel), List.mem_of_getElem? (i := 540) (by decide +kernel), List.mem_of_getElem? (i := 541) (by decide +kernel)⟩
theorem lw_p10 : lw_okq (⟨"ValueMill$Program", "takesA", "(I)Z"⟩, 11) := ⟨⟨by decide +kernel, by decide +kernel⟩, List.mem_of_getElem? (i := 24) (by decide +kernel), List.mem_of_getElem? (i := 544) (by decide +kernel), List.mem_of_getElem? (i := 545) (by decide +kernel)⟩
theorem lw_p11 : lw_okq (⟨"ValueMill$Program", "takesB", "(I)Z"⟩, 11) := ⟨⟨by decide +kernel, by decide +kernel⟩, List.mem_of_getElem? (i := 24) (by decide +kernel), List.mem_of_getElem? (i := 548) (by decide +kernel), List.mem_of_getElem? (i := 549) (by decide +kernel)⟩
theorem lw_p12 : lw_okq (⟨"ValueMill$Code", "add", "(IIIII)V"⟩, 10) := ⟨⟨by decide +kernel, by decide +kernel⟩, List.mem_of_getElem? (i := 298) (by decide +kernel), List.mem_of_getElem? (i := 552) (by decide +kernel), List.mem_of_getElem? (i := 553) (by decide +kernel)⟩
theorem lw_p13 : lw_okq (⟨"ValueMill$Code", "finish", "(I)V"⟩, 10) := ⟨⟨by decide +kernel, by decide +kernel⟩, List.mem_of_getElem? (i := 298) (by decide +kernel), List.mem_of_getElem? (i := 556) (by decide +kernel), List.mem_of_getElem? (i := 557) (by decide +kernel)⟩
theorem lw_p14 : lw_okq (⟨"ValueMill$Code", "setEnd", "(IIZ)V"⟩, 10) := ⟨⟨by decide +kernel, by decide +kernel⟩, List.mem_of_getElem? (i := 298) (by decide +kernel), List.mem_of_getElem? (i := 560) (by decide +kernel), List.mem_of_getElem? (i := 561) (by decide +kernel)⟩
theorem lw_p15 : lw_okq (⟨"ValueMill", "look", "()V"⟩, 12) := ⟨⟨by decide +kernel, by decide +kernel⟩, List.mem_of_getElem? (i := 16) (by decide +kernel), List.mem_of_getElem? (i := 564) (by decide +kernel), List.mem_of_getElem? (i := 565) (by decide +kernel)⟩
def lw_privs_1 : List (MethodName × Nat) := [(⟨"ValueMill", "forgetWhatWasMade", "()V"⟩, 12), (⟨"ValueMill$Program", "hasBlock", "(I)Z"⟩, 11), (⟨"ValueMill$Program", "addOperation", "(IIIII)V"⟩, 11), (⟨"ValueMill$Program", "setEnd", "(III)V"⟩, 11), (⟨"ValueMill$Program", "setEdges", "(III)V"⟩, 11), (⟨"ValueMill", "makeCode", "(II)V"⟩, 12), (⟨"ValueMill$Writer", "writeAsItIs", "()V"⟩, 7), (⟨"ValueMill$Code", "clear", "()V"⟩, 10), (⟨"ValueMill$Code", "begin", "(I)V"⟩, 10), (⟨"ValueMill$Writer", "plainForm", "(I)I"⟩, 7), (⟨"ValueMill$Program", "takesA", "(I)Z"⟩, 11), (⟨"ValueMill$Program", "takesB", "(I)Z"⟩, 11), (⟨"ValueMill$Code", "add", "(IIIII)V"⟩, 10), (⟨"ValueMill$Code", "finish", "(I)V"⟩, 10), (⟨"ValueMill$Code", "setEnd", "(IIZ)V"⟩, 10), (⟨"ValueMill", "look", "()V"⟩, 12)]
theorem lw_r1 : ∀ q ∈ lw_privs_1, lw_okq q := List.forall_mem_cons.mpr ⟨lw_p0, List.forall_mem_cons.mpr ⟨lw_p1, List.forall_mem_cons.mpr ⟨lw_p2, List.forall_mem_cons.mpr ⟨lw_p3, List.forall_mem_cons.mpr ⟨lw_p4, List.forall_mem_cons.mpr ⟨lw_p5, List.forall_mem_cons.mpr ⟨lw_p6, List.forall_mem_cons.mpr ⟨lw_p7, List.forall_mem_cons.mpr ⟨lw_p8, List.forall_mem_cons.mpr ⟨lw_p9, List.forall_mem_cons.mpr ⟨lw_p10, List.forall_mem_cons.mpr ⟨lw_p11, List.forall_mem_cons.mpr ⟨lw_p12, List.forall_mem_cons.mpr ⟨lw_p13, List.forall_mem_cons.mpr ⟨lw_p14, List.forall_mem_cons.mpr ⟨lw_p15, fun _ h => absurd h List.not_mem_nil⟩⟩⟩⟩⟩⟩⟩⟩⟩⟩⟩⟩⟩⟩⟩⟩
theorem lw_p16 : lw_okq (⟨"ValueMill$Flow", "lookAt", "()V"⟩, 11) := ⟨⟨by decide +kernel, by decide +kernel⟩, List.mem_of_getElem? (i := 91) (by decide +kernel), List.mem_of_getElem? (i := 568) (by decide +kernel), List.mem_of_getElem? (i := 569) (by decide +kernel)⟩
theorem lw_p17 : lw_okq (⟨"ValueMill$Flow", "findEdges", "()V"⟩, 11) := ⟨⟨by decide +kernel, by decide +kernel⟩, List.mem_of_getElem? (i := 91) (by decide +kernel), List.mem_of_getElem? (i := 572) (by decide +kernel), List.mem_of_getElem? (i := 573) (by decide +kernel)⟩
theorem lw_p18 : lw_okq (⟨"ValueMill$Program", "edges", "(I)I"⟩, 11) := ⟨⟨by decide +kernel, by decide +kernel⟩, List.mem_of_getElem? (i := 24) (by decide +kernel), List.mem_of_getElem? (i := 576) (by decide +kernel), List.mem_of_getElem? (i := 577) (by decide +kernel)⟩
theorem lw_p19 : lw_okq (⟨"ValueMill$Program", "target", "(II)I"⟩, 11) := ⟨⟨by decide +kernel, by decide +kernel⟩, List.mem_of_getElem? (i := 24) (by decide +kernel), List.mem_of_getElem? (i := 580) (by decide +kernel), List.mem_of_getElem? (i := 581) (by decide +kernel)⟩
theorem lw_p20 : lw_okq (⟨"ValueMill$Flow", "reachedFrom", "(II)I"⟩, 11) := ⟨⟨by decide +kernel, by decide +kernel⟩, List.mem_of_getElem? (i := 91) (by decide +kernel), List.mem_of_getElem? (i := 584) (by decide +kernel), List.mem_of_getElem? (i := 585) (by decide +kernel)⟩
theorem lw_p21 : lw_okq (⟨"ValueMill$Flow", "findOrder", "()V"⟩, 11) := ⟨⟨by decide +kernel, by decide +kernel⟩, List.mem_of_getElem? (i := 91) (by decide +kernel), List.mem_of_getElem? (i := 592) (by decide +kernel), List.mem_of_getElem? (i := 593) (by decide +kernel)⟩
theorem lw_p22 : lw_okq (⟨"ValueMill$Flow", "goThrough", "(II)V"⟩, 11) := ⟨⟨by decide +kernel, by decide +kernel⟩, List.mem_of_getElem? (i := 91) (by decide +kernel), List.mem_of_getElem? (i := 596) (by decide +kernel), List.mem_of_getElem? (i := 597) (by decide +kernel)⟩
theorem lw_p23 : lw_okq (⟨"ValueMill$Flow", "findDominators", "()V"⟩, 11) := ⟨⟨by decide +kernel, by decide +kernel⟩, List.mem_of_getElem? (i := 91) (by decide +kernel), List.mem_of_getElem? (i := 600) (by decide +kernel), List.mem_of_getElem? (i := 601) (by decide +kernel)⟩
theorem lw_p24 : lw_okq (⟨"ValueMill$Flow", "findNearest", "(I)V"⟩, 11) := ⟨⟨by decide +kernel, by decide +kernel⟩, List.mem_of_getElem? (i := 91) (by decide +kernel), List.mem_of_getElem? (i := 604) (by decide +kernel), List.mem_of_getElem? (i := 605) (by decide +kernel)⟩
theorem lw_p25 : lw_okq (⟨"ValueMill$Flow", "findFrontier", "(I)V"⟩, 11) := ⟨⟨by decide +kernel, by decide +kernel⟩, List.mem_of_getElem? (i := 91) (by decide +kernel), List.mem_of_getElem? (i := 608) (by decide +kernel), List.mem_of_getElem? (i := 609) (by decide +kernel)⟩
theorem lw_p26 : lw_okq (⟨"ValueMill$Flow", "dominates", "(II)Z"⟩, 11) := ⟨⟨by decide +kernel, by decide +kernel⟩, List.mem_of_getElem? (i := 91) (by decide +kernel), List.mem_of_getElem? (i := 612) (by decide +kernel), List.mem_of_getElem? (i := 613) (by decide +kernel)⟩
theorem lw_p27 : lw_okq (⟨"ValueMill$Flow", "countLoop", "(I)V"⟩, 11) := ⟨⟨by decide +kernel, by decide +kernel⟩, List.mem_of_getElem? (i := 91) (by decide +kernel), List.mem_of_getElem? (i := 616) (by decide +kernel), List.mem_of_getElem? (i := 617) (by decide +kernel)⟩
theorem lw_p28 : lw_okq (⟨"ValueMill$Lives", "lookAt", "()V"⟩, 6) := ⟨⟨by decide +kernel, by decide +kernel⟩, List.mem_of_getElem? (i := 149) (by decide +kernel), List.mem_of_getElem? (i := 620) (by decide +kernel), List.mem_of_getElem? (i := 621) (by decide +kernel)⟩
theorem lw_p29 : lw_okq (⟨"ValueMill$Lives", "findReadsAndWrites", "(I)V"⟩, 6) := ⟨⟨by decide +kernel, by decide +kernel⟩, List.mem_of_getElem? (i := 149) (by decide +kernel), List.mem_of_getElem? (i := 624) (by decide +kernel), List.mem_of_getElem? (i := 625) (by decide +kernel)⟩
theorem lw_p30 : lw_okq (⟨"ValueMill$Program", "usedSet", "(I)I"⟩, 11) := ⟨⟨by decide +kernel, by decide +kernel⟩, List.mem_of_getElem? (i := 24) (by decide +kernel), List.mem_of_getElem? (i := 628) (by decide +kernel), List.mem_of_getElem? (i := 629) (by decide +kernel)⟩
theorem lw_p31 : lw_okq (⟨"ValueMill$Program", "madeSet", "(I)I"⟩, 11) := ⟨⟨by decide +kernel, by decide +kernel⟩, List.mem_of_getElem? (i := 24) (by decide +kernel), List.mem_of_getElem? (i := 634) (by decide +kernel), List.mem_of_getElem? (i := 635) (by decide +kernel)⟩
def lw_privs_2 : List (MethodName × Nat) := [(⟨"ValueMill$Flow", "lookAt", "()V"⟩, 11), (⟨"ValueMill$Flow", "findEdges", "()V"⟩, 11), (⟨"ValueMill$Program", "edges", "(I)I"⟩, 11), (⟨"ValueMill$Program", "target", "(II)I"⟩, 11), (⟨"ValueMill$Flow", "reachedFrom", "(II)I"⟩, 11), (⟨"ValueMill$Flow", "findOrder", "()V"⟩, 11), (⟨"ValueMill$Flow", "goThrough", "(II)V"⟩, 11), (⟨"ValueMill$Flow", "findDominators", "()V"⟩, 11), (⟨"ValueMill$Flow", "findNearest", "(I)V"⟩, 11), (⟨"ValueMill$Flow", "findFrontier", "(I)V"⟩, 11), (⟨"ValueMill$Flow", "dominates", "(II)Z"⟩, 11), (⟨"ValueMill$Flow", "countLoop", "(I)V"⟩, 11), (⟨"ValueMill$Lives", "lookAt", "()V"⟩, 6), (⟨"ValueMill$Lives", "findReadsAndWrites", "(I)V"⟩, 6), (⟨"ValueMill$Program", "usedSet", "(I)I"⟩, 11), (⟨"ValueMill$Program", "madeSet", "(I)I"⟩, 11)]
theorem lw_r2 : ∀ q ∈ lw_privs_2, lw_okq q := List.forall_mem_cons.mpr ⟨lw_p16, List.forall_mem_cons.mpr ⟨lw_p17, List.forall_mem_cons.mpr ⟨lw_p18, List.forall_mem_cons.mpr ⟨lw_p19, List.forall_mem_cons.mpr ⟨lw_p20, List.forall_mem_cons.mpr ⟨lw_p21, List.forall_mem_cons.mpr ⟨lw_p22, List.forall_mem_cons.mpr ⟨lw_p23, List.forall_mem_cons.mpr ⟨lw_p24, List.forall_mem_cons.mpr ⟨lw_p25, List.forall_mem_cons.mpr ⟨lw_p26, List.forall_mem_cons.mpr ⟨lw_p27, List.forall_mem_cons.mpr ⟨lw_p28, List.forall_mem_cons.mpr ⟨lw_p29, List.forall_mem_cons.mpr ⟨lw_p30, List.forall_mem_cons.mpr ⟨lw_p31, fun _ h => absurd h List.not_mem_nil⟩⟩⟩⟩⟩⟩⟩⟩⟩⟩⟩⟩⟩⟩⟩⟩
theorem lw_p32 : lw_okq (⟨"ValueMill$Program", "makesValue", "(I)Z"⟩, 11) := ⟨⟨by decide +kernel, by decide +kernel⟩, List.mem_of_getElem? (i := 24) (by decide +kernel), List.mem_of_getElem? (i := 638) (by decide +kernel), List.mem_of_getElem? (i := 639) (by decide +kernel)⟩
theorem lw_p33 : lw_okq (⟨"ValueMill$Program", "usedAtEndSet", "(I)I"⟩, 11) := ⟨⟨by decide +kernel, by decide +kernel⟩, List.mem_of_getElem? (i := 24) (by decide +kernel), List.mem_of_getElem? (i := 642) (by decide +kernel), List.mem_of_getElem? (i := 643) (by decide +kernel)⟩
theorem lw_p34 : lw_okq (⟨"ValueMill$Program", "endTakesTemp", "(I)Z"⟩, 11) := ⟨⟨by decide +kernel, by decide +kernel⟩, List.mem_of_getElem? (i := 24) (by decide +kernel), List.mem_of_getElem? (i := 646) (by decide +kernel), List.mem_of_getElem? (i := 647) (by decide +kernel)⟩
theorem lw_p35 : lw_okq (⟨"ValueMill$Lives", "liveBehind", "(I)I"⟩, 6) := ⟨⟨by decide +kernel, by decide +kernel⟩, List.mem_of_getElem? (i := 149) (by decide +kernel), List.mem_of_getElem? (i := 650) (by decide +kernel), List.mem_of_getElem? (i := 651) (by decide +kernel)⟩
theorem lw_p36 : lw_okq (⟨"ValueMill$Lives", "placePhis", "(I)V"⟩, 6) := ⟨⟨by decide +kernel, by decide +kernel⟩, List.mem_of_getElem? (i := 149) (by decide +kernel), List.mem_of_getElem? (i := 656) (by decide +kernel), List.mem_of_getElem? (i := 657) (by decide +kernel)⟩
theorem lw_p37 : lw_okq (⟨"ValueMill$Lives", "frontiersOf", "(I)I"⟩, 6) := ⟨⟨by decide +kernel, by decide +kernel⟩, List.mem_of_getElem? (i := 149) (by decide +kernel), List.mem_of_getElem? (i := 661) (by decide +kernel), List.mem_of_getElem? (i := 662) (by decide +kernel)⟩
theorem lw_p38 : lw_okq (⟨"ValueMill$Names", "giveNames", "()V"⟩, 7) := ⟨⟨by decide +kernel, by decide +kernel⟩, List.mem_of_getElem? (i := 179) (by decide +kernel), List.mem_of_getElem? (i := 665) (by decide +kernel), List.mem_of_getElem? (i := 666) (by decide +kernel)⟩
theorem lw_p39 : lw_okq (⟨"ValueMill$Names", "nameBefore", "(II)I"⟩, 7) := ⟨⟨by decide +kernel, by decide +kernel⟩, List.mem_of_getElem? (i := 179) (by decide +kernel), List.mem_of_getElem? (i := 669) (by decide +kernel), List.mem_of_getElem? (i := 670) (by decide +kernel)⟩
theorem lw_p40 : lw_okq (⟨"ValueMill$Names", "nameOperations", "(I)V"⟩, 7) := ⟨⟨by decide +kernel, by decide +kernel⟩, List.mem_of_getElem? (i := 179) (by decide +kernel), List.mem_of_getElem? (i := 677) (by decide +kernel), List.mem_of_getElem? (i := 678) (by decide +kernel)⟩
theorem lw_p41 : lw_okq (⟨"ValueMill$Stands", "letAllBe", "()V"⟩, 7) := ⟨⟨by decide +kernel, by decide +kernel⟩, List.mem_of_getElem? (i := 215) (by decide +kernel), List.mem_of_getElem? (i := 687) (by decide +kernel), List.mem_of_getElem? (i := 688) (by decide +kernel)⟩
theorem lw_p42 : lw_okq (⟨"ValueMill$Stands", "letBe", "(I)V"⟩, 7) := ⟨⟨by decide +kernel, by decide +kernel⟩, List.mem_of_getElem? (i := 215) (by decide +kernel), List.mem_of_getElem? (i := 691) (by decide +kernel), List.mem_of_getElem? (i := 692) (by decide +kernel)⟩
theorem lw_p43 : lw_okq (⟨"ValueMill$Stands", "settle", "()V"⟩, 7) := ⟨⟨by decide +kernel, by decide +kernel⟩, List.mem_of_getElem? (i := 215) (by decide +kernel), List.mem_of_getElem? (i := 695) (by decide +kernel), List.mem_of_getElem? (i := 696) (by decide +kernel)⟩
theorem lw_p44 : lw_okq (⟨"ValueMill$Stands", "guess", "()V"⟩, 7) := ⟨⟨by decide +kernel, by decide +kernel⟩, List.mem_of_getElem? (i := 215) (by decide +kernel), List.mem_of_getElem? (i := 700) (by decide +kernel), List.mem_of_getElem? (i := 701) (by decide +kernel)⟩
theorem lw_p45 : lw_okq (⟨"ValueMill$Stands", "letBeNumber", "(II)V"⟩, 7) := ⟨⟨by decide +kernel, by decide +kernel⟩, List.mem_of_getElem? (i := 215) (by decide +kernel), List.mem_of_getElem? (i := 704) (by decide +kernel), List.mem_of_getElem? (i := 705) (by decide +kernel)⟩
theorem lw_p46 : lw_okq (⟨"ValueMill$Stands", "guessPhi", "(II)V"⟩, 7) := ⟨⟨by decide +kernel, by decide +kernel⟩, List.mem_of_getElem? (i := 215) (by decide +kernel), List.mem_of_getElem? (i := 709) (by decide +kernel), List.mem_of_getElem? (i := 710) (by decide +kernel)⟩
theorem lw_p47 : lw_okq (⟨"ValueMill$Stands", "firstKnown", "(II)I"⟩, 7) := ⟨⟨by decide +kernel, by decide +kernel⟩, List.mem_of_getElem? (i := 215) (by decide +kernel), List.mem_of_getElem? (i := 713) (by decide +kernel), List.mem_of_getElem? (i := 714) (by decide +kernel)⟩
def lw_privs_3 : List (MethodName × Nat) := [(⟨"ValueMill$Program", "makesValue", "(I)Z"⟩, 11), (⟨"ValueMill$Program", "usedAtEndSet", "(I)I"⟩, 11), (⟨"ValueMill$Program", "endTakesTemp", "(I)Z"⟩, 11), (⟨"ValueMill$Lives", "liveBehind", "(I)I"⟩, 6), (⟨"ValueMill$Lives", "placePhis", "(I)V"⟩, 6), (⟨"ValueMill$Lives", "frontiersOf", "(I)I"⟩, 6), (⟨"ValueMill$Names", "giveNames", "()V"⟩, 7), (⟨"ValueMill$Names", "nameBefore", "(II)I"⟩, 7), (⟨"ValueMill$Names", "nameOperations", "(I)V"⟩, 7), (⟨"ValueMill$Stands", "letAllBe", "()V"⟩, 7), (⟨"ValueMill$Stands", "letBe", "(I)V"⟩, 7), (⟨"ValueMill$Stands", "settle", "()V"⟩, 7), (⟨"ValueMill$Stands", "guess", "()V"⟩, 7), (⟨"ValueMill$Stands", "letBeNumber", "(II)V"⟩, 7), (⟨"ValueMill$Stands", "guessPhi", "(II)V"⟩, 7), (⟨"ValueMill$Stands", "firstKnown", "(II)I"⟩, 7)]
theorem lw_r3 : ∀ q ∈ lw_privs_3, lw_okq q := List.forall_mem_cons.mpr ⟨lw_p32, List.forall_mem_cons.mpr ⟨lw_p33, List.forall_mem_cons.mpr ⟨lw_p34, List.forall_mem_cons.mpr ⟨lw_p35, List.forall_mem_cons.mpr ⟨lw_p36, List.forall_mem_cons.mpr ⟨lw_p37, List.forall_mem_cons.mpr ⟨lw_p38, List.forall_mem_cons.mpr ⟨lw_p39, List.forall_mem_cons.mpr ⟨lw_p40, List.forall_mem_cons.mpr ⟨lw_p41, List.forall_mem_cons.mpr ⟨lw_p42, List.forall_mem_cons.mpr ⟨lw_p43, List.forall_mem_cons.mpr ⟨lw_p44, List.forall_mem_cons.mpr ⟨lw_p45, List.forall_mem_cons.mpr ⟨lw_p46, List.forall_mem_cons.mpr ⟨lw_p47, fun _ h => absurd h List.not_mem_nil⟩⟩⟩⟩⟩⟩⟩⟩⟩⟩⟩⟩⟩⟩⟩⟩
theorem lw_p48 : lw_okq (⟨"ValueMill$Names", "along", "(II)I"⟩, 7) := ⟨⟨by decide +kernel, by decide +kernel⟩, List.mem_of_getElem? (i := 179) (by decide +kernel), List.mem_of_getElem? (i := 717) (by decide +kernel), List.mem_of_getElem? (i := 718) (by decide +kernel)⟩
theorem lw_p49 : lw_okq (⟨"ValueMill$Stands", "takesOtherThan", "(III)Z"⟩, 7) := ⟨⟨by decide +kernel, by decide +kernel⟩, List.mem_of_getElem? (i := 215) (by decide +kernel), List.mem_of_getElem? (i := 721) (by decide +kernel), List.mem_of_getElem? (i := 722) (by decide +kernel)⟩
theorem lw_p50 : lw_okq (⟨"ValueMill$Stands", "differ", "(II)Z"⟩, 7) := ⟨⟨by decide +kernel, by decide +kernel⟩, List.mem_of_getElem? (i := 215) (by decide +kernel), List.mem_of_getElem? (i := 725) (by decide +kernel), List.mem_of_getElem? (i := 726) (by decide +kernel)⟩
theorem lw_p51 : lw_okq (⟨"ValueMill$Stands", "standLike", "(II)V"⟩, 7) := ⟨⟨by decide +kernel, by decide +kernel⟩, List.mem_of_getElem? (i := 215) (by decide +kernel), List.mem_of_getElem? (i := 730) (by decide +kernel), List.mem_of_getElem? (i := 731) (by decide +kernel)⟩
theorem lw_p52 : lw_okq (⟨"ValueMill$Stands", "guessOperation", "(I)V"⟩, 7) := ⟨⟨by decide +kernel, by decide +kernel⟩, List.mem_of_getElem? (i := 215) (by decide +kernel), List.mem_of_getElem? (i := 734) (by decide +kernel), List.mem_of_getElem? (i := 735) (by decide +kernel)⟩
theorem lw_p53 : lw_okq (⟨"ValueMill$Stands", "givesNumber", "(I)Z"⟩, 7) := ⟨⟨by decide +kernel, by decide +kernel⟩, List.mem_of_getElem? (i := 215) (by decide +kernel), List.mem_of_getElem? (i := 739) (by decide +kernel), List.mem_of_getElem? (i := 740) (by decide +kernel)⟩
theorem lw_p54 : lw_okq (⟨"ValueMill$Stands", "isNumber", "(I)Z"⟩, 7) := ⟨⟨by decide +kernel, by decide +kernel⟩, List.mem_of_getElem? (i := 215) (by decide +kernel), List.mem_of_getElem? (i := 743) (by decide +kernel), List.mem_of_getElem? (i := 744) (by decide +kernel)⟩
theorem lw_p55 : lw_okq (⟨"ValueMill$Stands", "findWrongGuesses", "()Z"⟩, 7) := ⟨⟨by decide +kernel, by decide +kernel⟩, List.mem_of_getElem? (i := 215) (by decide +kernel), List.mem_of_getElem? (i := 755) (by decide +kernel), List.mem_of_getElem? (i := 756) (by decide +kernel)⟩
theorem lw_p56 : lw_okq (⟨"ValueMill$Homes", "shareRegisters", "(I)V"⟩, 14) := ⟨⟨by decide +kernel, by decide +kernel⟩, List.mem_of_getElem? (i := 245) (by decide +kernel), List.mem_of_getElem? (i := 759) (by decide +kernel), List.mem_of_getElem? (i := 760) (by decide +kernel)⟩
theorem lw_p57 : lw_okq (⟨"ValueMill$Homes", "findCosts", "()V"⟩, 14) := ⟨⟨by decide +kernel, by decide +kernel⟩, List.mem_of_getElem? (i := 245) (by decide +kernel), List.mem_of_getElem? (i := 763) (by decide +kernel), List.mem_of_getElem? (i := 764) (by decide +kernel)⟩
theorem lw_p58 : lw_okq (⟨"ValueMill$Stands", "keepsOperation", "(I)Z"⟩, 7) := ⟨⟨by decide +kernel, by decide +kernel⟩, List.mem_of_getElem? (i := 215) (by decide +kernel), List.mem_of_getElem? (i := 770) (by decide +kernel), List.mem_of_getElem? (i := 771) (by decide +kernel)⟩
theorem lw_p59 : lw_okq (⟨"ValueMill$Stands", "isItself", "(I)Z"⟩, 7) := ⟨⟨by decide +kernel, by decide +kernel⟩, List.mem_of_getElem? (i := 215) (by decide +kernel), List.mem_of_getElem? (i := 774) (by decide +kernel), List.mem_of_getElem? (i := 775) (by decide +kernel)⟩
theorem lw_p60 : lw_okq (⟨"ValueMill$Homes", "addCost", "(IJ)V"⟩, 14) := ⟨⟨by decide +kernel, by decide +kernel⟩, List.mem_of_getElem? (i := 245) (by decide +kernel), List.mem_of_getElem? (i := 779) (by decide +kernel), List.mem_of_getElem? (i := 780) (by decide +kernel)⟩
theorem lw_p61 : lw_okq (⟨"ValueMill$Homes", "addCostsOfEdges", "(IJ)V"⟩, 14) := ⟨⟨by decide +kernel, by decide +kernel⟩, List.mem_of_getElem? (i := 245) (by decide +kernel), List.mem_of_getElem? (i := 785) (by decide +kernel), List.mem_of_getElem? (i := 786) (by decide +kernel)⟩
theorem lw_p62 : lw_okq (⟨"ValueMill$Stands", "keepsPhi", "(II)Z"⟩, 7) := ⟨⟨by decide +kernel, by decide +kernel⟩, List.mem_of_getElem? (i := 215) (by decide +kernel), List.mem_of_getElem? (i := 791) (by decide +kernel), List.mem_of_getElem? (i := 792) (by decide +kernel)⟩
theorem lw_p63 : lw_okq (⟨"ValueMill$Homes", "giveHomes", "(I)V"⟩, 14) := ⟨⟨by decide +kernel, by decide +kernel⟩, List.mem_of_getElem? (i := 245) (by decide +kernel), List.mem_of_getElem? (i := 797) (by decide +kernel), List.mem_of_getElem? (i := 798) (by decide +kernel)⟩
def lw_privs_4 : List (MethodName × Nat) := [(⟨"ValueMill$Names", "along", "(II)I"⟩, 7), (⟨"ValueMill$Stands", "takesOtherThan", "(III)Z"⟩, 7), (⟨"ValueMill$Stands", "differ", "(II)Z"⟩, 7), (⟨"ValueMill$Stands", "standLike", "(II)V"⟩, 7), (⟨"ValueMill$Stands", "guessOperation", "(I)V"⟩, 7), (⟨"ValueMill$Stands", "givesNumber", "(I)Z"⟩, 7), (⟨"ValueMill$Stands", "isNumber", "(I)Z"⟩, 7), (⟨"ValueMill$Stands", "findWrongGuesses", "()Z"⟩, 7), (⟨"ValueMill$Homes", "shareRegisters", "(I)V"⟩, 14), (⟨"ValueMill$Homes", "findCosts", "()V"⟩, 14), (⟨"ValueMill$Stands", "keepsOperation", "(I)Z"⟩, 7), (⟨"ValueMill$Stands", "isItself", "(I)Z"⟩, 7), (⟨"ValueMill$Homes", "addCost", "(IJ)V"⟩, 14), (⟨"ValueMill$Homes", "addCostsOfEdges", "(IJ)V"⟩, 14), (⟨"ValueMill$Stands", "keepsPhi", "(II)Z"⟩, 7), (⟨"ValueMill$Homes", "giveHomes", "(I)V"⟩, 14)]
theorem lw_r4 : ∀ q ∈ lw_privs_4, lw_okq q := List.forall_mem_cons.mpr ⟨lw_p48, List.forall_mem_cons.mpr ⟨lw_p49, List.forall_mem_cons.mpr ⟨lw_p50, List.forall_mem_cons.mpr ⟨lw_p51, List.forall_mem_cons.mpr ⟨lw_p52, List.forall_mem_cons.mpr ⟨lw_p53, List.forall_mem_cons.mpr ⟨lw_p54, List.forall_mem_cons.mpr ⟨lw_p55, List.forall_mem_cons.mpr ⟨lw_p56, List.forall_mem_cons.mpr ⟨lw_p57, List.forall_mem_cons.mpr ⟨lw_p58, List.forall_mem_cons.mpr ⟨lw_p59, List.forall_mem_cons.mpr ⟨lw_p60, List.forall_mem_cons.mpr ⟨lw_p61, List.forall_mem_cons.mpr ⟨lw_p62, List.forall_mem_cons.mpr ⟨lw_p63, fun _ h => absurd h List.not_mem_nil⟩⟩⟩⟩⟩⟩⟩⟩⟩⟩⟩⟩⟩⟩⟩⟩
theorem lw_p64 : lw_okq (⟨"ValueMill$Homes", "giveHomesToPhis", "(I)V"⟩, 14) := ⟨⟨by decide +kernel, by decide +kernel⟩, List.mem_of_getElem? (i := 245) (by decide +kernel), List.mem_of_getElem? (i := 802) (by decide +kernel), List.mem_of_getElem? (i := 803) (by decide +kernel)⟩
theorem lw_p65 : lw_okq (⟨"ValueMill$Stands", "nameFor", "(I)I"⟩, 7) := ⟨⟨by decide +kernel, by decide +kernel⟩, List.mem_of_getElem? (i := 215) (by decide +kernel), List.mem_of_getElem? (i := 807) (by decide +kernel), List.mem_of_getElem? (i := 808) (by decide +kernel)⟩
theorem lw_p66 : lw_okq (⟨"ValueMill$Homes", "giveHome", "(II)V"⟩, 14) := ⟨⟨by decide +kernel, by decide +kernel⟩, List.mem_of_getElem? (i := 245) (by decide +kernel), List.mem_of_getElem? (i := 811) (by decide +kernel), List.mem_of_getElem? (i := 812) (by decide +kernel)⟩
theorem lw_p67 : lw_okq (⟨"ValueMill$Homes", "findHolders", "(I)V"⟩, 14) := ⟨⟨by decide +kernel, by decide +kernel⟩, List.mem_of_getElem? (i := 245) (by decide +kernel), List.mem_of_getElem? (i := 815) (by decide +kernel), List.mem_of_getElem? (i := 816) (by decide +kernel)⟩
theorem lw_p68 : lw_okq (⟨"ValueMill$Homes", "registerFor", "(I)I"⟩, 14) := ⟨⟨by decide +kernel, by decide +kernel⟩, List.mem_of_getElem? (i := 245) (by decide +kernel), List.mem_of_getElem? (i := 820) (by decide +kernel), List.mem_of_getElem? (i := 821) (by decide +kernel)⟩
theorem lw_p69 : lw_okq (⟨"ValueMill$Homes", "putInSlot", "(I)V"⟩, 14) := ⟨⟨by decide +kernel, by decide +kernel⟩, List.mem_of_getElem? (i := 245) (by decide +kernel), List.mem_of_getElem? (i := 824) (by decide +kernel), List.mem_of_getElem? (i := 825) (by decide +kernel)⟩
theorem lw_p70 : lw_okq (⟨"ValueMill$Homes", "findLiveBehind", "(I)V"⟩, 14) := ⟨⟨by decide +kernel, by decide +kernel⟩, List.mem_of_getElem? (i := 245) (by decide +kernel), List.mem_of_getElem? (i := 828) (by decide +kernel), List.mem_of_getElem? (i := 829) (by decide +kernel)⟩
theorem lw_p71 : lw_okq (⟨"ValueMill$Homes", "giveHomeToMade", "(II)V"⟩, 14) := ⟨⟨by decide +kernel, by decide +kernel⟩, List.mem_of_getElem? (i := 245) (by decide +kernel), List.mem_of_getElem? (i := 836) (by decide +kernel), List.mem_of_getElem? (i := 837) (by decide +kernel)⟩
theorem lw_p72 : lw_okq (⟨"ValueMill$Homes", "giveEachItsOwn", "()V"⟩, 14) := ⟨⟨by decide +kernel, by decide +kernel⟩, List.mem_of_getElem? (i := 245) (by decide +kernel), List.mem_of_getElem? (i := 841) (by decide +kernel), List.mem_of_getElem? (i := 842) (by decide +kernel)⟩
theorem lw_p73 : lw_okq (⟨"ValueMill$Writer", "writeNamed", "()V"⟩, 7) := ⟨⟨by decide +kernel, by decide +kernel⟩, List.mem_of_getElem? (i := 345) (by decide +kernel), List.mem_of_getElem? (i := 845) (by decide +kernel), List.mem_of_getElem? (i := 846) (by decide +kernel)⟩
theorem lw_p74 : lw_okq (⟨"ValueMill$Writer", "writeBlock", "(I)V"⟩, 7) := ⟨⟨by decide +kernel, by decide +kernel⟩, List.mem_of_getElem? (i := 345) (by decide +kernel), List.mem_of_getElem? (i := 849) (by decide +kernel), List.mem_of_getElem? (i := 850) (by decide +kernel)⟩
theorem lw_p75 : lw_okq (⟨"ValueMill$Writer", "writeOperation", "(I)V"⟩, 7) := ⟨⟨by decide +kernel, by decide +kernel⟩, List.mem_of_getElem? (i := 345) (by decide +kernel), List.mem_of_getElem? (i := 854) (by decide +kernel), List.mem_of_getElem? (i := 855) (by decide +kernel)⟩
theorem lw_p76 : lw_okq (⟨"ValueMill$Writer", "bring", "(II)I"⟩, 7) := ⟨⟨by decide +kernel, by decide +kernel⟩, List.mem_of_getElem? (i := 345) (by decide +kernel), List.mem_of_getElem? (i := 859) (by decide +kernel), List.mem_of_getElem? (i := 860) (by decide +kernel)⟩
theorem lw_p77 : lw_okq (⟨"ValueMill$Homes", "isSlot", "(I)Z"⟩, 14) := ⟨⟨by decide +kernel, by decide +kernel⟩, List.mem_of_getElem? (i := 245) (by decide +kernel), List.mem_of_getElem? (i := 863) (by decide +kernel), List.mem_of_getElem? (i := 864) (by decide +kernel)⟩
theorem lw_p78 : lw_okq (⟨"ValueMill$Code", "addMove", "(IIZ)V"⟩, 10) := ⟨⟨by decide +kernel, by decide +kernel⟩, List.mem_of_getElem? (i := 298) (by decide +kernel), List.mem_of_getElem? (i := 867) (by decide +kernel), List.mem_of_getElem? (i := 868) (by decide +kernel)⟩
theorem lw_p79 : lw_okq (⟨"ValueMill$Writer", "writeEnd", "(I)V"⟩, 7) := ⟨⟨by decide +kernel, by decide +kernel⟩, List.mem_of_getElem? (i := 345) (by decide +kernel), List.mem_of_getElem? (i := 874) (by decide +kernel), List.mem_of_getElem? (i := 875) (by decide +kernel)⟩
def lw_privs_5 : List (MethodName × Nat) := [(⟨"ValueMill$Homes", "giveHomesToPhis", "(I)V"⟩, 14), (⟨"ValueMill$Stands", "nameFor", "(I)I"⟩, 7), (⟨"ValueMill$Homes", "giveHome", "(II)V"⟩, 14), (⟨"ValueMill$Homes", "findHolders", "(I)V"⟩, 14), (⟨"ValueMill$Homes", "registerFor", "(I)I"⟩, 14), (⟨"ValueMill$Homes", "putInSlot", "(I)V"⟩, 14), (⟨"ValueMill$Homes", "findLiveBehind", "(I)V"⟩, 14), (⟨"ValueMill$Homes", "giveHomeToMade", "(II)V"⟩, 14), (⟨"ValueMill$Homes", "giveEachItsOwn", "()V"⟩, 14), (⟨"ValueMill$Writer", "writeNamed", "()V"⟩, 7), (⟨"ValueMill$Writer", "writeBlock", "(I)V"⟩, 7), (⟨"ValueMill$Writer", "writeOperation", "(I)V"⟩, 7), (⟨"ValueMill$Writer", "bring", "(II)I"⟩, 7), (⟨"ValueMill$Homes", "isSlot", "(I)Z"⟩, 14), (⟨"ValueMill$Code", "addMove", "(IIZ)V"⟩, 10), (⟨"ValueMill$Writer", "writeEnd", "(I)V"⟩, 7)]
theorem lw_r5 : ∀ q ∈ lw_privs_5, lw_okq q := List.forall_mem_cons.mpr ⟨lw_p64, List.forall_mem_cons.mpr ⟨lw_p65, List.forall_mem_cons.mpr ⟨lw_p66, List.forall_mem_cons.mpr ⟨lw_p67, List.forall_mem_cons.mpr ⟨lw_p68, List.forall_mem_cons.mpr ⟨lw_p69, List.forall_mem_cons.mpr ⟨lw_p70, List.forall_mem_cons.mpr ⟨lw_p71, List.forall_mem_cons.mpr ⟨lw_p72, List.forall_mem_cons.mpr ⟨lw_p73, List.forall_mem_cons.mpr ⟨lw_p74, List.forall_mem_cons.mpr ⟨lw_p75, List.forall_mem_cons.mpr ⟨lw_p76, List.forall_mem_cons.mpr ⟨lw_p77, List.forall_mem_cons.mpr ⟨lw_p78, List.forall_mem_cons.mpr ⟨lw_p79, fun _ h => absurd h List.not_mem_nil⟩⟩⟩⟩⟩⟩⟩⟩⟩⟩⟩⟩⟩⟩⟩⟩
theorem lw_p80 : lw_okq (⟨"ValueMill$Writer", "writeRoad", "(II)V"⟩, 7) := ⟨⟨by decide +kernel, by decide +kernel⟩, List.mem_of_getElem? (i := 345) (by decide +kernel), List.mem_of_getElem? (i := 880) (by decide +kernel), List.mem_of_getElem? (i := 881) (by decide +kernel)⟩
theorem lw_p81 : lw_okq (⟨"ValueMill$Writer", "addMove", "(III)V"⟩, 7) := ⟨⟨by decide +kernel, by decide +kernel⟩, List.mem_of_getElem? (i := 345) (by decide +kernel), List.mem_of_getElem? (i := 886) (by decide +kernel), List.mem_of_getElem? (i := 887) (by decide +kernel)⟩
theorem lw_p82 : lw_okq (⟨"ValueMill$Moves", "add", "(IIZ)V"⟩, 6) := ⟨⟨by decide +kernel, by decide +kernel⟩, List.mem_of_getElem? (i := 351) (by decide +kernel), List.mem_of_getElem? (i := 892) (by decide +kernel), List.mem_of_getElem? (i := 893) (by decide +kernel)⟩
theorem lw_p83 : lw_okq (⟨"ValueMill$Moves", "write", "()V"⟩, 6) := ⟨⟨by decide +kernel, by decide +kernel⟩, List.mem_of_getElem? (i := 351) (by decide +kernel), List.mem_of_getElem? (i := 899) (by decide +kernel), List.mem_of_getElem? (i := 900) (by decide +kernel)⟩
theorem lw_p84 : lw_okq (⟨"ValueMill$Moves", "firstReady", "()I"⟩, 6) := ⟨⟨by decide +kernel, by decide +kernel⟩, List.mem_of_getElem? (i := 351) (by decide +kernel), List.mem_of_getElem? (i := 903) (by decide +kernel), List.mem_of_getElem? (i := 904) (by decide +kernel)⟩
theorem lw_p85 : lw_okq (⟨"ValueMill$Moves", "isStillRead", "(I)Z"⟩, 6) := ⟨⟨by decide +kernel, by decide +kernel⟩, List.mem_of_getElem? (i := 351) (by decide +kernel), List.mem_of_getElem? (i := 907) (by decide +kernel), List.mem_of_getElem? (i := 908) (by decide +kernel)⟩
theorem lw_p86 : lw_okq (⟨"ValueMill$Moves", "writeMove", "(IIZ)V"⟩, 6) := ⟨⟨by decide +kernel, by decide +kernel⟩, List.mem_of_getElem? (i := 351) (by decide +kernel), List.mem_of_getElem? (i := 911) (by decide +kernel), List.mem_of_getElem? (i := 912) (by decide +kernel)⟩
theorem lw_p87 : lw_okq (⟨"ValueMill$Moves", "readFromSpare", "(I)V"⟩, 6) := ⟨⟨by decide +kernel, by decide +kernel⟩, List.mem_of_getElem? (i := 351) (by decide +kernel), List.mem_of_getElem? (i := 917) (by decide +kernel), List.mem_of_getElem? (i := 918) (by decide +kernel)⟩
theorem lw_p88 : lw_okq (⟨"ValueMill$Moves", "takeOut", "(I)V"⟩, 6) := ⟨⟨by decide +kernel, by decide +kernel⟩, List.mem_of_getElem? (i := 351) (by decide +kernel), List.mem_of_getElem? (i := 921) (by decide +kernel), List.mem_of_getElem? (i := 922) (by decide +kernel)⟩
theorem lw_p89 : lw_okq (⟨"ValueMill$Machine", "follow", "(LValueMill$Code;LValueMill$Program;I)I"⟩, 6) := ⟨⟨by decide +kernel, by decide +kernel⟩, List.mem_of_getElem? (i := 398) (by decide +kernel), List.mem_of_getElem? (i := 925) (by decide +kernel), List.mem_of_getElem? (i := 926) (by decide +kernel)⟩
theorem lw_p90 : lw_okq (⟨"ValueMill$Machine", "begin", "([I)V"⟩, 6) := ⟨⟨by decide +kernel, by decide +kernel⟩, List.mem_of_getElem? (i := 398) (by decide +kernel), List.mem_of_getElem? (i := 929) (by decide +kernel), List.mem_of_getElem? (i := 930) (by decide +kernel)⟩
theorem lw_p91 : lw_okq (⟨"ValueMill$Machine", "perform", "(LValueMill$Code;I)I"⟩, 6) := ⟨⟨by decide +kernel, by decide +kernel⟩, List.mem_of_getElem? (i := 398) (by decide +kernel), List.mem_of_getElem? (i := 937) (by decide +kernel), List.mem_of_getElem? (i := 938) (by decide +kernel)⟩
theorem lw_p92 : lw_okq (⟨"ValueMill$Machine", "performOne", "(LValueMill$Code;I)I"⟩, 6) := ⟨⟨by decide +kernel, by decide +kernel⟩, List.mem_of_getElem? (i := 398) (by decide +kernel), List.mem_of_getElem? (i := 941) (by decide +kernel), List.mem_of_getElem? (i := 942) (by decide +kernel)⟩
theorem lw_p93 : lw_okq (⟨"ValueMill$Machine", "callOut", "(II)I"⟩, 6) := ⟨⟨by decide +kernel, by decide +kernel⟩, List.mem_of_getElem? (i := 398) (by decide +kernel), List.mem_of_getElem? (i := 947) (by decide +kernel), List.mem_of_getElem? (i := 948) (by decide +kernel)⟩
theorem lw_p94 : lw_okq (⟨"ValueMill$Machine", "told", "(II)I"⟩, 6) := ⟨⟨by decide +kernel, by decide +kernel⟩, List.mem_of_getElem? (i := 398) (by decide +kernel), List.mem_of_getElem? (i := 974) (by decide +kernel), List.mem_of_getElem? (i := 975) (by decide +kernel)⟩
theorem lw_p95 : lw_okq (⟨"ValueMill$Flow", "isAlive", "(I)Z"⟩, 11) := ⟨⟨by decide +kernel, by decide +kernel⟩, List.mem_of_getElem? (i := 91) (by decide +kernel), List.mem_of_getElem? (i := 986) (by decide +kernel), List.mem_of_getElem? (i := 987) (by decide +kernel)⟩
def lw_privs_6 : List (MethodName × Nat) := [(⟨"ValueMill$Writer", "writeRoad", "(II)V"⟩, 7), (⟨"ValueMill$Writer", "addMove", "(III)V"⟩, 7), (⟨"ValueMill$Moves", "add", "(IIZ)V"⟩, 6), (⟨"ValueMill$Moves", "write", "()V"⟩, 6), (⟨"ValueMill$Moves", "firstReady", "()I"⟩, 6), (⟨"ValueMill$Moves", "isStillRead", "(I)Z"⟩, 6), (⟨"ValueMill$Moves", "writeMove", "(IIZ)V"⟩, 6), (⟨"ValueMill$Moves", "readFromSpare", "(I)V"⟩, 6), (⟨"ValueMill$Moves", "takeOut", "(I)V"⟩, 6), (⟨"ValueMill$Machine", "follow", "(LValueMill$Code;LValueMill$Program;I)I"⟩, 6), (⟨"ValueMill$Machine", "begin", "([I)V"⟩, 6), (⟨"ValueMill$Machine", "perform", "(LValueMill$Code;I)I"⟩, 6), (⟨"ValueMill$Machine", "performOne", "(LValueMill$Code;I)I"⟩, 6), (⟨"ValueMill$Machine", "callOut", "(II)I"⟩, 6), (⟨"ValueMill$Machine", "told", "(II)I"⟩, 6), (⟨"ValueMill$Flow", "isAlive", "(I)Z"⟩, 11)]
theorem lw_r6 : ∀ q ∈ lw_privs_6, lw_okq q := List.forall_mem_cons.mpr ⟨lw_p80, List.forall_mem_cons.mpr ⟨lw_p81, List.forall_mem_cons.mpr ⟨lw_p82, List.forall_mem_cons.mpr ⟨lw_p83, List.forall_mem_cons.mpr ⟨lw_p84, List.forall_mem_cons.mpr ⟨lw_p85, List.forall_mem_cons.mpr ⟨lw_p86, List.forall_mem_cons.mpr ⟨lw_p87, List.forall_mem_cons.mpr ⟨lw_p88, List.forall_mem_cons.mpr ⟨lw_p89, List.forall_mem_cons.mpr ⟨lw_p90, List.forall_mem_cons.mpr ⟨lw_p91, List.forall_mem_cons.mpr ⟨lw_p92, List.forall_mem_cons.mpr ⟨lw_p93, List.forall_mem_cons.mpr ⟨lw_p94, List.forall_mem_cons.mpr ⟨lw_p95, fun _ h => absurd h List.not_mem_nil⟩⟩⟩⟩⟩⟩⟩⟩⟩⟩⟩⟩⟩⟩⟩⟩
theorem lw_p96 : lw_okq (⟨"ValueMillModel", "isBlock", "(I)Z"⟩, 18) := ⟨⟨by decide +kernel, by decide +kernel⟩, List.mem_of_getElem? (i := 1008) (by decide +kernel), List.mem_of_getElem? (i := 1077) (by decide +kernel), List.mem_of_getElem? (i := 1078) (by decide +kernel)⟩
theorem lw_p97 : lw_okq (⟨"ValueMillModel", "step", "(I)I"⟩, 18) := ⟨⟨by decide +kernel, by decide +kernel⟩, List.mem_of_getElem? (i := 1008) (by decide +kernel), List.mem_of_getElem? (i := 1107) (by decide +kernel), List.mem_of_getElem? (i := 1108) (by decide +kernel)⟩
theorem lw_p98 : lw_okq (⟨"ValueMillModel", "call", "(III)V"⟩, 18) := ⟨⟨by decide +kernel, by decide +kernel⟩, List.mem_of_getElem? (i := 1008) (by decide +kernel), List.mem_of_getElem? (i := 1122) (by decide +kernel), List.mem_of_getElem? (i := 1123) (by decide +kernel)⟩
theorem lw_p99 : lw_okq (⟨"ValueMillModel", "note", "()I"⟩, 18) := ⟨⟨by decide +kernel, by decide +kernel⟩, List.mem_of_getElem? (i := 1008) (by decide +kernel), List.mem_of_getElem? (i := 1150) (by decide +kernel), List.mem_of_getElem? (i := 1151) (by decide +kernel)⟩
theorem lw_p100 : lw_okq (⟨"ValueMillModel", "dominates", "(II)Z"⟩, 18) := ⟨⟨by decide +kernel, by decide +kernel⟩, List.mem_of_getElem? (i := 1008) (by decide +kernel), List.mem_of_getElem? (i := 1158) (by decide +kernel), List.mem_of_getElem? (i := 1159) (by decide +kernel)⟩
theorem lw_p101 : lw_okq (⟨"ValueMillModel", "isAlive", "(I)Z"⟩, 18) := ⟨⟨by decide +kernel, by decide +kernel⟩, List.mem_of_getElem? (i := 1008) (by decide +kernel), List.mem_of_getElem? (i := 1162) (by decide +kernel), List.mem_of_getElem? (i := 1163) (by decide +kernel)⟩
theorem lw_p102 : lw_okq (⟨"ValueMillModel", "reach", "(II)I"⟩, 18) := ⟨⟨by decide +kernel, by decide +kernel⟩, List.mem_of_getElem? (i := 1008) (by decide +kernel), List.mem_of_getElem? (i := 1166) (by decide +kernel), List.mem_of_getElem? (i := 1167) (by decide +kernel)⟩
theorem lw_p103 : lw_okq (⟨"ValueMillModel", "hasEdge", "(II)Z"⟩, 18) := ⟨⟨by decide +kernel, by decide +kernel⟩, List.mem_of_getElem? (i := 1008) (by decide +kernel), List.mem_of_getElem? (i := 1170) (by decide +kernel), List.mem_of_getElem? (i := 1171) (by decide +kernel)⟩
theorem lw_p104 : lw_okq (⟨"ValueMillModel", "fate", "(II)I"⟩, 18) := ⟨⟨by decide +kernel, by decide +kernel⟩, List.mem_of_getElem? (i := 1008) (by decide +kernel), List.mem_of_getElem? (i := 1182) (by decide +kernel), List.mem_of_getElem? (i := 1183) (by decide +kernel)⟩
theorem lw_p105 : lw_okq (⟨"ValueMillModel", "isSet", "(II)Z"⟩, 18) := ⟨⟨by decide +kernel, by decide +kernel⟩, List.mem_of_getElem? (i := 1008) (by decide +kernel), List.mem_of_getElem? (i := 1194) (by decide +kernel), List.mem_of_getElem? (i := 1195) (by decide +kernel)⟩
theorem lw_p106 : lw_okq (⟨"ValueMillModel", "isInLoop", "(II)Z"⟩, 18) := ⟨⟨by decide +kernel, by decide +kernel⟩, List.mem_of_getElem? (i := 1008) (by decide +kernel), List.mem_of_getElem? (i := 1203) (by decide +kernel), List.mem_of_getElem? (i := 1204) (by decide +kernel)⟩
def lw_privs_7 : List (MethodName × Nat) := [(⟨"ValueMillModel", "isBlock", "(I)Z"⟩, 18), (⟨"ValueMillModel", "step", "(I)I"⟩, 18), (⟨"ValueMillModel", "call", "(III)V"⟩, 18), (⟨"ValueMillModel", "note", "()I"⟩, 18), (⟨"ValueMillModel", "dominates", "(II)Z"⟩, 18), (⟨"ValueMillModel", "isAlive", "(I)Z"⟩, 18), (⟨"ValueMillModel", "reach", "(II)I"⟩, 18), (⟨"ValueMillModel", "hasEdge", "(II)Z"⟩, 18), (⟨"ValueMillModel", "fate", "(II)I"⟩, 18), (⟨"ValueMillModel", "isSet", "(II)Z"⟩, 18), (⟨"ValueMillModel", "isInLoop", "(II)Z"⟩, 18)]
theorem lw_r7 : ∀ q ∈ lw_privs_7, lw_okq q := List.forall_mem_cons.mpr ⟨lw_p96, List.forall_mem_cons.mpr ⟨lw_p97, List.forall_mem_cons.mpr ⟨lw_p98, List.forall_mem_cons.mpr ⟨lw_p99, List.forall_mem_cons.mpr ⟨lw_p100, List.forall_mem_cons.mpr ⟨lw_p101, List.forall_mem_cons.mpr ⟨lw_p102, List.forall_mem_cons.mpr ⟨lw_p103, List.forall_mem_cons.mpr ⟨lw_p104, List.forall_mem_cons.mpr ⟨lw_p105, List.forall_mem_cons.mpr ⟨lw_p106, fun _ h => absurd h List.not_mem_nil⟩⟩⟩⟩⟩⟩⟩⟩⟩⟩⟩
def lw_privs : List (MethodName × Nat) := lw_privs_1 ++ (lw_privs_2 ++ (lw_privs_3 ++ (lw_privs_4 ++ (lw_privs_5 ++ (lw_privs_6 ++ (lw_privs_7))))))
def lw_tbl : List Cond := k2_sels lw_privs ++ tables_1
theorem lw_privs_ok : ∀ q ∈ lw_privs, lw_okq q := by
  show ∀ q ∈ lw_privs_1 ++ (lw_privs_2 ++ (lw_privs_3 ++ (lw_privs_4 ++ (lw_privs_5 ++ (lw_privs_6 ++ (lw_privs_7)))))), lw_okq q
  exact List.forall_mem_append.mpr ⟨lw_r1, List.forall_mem_append.mpr ⟨lw_r2, List.forall_mem_append.mpr ⟨lw_r3, List.forall_mem_append.mpr ⟨lw_r4, List.forall_mem_append.mpr ⟨lw_r5, List.forall_mem_append.mpr ⟨lw_r6, lw_r7⟩⟩⟩⟩⟩⟩
end
section
/-! BEGIN the world of the class and of the reference: 73 cells; printed by wip/gen/world.py out of javap. Objects 0..11, arrays from 12 on; scalars are rows 1000.. of the picture -/
-- object 0: ValueMill
-- object 1: ValueMill$Program
-- object 2: ValueMill$Flow
-- object 3: ValueMill$Lives
-- object 4: ValueMill$Names
-- object 5: ValueMill$Stands
-- object 6: ValueMill$Homes
-- object 7: ValueMill$Code
-- object 8: ValueMill$Moves
-- object 9: ValueMill$Writer
-- object 10: ValueMill$Machine
-- object 11: ValueMillModel
-- array 12: ValueMill$Program.kind, 120 int
-- array 13: ValueMill$Program.d, 120 int
-- array 14: ValueMill$Program.a, 120 int
-- array 15: ValueMill$Program.b, 120 int
-- array 16: ValueMill$Program.length, 10 int
-- array 17: ValueMill$Program.end, 10 int
-- array 18: ValueMill$Program.endTemp, 10 int
-- array 19: ValueMill$Program.first, 10 int
-- array 20: ValueMill$Program.second, 10 int
-- array 21: ValueMill$Program.told, 32 int
-- array 22: ValueMill$Flow.next, 10 int
-- array 23: ValueMill$Flow.previous, 10 int
-- array 24: ValueMill$Flow.order, 10 int
-- array 25: ValueMill$Flow.dominators, 10 int
-- array 26: ValueMill$Flow.nearest, 10 int
-- array 27: ValueMill$Flow.frontier, 10 int
-- array 28: ValueMill$Flow.depth, 10 int
-- array 29: ValueMill$Lives.reads, 10 int
-- array 30: ValueMill$Lives.writes, 10 int
-- array 31: ValueMill$Lives.live, 10 int
-- array 32: ValueMill$Lives.phis, 10 int
-- array 33: ValueMill$Names.a, 120 int
-- array 34: ValueMill$Names.b, 120 int
-- array 35: ValueMill$Names.end, 10 int
-- array 36: ValueMill$Names.behind, 100 int
-- array 37: ValueMill$Stands.how, 221 int
-- array 38: ValueMill$Stands.what, 221 int
-- array 39: ValueMill$Stands.phisOfTheirOwn, 10 int
-- array 40: ValueMill$Homes.home, 221 int
-- array 41: ValueMill$Homes.cost, 221 long
-- array 42: ValueMill$Homes.current, 10 int
-- array 43: ValueMill$Homes.holder, 8 int
-- array 44: ValueMill$Homes.liveBehind, 12 int
-- array 45: ValueMill$Code.from, 30 int
-- array 46: ValueMill$Code.to, 30 int
-- array 47: ValueMill$Code.kind, 1090 int
-- array 48: ValueMill$Code.d, 1090 int
-- array 49: ValueMill$Code.a, 1090 int
-- array 50: ValueMill$Code.b, 1090 int
-- array 51: ValueMill$Code.form, 1090 int
-- array 52: ValueMill$Code.end, 10 int
-- array 53: ValueMill$Code.endIsNumber, 10 boolean
-- array 54: ValueMill$Moves.target, 10 int
-- array 55: ValueMill$Moves.source, 10 int
-- array 56: ValueMill$Moves.isNumber, 10 boolean
-- array 57: ValueMill$Machine.cells, 230 int
-- array 58: ValueMill$Machine.words, 32 int
-- array 59: ValueMill$Machine.log, 600 int
-- array 60: ValueMillModel.counts, 10 int
-- array 61: ValueMillModel.ops, 480 int
-- array 62: ValueMillModel.endKind, 10 int
-- array 63: ValueMillModel.endTemp, 10 int
-- array 64: ValueMillModel.first, 10 int
-- array 65: ValueMillModel.second, 10 int
-- array 66: ValueMillModel.told, 32 int
-- array 67: ValueMillModel.words, 32 int
-- array 68: ValueMillModel.temps, 10 int
-- array 69: ValueMillModel.callRows, 600 int
-- array 70: ValueMillModel.noted, 10 int
-- array 71: ValueMillModel.stack, 10 int
-- array 72: ValueMillModel.gone, 10 int
-- scalar 1000: ValueMill.looked, boolean
-- scalar 1001: ValueMill.madeStage, int
-- scalar 1002: ValueMill.madeRegisters, int
-- scalar 1003: ValueMill$Program.blocks, int
-- scalar 1004: ValueMill$Flow.alive, int
-- scalar 1005: ValueMill$Flow.gone, int
-- scalar 1006: ValueMill$Flow.count, int
-- scalar 1007: ValueMill$Homes.firstSlot, int
-- scalar 1008: ValueMill$Homes.scratch, int
-- scalar 1009: ValueMill$Homes.shared, int
-- scalar 1010: ValueMill$Homes.usesSlots, boolean
-- scalar 1011: ValueMill$Code.length, int
-- scalar 1012: ValueMill$Moves.count, int
-- scalar 1013: ValueMill$Machine.returned, int
-- scalar 1014: ValueMill$Machine.blocksEntered, int
-- scalar 1015: ValueMill$Machine.callsMade, int
-- scalar 1016: ValueMillModel.blocks, int
-- scalar 1017: ValueMillModel.hasRun, boolean
-- scalar 1018: ValueMillModel.value, int
-- scalar 1019: ValueMillModel.entered, int
-- scalar 1020: ValueMillModel.calls, int
abbrev mz_St : Type := Nat → Nat → Int32
def mz_up (σ : mz_St) (a i : Nat) (v : Int32) : mz_St := fun b => if b = a then upd (σ a) i v else σ b
def mz_rd (σ : mz_St) (a : Nat) (i : Int32) : Int32 := σ a i.toNatClampNeg
def mz_wr (σ : mz_St) (a : Nat) (i v : Int32) : mz_St := mz_up σ a i.toNatClampNeg v
/-- what is fixed: class numbers and slots, addresses, the classes of int[], long[], boolean[] -/
abbrev mz_En : Type := va_G × (Nat → Nat) × ClassId × ClassId × ClassId
def mz_RMill : String := "ValueMill"
def mz_TMill : u_T := fun k => match k with
  | 0 => ("ValueMill", "program", "LValueMill$Program;", true)
  | 1 => ("ValueMill", "flow", "LValueMill$Flow;", true)
  | 2 => ("ValueMill", "lives", "LValueMill$Lives;", true)
  | 3 => ("ValueMill", "names", "LValueMill$Names;", true)
  | 4 => ("ValueMill", "stands", "LValueMill$Stands;", true)
  | 5 => ("ValueMill", "homes", "LValueMill$Homes;", true)
  | 6 => ("ValueMill", "code", "LValueMill$Code;", true)
  | 7 => ("ValueMill", "writer", "LValueMill$Writer;", true)
  | 8 => ("ValueMill", "machine", "LValueMill$Machine;", true)
  | 9 => ("ValueMill", "looked", "Z", false)
  | 10 => ("ValueMill", "madeStage", "I", false)
  | _ => ("ValueMill", "madeRegisters", "I", false)
def mz_yMill : Nat → FieldType := fun k => match k with
  | 0 => .object "ValueMill$Program"
  | 1 => .object "ValueMill$Flow"
  | 2 => .object "ValueMill$Lives"
  | 3 => .object "ValueMill$Names"
  | 4 => .object "ValueMill$Stands"
  | 5 => .object "ValueMill$Homes"
  | 6 => .object "ValueMill$Code"
  | 7 => .object "ValueMill$Writer"
  | 8 => .object "ValueMill$Machine"
  | 9 => .boolean
  | 10 => .int
  | _ => .int
theorem mz_nMill : ∀ a, a < 12 → ∀ b, b < 12 → a ≠ b → (mz_TMill a).2.1 ≠ (mz_TMill b).2.1 := by decide +kernel
theorem mz_kMill : ∀ k, k < 12 → parseFieldDescriptor (mz_TMill k).2.2.1 = some (mz_yMill k) := by decide +kernel
def mz_RProgram : String := "ValueMill$Program"
def mz_TProgram : u_T := fun k => match k with
  | 0 => ("ValueMill$Program", "kind", "[I", true)
  | 1 => ("ValueMill$Program", "d", "[I", true)
  | 2 => ("ValueMill$Program", "a", "[I", true)
  | 3 => ("ValueMill$Program", "b", "[I", true)
  | 4 => ("ValueMill$Program", "length", "[I", true)
  | 5 => ("ValueMill$Program", "end", "[I", true)
  | 6 => ("ValueMill$Program", "endTemp", "[I", true)
  | 7 => ("ValueMill$Program", "first", "[I", true)
  | 8 => ("ValueMill$Program", "second", "[I", true)
  | 9 => ("ValueMill$Program", "told", "[I", true)
  | _ => ("ValueMill$Program", "blocks", "I", false)
def mz_yProgram : Nat → FieldType := fun k => match k with
  | 0 => .array .int
  | 1 => .array .int
  | 2 => .array .int
  | 3 => .array .int
  | 4 => .array .int
  | 5 => .array .int
  | 6 => .array .int
  | 7 => .array .int
  | 8 => .array .int
  | 9 => .array .int
  | _ => .int
theorem mz_nProgram : ∀ a, a < 11 → ∀ b, b < 11 → a ≠ b → (mz_TProgram a).2.1 ≠ (mz_TProgram b).2.1 := by decide +kernel
theorem mz_kProgram : ∀ k, k < 11 → parseFieldDescriptor (mz_TProgram k).2.2.1 = some (mz_yProgram k) := by decide +kernel
def mz_RFlow : String := "ValueMill$Flow"
def mz_TFlow : u_T := fun k => match k with
  | 0 => ("ValueMill$Flow", "program", "LValueMill$Program;", true)
  | 1 => ("ValueMill$Flow", "next", "[I", true)
  | 2 => ("ValueMill$Flow", "previous", "[I", true)
  | 3 => ("ValueMill$Flow", "order", "[I", true)
  | 4 => ("ValueMill$Flow", "dominators", "[I", true)
  | 5 => ("ValueMill$Flow", "nearest", "[I", true)
  | 6 => ("ValueMill$Flow", "frontier", "[I", true)
  | 7 => ("ValueMill$Flow", "depth", "[I", true)
  | 8 => ("ValueMill$Flow", "alive", "I", false)
  | 9 => ("ValueMill$Flow", "gone", "I", false)
  | _ => ("ValueMill$Flow", "count", "I", false)
def mz_yFlow : Nat → FieldType := fun k => match k with
  | 0 => .object "ValueMill$Program"
  | 1 => .array .int
  | 2 => .array .int
  | 3 => .array .int
  | 4 => .array .int
  | 5 => .array .int
  | 6 => .array .int
  | 7 => .array .int
  | 8 => .int
  | 9 => .int
  | _ => .int
theorem mz_nFlow : ∀ a, a < 11 → ∀ b, b < 11 → a ≠ b → (mz_TFlow a).2.1 ≠ (mz_TFlow b).2.1 := by decide +kernel
theorem mz_kFlow : ∀ k, k < 11 → parseFieldDescriptor (mz_TFlow k).2.2.1 = some (mz_yFlow k) := by decide +kernel
def mz_RLives : String := "ValueMill$Lives"
def mz_TLives : u_T := fun k => match k with
  | 0 => ("ValueMill$Lives", "program", "LValueMill$Program;", true)
  | 1 => ("ValueMill$Lives", "flow", "LValueMill$Flow;", true)
  | 2 => ("ValueMill$Lives", "reads", "[I", true)
  | 3 => ("ValueMill$Lives", "writes", "[I", true)
  | 4 => ("ValueMill$Lives", "live", "[I", true)
  | _ => ("ValueMill$Lives", "phis", "[I", true)
def mz_yLives : Nat → FieldType := fun k => match k with
  | 0 => .object "ValueMill$Program"
  | 1 => .object "ValueMill$Flow"
  | 2 => .array .int
  | 3 => .array .int
  | 4 => .array .int
  | _ => .array .int
theorem mz_nLives : ∀ a, a < 6 → ∀ b, b < 6 → a ≠ b → (mz_TLives a).2.1 ≠ (mz_TLives b).2.1 := by decide +kernel
theorem mz_kLives : ∀ k, k < 6 → parseFieldDescriptor (mz_TLives k).2.2.1 = some (mz_yLives k) := by decide +kernel
def mz_RNames : String := "ValueMill$Names"
def mz_TNames : u_T := fun k => match k with
  | 0 => ("ValueMill$Names", "program", "LValueMill$Program;", true)
  | 1 => ("ValueMill$Names", "flow", "LValueMill$Flow;", true)
  | 2 => ("ValueMill$Names", "lives", "LValueMill$Lives;", true)
  | 3 => ("ValueMill$Names", "a", "[I", true)
  | 4 => ("ValueMill$Names", "b", "[I", true)
  | 5 => ("ValueMill$Names", "end", "[I", true)
  | _ => ("ValueMill$Names", "behind", "[I", true)
def mz_yNames : Nat → FieldType := fun k => match k with
  | 0 => .object "ValueMill$Program"
  | 1 => .object "ValueMill$Flow"
  | 2 => .object "ValueMill$Lives"
  | 3 => .array .int
  | 4 => .array .int
  | 5 => .array .int
  | _ => .array .int
theorem mz_nNames : ∀ a, a < 7 → ∀ b, b < 7 → a ≠ b → (mz_TNames a).2.1 ≠ (mz_TNames b).2.1 := by decide +kernel
theorem mz_kNames : ∀ k, k < 7 → parseFieldDescriptor (mz_TNames k).2.2.1 = some (mz_yNames k) := by decide +kernel
def mz_RStands : String := "ValueMill$Stands"
def mz_TStands : u_T := fun k => match k with
  | 0 => ("ValueMill$Stands", "program", "LValueMill$Program;", true)
  | 1 => ("ValueMill$Stands", "flow", "LValueMill$Flow;", true)
  | 2 => ("ValueMill$Stands", "lives", "LValueMill$Lives;", true)
  | 3 => ("ValueMill$Stands", "names", "LValueMill$Names;", true)
  | 4 => ("ValueMill$Stands", "how", "[I", true)
  | 5 => ("ValueMill$Stands", "what", "[I", true)
  | _ => ("ValueMill$Stands", "phisOfTheirOwn", "[I", true)
def mz_yStands : Nat → FieldType := fun k => match k with
  | 0 => .object "ValueMill$Program"
  | 1 => .object "ValueMill$Flow"
  | 2 => .object "ValueMill$Lives"
  | 3 => .object "ValueMill$Names"
  | 4 => .array .int
  | 5 => .array .int
  | _ => .array .int
theorem mz_nStands : ∀ a, a < 7 → ∀ b, b < 7 → a ≠ b → (mz_TStands a).2.1 ≠ (mz_TStands b).2.1 := by decide +kernel
theorem mz_kStands : ∀ k, k < 7 → parseFieldDescriptor (mz_TStands k).2.2.1 = some (mz_yStands k) := by decide +kernel
def mz_RHomes : String := "ValueMill$Homes"
def mz_THomes : u_T := fun k => match k with
  | 0 => ("ValueMill$Homes", "program", "LValueMill$Program;", true)
  | 1 => ("ValueMill$Homes", "flow", "LValueMill$Flow;", true)
  | 2 => ("ValueMill$Homes", "lives", "LValueMill$Lives;", true)
  | 3 => ("ValueMill$Homes", "names", "LValueMill$Names;", true)
  | 4 => ("ValueMill$Homes", "stands", "LValueMill$Stands;", true)
  | 5 => ("ValueMill$Homes", "home", "[I", true)
  | 6 => ("ValueMill$Homes", "cost", "[J", true)
  | 7 => ("ValueMill$Homes", "current", "[I", true)
  | 8 => ("ValueMill$Homes", "holder", "[I", true)
  | 9 => ("ValueMill$Homes", "liveBehind", "[I", true)
  | 10 => ("ValueMill$Homes", "firstSlot", "I", false)
  | 11 => ("ValueMill$Homes", "scratch", "I", false)
  | 12 => ("ValueMill$Homes", "shared", "I", false)
  | _ => ("ValueMill$Homes", "usesSlots", "Z", false)
def mz_yHomes : Nat → FieldType := fun k => match k with
  | 0 => .object "ValueMill$Program"
  | 1 => .object "ValueMill$Flow"
  | 2 => .object "ValueMill$Lives"
  | 3 => .object "ValueMill$Names"
  | 4 => .object "ValueMill$Stands"
  | 5 => .array .int
  | 6 => .array .long
  | 7 => .array .int
  | 8 => .array .int
  | 9 => .array .int
  | 10 => .int
  | 11 => .int
  | 12 => .int
  | _ => .boolean
theorem mz_nHomes : ∀ a, a < 14 → ∀ b, b < 14 → a ≠ b → (mz_THomes a).2.1 ≠ (mz_THomes b).2.1 := by decide +kernel
theorem mz_kHomes : ∀ k, k < 14 → parseFieldDescriptor (mz_THomes k).2.2.1 = some (mz_yHomes k) := by decide +kernel
def mz_RCode : String := "ValueMill$Code"
def mz_TCode : u_T := fun k => match k with
  | 0 => ("ValueMill$Code", "from", "[I", true)
  | 1 => ("ValueMill$Code", "to", "[I", true)
  | 2 => ("ValueMill$Code", "kind", "[I", true)
  | 3 => ("ValueMill$Code", "d", "[I", true)
  | 4 => ("ValueMill$Code", "a", "[I", true)
  | 5 => ("ValueMill$Code", "b", "[I", true)
  | 6 => ("ValueMill$Code", "form", "[I", true)
  | 7 => ("ValueMill$Code", "end", "[I", true)
  | 8 => ("ValueMill$Code", "endIsNumber", "[Z", true)
  | _ => ("ValueMill$Code", "length", "I", false)
def mz_yCode : Nat → FieldType := fun k => match k with
  | 0 => .array .int
  | 1 => .array .int
  | 2 => .array .int
  | 3 => .array .int
  | 4 => .array .int
  | 5 => .array .int
  | 6 => .array .int
  | 7 => .array .int
  | 8 => .array .boolean
  | _ => .int
theorem mz_nCode : ∀ a, a < 10 → ∀ b, b < 10 → a ≠ b → (mz_TCode a).2.1 ≠ (mz_TCode b).2.1 := by decide +kernel
theorem mz_kCode : ∀ k, k < 10 → parseFieldDescriptor (mz_TCode k).2.2.1 = some (mz_yCode k) := by decide +kernel
def mz_RMoves : String := "ValueMill$Moves"
def mz_TMoves : u_T := fun k => match k with
  | 0 => ("ValueMill$Moves", "homes", "LValueMill$Homes;", true)
  | 1 => ("ValueMill$Moves", "code", "LValueMill$Code;", true)
  | 2 => ("ValueMill$Moves", "target", "[I", true)
  | 3 => ("ValueMill$Moves", "source", "[I", true)
  | 4 => ("ValueMill$Moves", "isNumber", "[Z", true)
  | _ => ("ValueMill$Moves", "count", "I", false)
def mz_yMoves : Nat → FieldType := fun k => match k with
  | 0 => .object "ValueMill$Homes"
  | 1 => .object "ValueMill$Code"
  | 2 => .array .int
  | 3 => .array .int
  | 4 => .array .boolean
  | _ => .int
theorem mz_nMoves : ∀ a, a < 6 → ∀ b, b < 6 → a ≠ b → (mz_TMoves a).2.1 ≠ (mz_TMoves b).2.1 := by decide +kernel
theorem mz_kMoves : ∀ k, k < 6 → parseFieldDescriptor (mz_TMoves k).2.2.1 = some (mz_yMoves k) := by decide +kernel
def mz_RWriter : String := "ValueMill$Writer"
def mz_TWriter : u_T := fun k => match k with
  | 0 => ("ValueMill$Writer", "program", "LValueMill$Program;", true)
  | 1 => ("ValueMill$Writer", "flow", "LValueMill$Flow;", true)
  | 2 => ("ValueMill$Writer", "names", "LValueMill$Names;", true)
  | 3 => ("ValueMill$Writer", "stands", "LValueMill$Stands;", true)
  | 4 => ("ValueMill$Writer", "homes", "LValueMill$Homes;", true)
  | 5 => ("ValueMill$Writer", "code", "LValueMill$Code;", true)
  | _ => ("ValueMill$Writer", "moves", "LValueMill$Moves;", true)
def mz_yWriter : Nat → FieldType := fun k => match k with
  | 0 => .object "ValueMill$Program"
  | 1 => .object "ValueMill$Flow"
  | 2 => .object "ValueMill$Names"
  | 3 => .object "ValueMill$Stands"
  | 4 => .object "ValueMill$Homes"
  | 5 => .object "ValueMill$Code"
  | _ => .object "ValueMill$Moves"
theorem mz_nWriter : ∀ a, a < 7 → ∀ b, b < 7 → a ≠ b → (mz_TWriter a).2.1 ≠ (mz_TWriter b).2.1 := by decide +kernel
theorem mz_kWriter : ∀ k, k < 7 → parseFieldDescriptor (mz_TWriter k).2.2.1 = some (mz_yWriter k) := by decide +kernel
def mz_RMachine : String := "ValueMill$Machine"
def mz_TMachine : u_T := fun k => match k with
  | 0 => ("ValueMill$Machine", "cells", "[I", true)
  | 1 => ("ValueMill$Machine", "words", "[I", true)
  | 2 => ("ValueMill$Machine", "log", "[I", true)
  | 3 => ("ValueMill$Machine", "returned", "I", false)
  | 4 => ("ValueMill$Machine", "blocksEntered", "I", false)
  | _ => ("ValueMill$Machine", "callsMade", "I", false)
def mz_yMachine : Nat → FieldType := fun k => match k with
  | 0 => .array .int
  | 1 => .array .int
  | 2 => .array .int
  | 3 => .int
  | 4 => .int
  | _ => .int
theorem mz_nMachine : ∀ a, a < 6 → ∀ b, b < 6 → a ≠ b → (mz_TMachine a).2.1 ≠ (mz_TMachine b).2.1 := by decide +kernel
theorem mz_kMachine : ∀ k, k < 6 → parseFieldDescriptor (mz_TMachine k).2.2.1 = some (mz_yMachine k) := by decide +kernel
def mz_RRef : String := "ValueMillModel"
def mz_TRef : u_T := fun k => match k with
  | 0 => ("ValueMillModel", "blocks", "I", false)
  | 1 => ("ValueMillModel", "counts", "[I", true)
  | 2 => ("ValueMillModel", "ops", "[I", true)
  | 3 => ("ValueMillModel", "endKind", "[I", true)
  | 4 => ("ValueMillModel", "endTemp", "[I", true)
  | 5 => ("ValueMillModel", "first", "[I", true)
  | 6 => ("ValueMillModel", "second", "[I", true)
  | 7 => ("ValueMillModel", "told", "[I", true)
  | 8 => ("ValueMillModel", "hasRun", "Z", false)
  | 9 => ("ValueMillModel", "value", "I", false)
  | 10 => ("ValueMillModel", "entered", "I", false)
  | 11 => ("ValueMillModel", "words", "[I", true)
  | 12 => ("ValueMillModel", "temps", "[I", true)
  | 13 => ("ValueMillModel", "calls", "I", false)
  | 14 => ("ValueMillModel", "callRows", "[I", true)
  | 15 => ("ValueMillModel", "noted", "[I", true)
  | 16 => ("ValueMillModel", "stack", "[I", true)
  | _ => ("ValueMillModel", "gone", "[I", true)
def mz_yRef : Nat → FieldType := fun k => match k with
  | 0 => .int
  | 1 => .array .int
  | 2 => .array .int
  | 3 => .array .int
  | 4 => .array .int
  | 5 => .array .int
  | 6 => .array .int
  | 7 => .array .int
  | 8 => .boolean
  | 9 => .int
  | 10 => .int
  | 11 => .array .int
  | 12 => .array .int
  | 13 => .int
  | 14 => .array .int
  | 15 => .array .int
  | 16 => .array .int
  | _ => .array .int
theorem mz_nRef : ∀ a, a < 18 → ∀ b, b < 18 → a ≠ b → (mz_TRef a).2.1 ≠ (mz_TRef b).2.1 := by decide +kernel
theorem mz_kRef : ∀ k, k < 18 → parseFieldDescriptor (mz_TRef k).2.2.1 = some (mz_yRef k) := by decide +kernel
def mz_CL : List vw_C := [(mz_RMill, mz_TMill, 12), (mz_RProgram, mz_TProgram, 11), (mz_RFlow, mz_TFlow, 11), (mz_RLives, mz_TLives, 6), (mz_RNames, mz_TNames, 7), (mz_RStands, mz_TStands, 7), (mz_RHomes, mz_THomes, 14), (mz_RCode, mz_TCode, 10), (mz_RMoves, mz_TMoves, 6), (mz_RWriter, mz_TWriter, 7), (mz_RMachine, mz_TMachine, 6), (mz_RRef, mz_TRef, 18)]
def mz_len : Nat → Nat := fun k => match k with
  | 12 => 120
  | 13 => 120
  | 14 => 120
  | 15 => 120
  | 16 => 10
  | 17 => 10
  | 18 => 10
  | 19 => 10
  | 20 => 10
  | 21 => 32
  | 22 => 10
  | 23 => 10
  | 24 => 10
  | 25 => 10
  | 26 => 10
  | 27 => 10
  | 28 => 10
  | 29 => 10
  | 30 => 10
  | 31 => 10
  | 32 => 10
  | 33 => 120
  | 34 => 120
  | 35 => 10
  | 36 => 100
  | 37 => 221
  | 38 => 221
  | 39 => 10
  | 40 => 221
  | 41 => 221
  | 42 => 10
  | 43 => 8
  | 44 => 12
  | 45 => 30
  | 46 => 30
  | 47 => 1090
  | 48 => 1090
  | 49 => 1090
  | 50 => 1090
  | 51 => 1090
  | 52 => 10
  | 53 => 10
  | 54 => 10
  | 55 => 10
  | 56 => 10
  | 57 => 230
  | 58 => 32
  | 59 => 600
  | 60 => 10
  | 61 => 480
  | 62 => 10
  | 63 => 10
  | 64 => 10
  | 65 => 10
  | 66 => 32
  | 67 => 32
  | 68 => 10
  | 69 => 600
  | 70 => 10
  | 71 => 10
  | 72 => 10
  | _ => 0
def mz_cel (E : mz_En) (σ : mz_St) (κ : Nat → Int64) : Nat → va_E := fun k => match k with
  | 0 => .inr (0, [.ref (E.2.1 1), .ref (E.2.1 2), .ref (E.2.1 3), .ref (E.2.1 4), .ref (E.2.1 5), .ref (E.2.1 6), .ref (E.2.1 7), .ref (E.2.1 9), .ref (E.2.1 10), .int (σ 1000 0), .int (σ 1001 0), .int (σ 1002 0)])
  | 1 => .inr (1, [.ref (E.2.1 12), .ref (E.2.1 13), .ref (E.2.1 14), .ref (E.2.1 15), .ref (E.2.1 16), .ref (E.2.1 17), .ref (E.2.1 18), .ref (E.2.1 19), .ref (E.2.1 20), .ref (E.2.1 21), .int (σ 1003 0)])
  | 2 => .inr (2, [.ref (E.2.1 1), .ref (E.2.1 22), .ref (E.2.1 23), .ref (E.2.1 24), .ref (E.2.1 25), .ref (E.2.1 26), .ref (E.2.1 27), .ref (E.2.1 28), .int (σ 1004 0), .int (σ 1005 0), .int (σ 1006 0)])
  | 3 => .inr (3, [.ref (E.2.1 1), .ref (E.2.1 2), .ref (E.2.1 29), .ref (E.2.1 30), .ref (E.2.1 31), .ref (E.2.1 32)])
  | 4 => .inr (4, [.ref (E.2.1 1), .ref (E.2.1 2), .ref (E.2.1 3), .ref (E.2.1 33), .ref (E.2.1 34), .ref (E.2.1 35), .ref (E.2.1 36)])
  | 5 => .inr (5, [.ref (E.2.1 1), .ref (E.2.1 2), .ref (E.2.1 3), .ref (E.2.1 4), .ref (E.2.1 37), .ref (E.2.1 38), .ref (E.2.1 39)])
  | 6 => .inr (6, [.ref (E.2.1 1), .ref (E.2.1 2), .ref (E.2.1 3), .ref (E.2.1 4), .ref (E.2.1 5), .ref (E.2.1 40), .ref (E.2.1 41), .ref (E.2.1 42), .ref (E.2.1 43), .ref (E.2.1 44), .int (σ 1007 0), .int (σ 1008 0), .int (σ 1009 0), .int (σ 1010 0)])
  | 7 => .inr (7, [.ref (E.2.1 45), .ref (E.2.1 46), .ref (E.2.1 47), .ref (E.2.1 48), .ref (E.2.1 49), .ref (E.2.1 50), .ref (E.2.1 51), .ref (E.2.1 52), .ref (E.2.1 53), .int (σ 1011 0)])
  | 8 => .inr (8, [.ref (E.2.1 6), .ref (E.2.1 7), .ref (E.2.1 54), .ref (E.2.1 55), .ref (E.2.1 56), .int (σ 1012 0)])
  | 9 => .inr (9, [.ref (E.2.1 1), .ref (E.2.1 2), .ref (E.2.1 4), .ref (E.2.1 5), .ref (E.2.1 6), .ref (E.2.1 7), .ref (E.2.1 8)])
  | 10 => .inr (10, [.ref (E.2.1 57), .ref (E.2.1 58), .ref (E.2.1 59), .int (σ 1013 0), .int (σ 1014 0), .int (σ 1015 0)])
  | 11 => .inr (11, [.int (σ 1016 0), .ref (E.2.1 60), .ref (E.2.1 61), .ref (E.2.1 62), .ref (E.2.1 63), .ref (E.2.1 64), .ref (E.2.1 65), .ref (E.2.1 66), .int (σ 1017 0), .int (σ 1018 0), .int (σ 1019 0), .ref (E.2.1 67), .ref (E.2.1 68), .int (σ 1020 0), .ref (E.2.1 69), .ref (E.2.1 70), .ref (E.2.1 71), .ref (E.2.1 72)])
  | 41 => .inl (E.2.2.2.1, 221, .inr (.inl κ))
  | 53 => .inl (E.2.2.2.2, 10, .inl (σ 53))
  | 56 => .inl (E.2.2.2.2, 10, .inl (σ 56))
  | k => .inl (E.2.2.1, mz_len k, .inl (σ k))
def mz_NC : Nat := 73
end
section

/-! the judgement 'mz_G': the frame at pc with locals L and stack st, over any heap that holds the picture σ, comes to its end -/
def mz_isNest : Cond → Bool
  | .fieldLinkNest .. => true
  | .methodLinkNest .. => true
  | _ => false
def mz_TB : List Cond := lw_tbl.filter goodWord
def mz_NW : List Cond := lw_tbl.filter mz_isNest
theorem mz_in {i : Nat} {w : Cond} (h : lw_tbl[i]? = some w) (hg : goodWord w = true) : w ∈ mz_TB := List.mem_filter.mpr ⟨List.mem_of_getElem? h, hg⟩
theorem mz_inN {i : Nat} {w : Cond} (h : lw_tbl[i]? = some w) (hg : mz_isNest w = true) : w ∈ mz_NW := List.mem_filter.mpr ⟨List.mem_of_getElem? h, hg⟩
theorem mz_goodIn {y : MethodName} {cc : ByteArray} {n : Nat} {r : Option FieldType} (h : Cond.code y cc n r ∈ mz_TB) : GoodIn mz_TB (.code y cc n r :: mz_TB) := by
  intro w hw
  rcases List.mem_cons.mp hw with rfl | hw
  · exact ⟨h, good_of_word (List.mem_filter.mp h).2⟩
  · exact ⟨hw, good_of_word (List.mem_filter.mp hw).2⟩
theorem mz_nwarm {s U : State} (hW : s.WarmedH U.vm) {w : Cond} (hw : mz_isNest w = true) (h : va_Nw w s) : va_Nw w U := by
  cases w <;> first | exact va_Nw.warmF hW h | exact va_Nw.warmM hW h | cases hw
theorem mz_nsame {u U : State} (hv : u.vm = U.vm) {w : Cond} (hw : mz_isNest w = true) (h : va_Nw w u) : va_Nw w U := by
  cases w <;> first | exact va_Nw.same rfl hv h | cases hw
def mz_ws (E : mz_En) (σ : mz_St) (κ : Nat → Int64) : va_W := (List.range mz_NC).map (fun k => (E.2.1 k, mz_cel E σ κ k))
theorem mz_ws_get (E : mz_En) (σ : mz_St) (κ : Nat → Int64) {k : Nat} (hk : k < mz_NC) : (mz_ws E σ κ)[k]? = some (E.2.1 k, mz_cel E σ κ k) := by
  simp [mz_ws, hk]
theorem mz_ws_at {E : mz_En} {σ : mz_St} {κ : Nat → Int64} {k : Nat} {q : Nat × va_E} (h : (mz_ws E σ κ)[k]? = some q) : k < mz_NC ∧ q = (E.2.1 k, mz_cel E σ κ k) := by
  have hl : k < mz_NC := by
    have := (List.getElem?_eq_some_iff.mp h).1
    simpa [mz_ws] using this
  rw [mz_ws_get E σ κ hl] at h
  exact ⟨hl, (Option.some.inj h).symm⟩
def mz_AA (E : mz_En) : Nat → Prop := fun q => ∃ k, k < mz_NC ∧ q = E.2.1 k
def mz_Inj (E : mz_En) : Prop := ∀ i j, i < mz_NC → j < mz_NC → E.2.1 i = E.2.1 j → i = j
theorem mz_ws_D {E : mz_En} {σ : mz_St} {κ : Nat → Int64} (hI : mz_Inj E) : va_D (mz_AA E) (mz_ws E σ κ) := by
  refine ⟨fun i j p q hi hj h => ?_, fun k q hk => ?_⟩
  · obtain ⟨h1, rfl⟩ := mz_ws_at hi
    obtain ⟨h2, rfl⟩ := mz_ws_at hj
    exact hI i j h1 h2 h
  · obtain ⟨h1, rfl⟩ := mz_ws_at hk
    exact ⟨k, h1, rfl⟩
def mz_tys (E : mz_En) : List (ClassId × FieldType) := [(E.2.2.1, .int), (E.2.2.2.1, .long), (E.2.2.2.2, .boolean)]
theorem mz_ws_set {E : mz_En} {σ σ' : mz_St} {κ κ' : Nat → Int64} {k : Nat} {e : va_E} (hk : k < mz_NC) (h1 : mz_cel E σ' κ' k = e) (h2 : ∀ j, j < mz_NC → j ≠ k → mz_cel E σ' κ' j = mz_cel E σ κ j) : (mz_ws E σ κ).set k (E.2.1 k, e) = mz_ws E σ' κ' := by
  apply List.ext_getElem?
  intro j
  by_cases hj : j < mz_NC
  · by_cases hjk : j = k
    · subst hjk
      rw [List.getElem?_set_self (by simpa [mz_ws] using hk), mz_ws_get E σ' κ' hk, h1]
    · rw [List.getElem?_set_ne (Ne.symm hjk), mz_ws_get E σ κ hj, mz_ws_get E σ' κ' hj, h2 j hj hjk]
  · have hn : ∀ (l : va_W), l.length = mz_NC → l[j]? = none := fun l hl => List.getElem?_eq_none (by omega)
    rw [hn _ (by simp [mz_ws]), hn _ (by simp [mz_ws])]
theorem mz_up_ne {σ : mz_St} {a i b : Nat} {v : Int32} (h : b ≠ a) : mz_up σ a i v b = σ b := by simp [mz_up, h]
theorem mz_up_eq {σ : mz_St} {a i : Nat} {v : Int32} : mz_up σ a i v a = upd (σ a) i v := by simp [mz_up]
/-- the cells look at rows of the picture: array k at row k, the objects at rows from 1000 on -/
theorem mz_cel_row {E : mz_En} {σ σ' : mz_St} {κ : Nat → Int64} {j : Nat} (h : σ' j = σ j) (ho : ∀ a, 1000 ≤ a → σ' a = σ a) : mz_cel E σ' κ j = mz_cel E σ κ j := by
  unfold mz_cel
  split <;> simp only [h, ho _ (by decide : 1000 ≤ 1000), ho _ (by decide : 1000 ≤ 1001), ho _ (by decide : 1000 ≤ 1002), ho _ (by decide : 1000 ≤ 1003), ho _ (by decide : 1000 ≤ 1004), ho _ (by decide : 1000 ≤ 1005), ho _ (by decide : 1000 ≤ 1006), ho _ (by decide : 1000 ≤ 1007), ho _ (by decide : 1000 ≤ 1008), ho _ (by decide : 1000 ≤ 1009), ho _ (by decide : 1000 ≤ 1010), ho _ (by decide : 1000 ≤ 1011), ho _ (by decide : 1000 ≤ 1012), ho _ (by decide : 1000 ≤ 1013), ho _ (by decide : 1000 ≤ 1014), ho _ (by decide : 1000 ≤ 1015), ho _ (by decide : 1000 ≤ 1016), ho _ (by decide : 1000 ≤ 1017), ho _ (by decide : 1000 ≤ 1018), ho _ (by decide : 1000 ≤ 1019), ho _ (by decide : 1000 ≤ 1020)]
theorem mz_cel_up {E : mz_En} {σ : mz_St} {κ : Nat → Int64} {a i : Nat} {v : Int32} (ha : a < 1000) {j : Nat} (hj : j ≠ a) : mz_cel E (mz_up σ a i v) κ j = mz_cel E σ κ j :=
  mz_cel_row (mz_up_ne hj) (fun b hb => mz_up_ne (by omega))
theorem mz_cel_k {E : mz_En} {σ : mz_St} {κ κ' : Nat → Int64} {j : Nat} (hj : j ≠ 41) : mz_cel E σ κ' j = mz_cel E σ κ j := by
  unfold mz_cel
  split <;> first | rfl | exact absurd rfl hj
abbrev mz_Cx := Program × Launch × Env × Room × State × MethodId × Array Value × List Frame × Method × Code × (State → Prop) × Nat × Nat
abbrev mx_p (X : mz_Cx) : Program := X.1
abbrev mx_l (X : mz_Cx) : Launch := X.2.1
abbrev mx_e (X : mz_Cx) : Env := X.2.2.1
abbrev mx_R (X : mz_Cx) : Room := X.2.2.2.1
abbrev mx_s (X : mz_Cx) : State := X.2.2.2.2.1
abbrev mx_m (X : mz_Cx) : MethodId := X.2.2.2.2.2.1
abbrev mx_a (X : mz_Cx) : Array Value := X.2.2.2.2.2.2.1
abbrev mx_b (X : mz_Cx) : List Frame := X.2.2.2.2.2.2.2.1
abbrev mx_h (X : mz_Cx) : Method := X.2.2.2.2.2.2.2.2.1
abbrev mx_c (X : mz_Cx) : Code := X.2.2.2.2.2.2.2.2.2.1
abbrev mx_Q (X : mz_Cx) : State → Prop := X.2.2.2.2.2.2.2.2.2.2.1
abbrev mx_k (X : mz_Cx) : Nat := X.2.2.2.2.2.2.2.2.2.2.2.1
abbrev mx_n (X : mz_Cx) : Nat := X.2.2.2.2.2.2.2.2.2.2.2.2
def mz_W (X : mz_Cx) (H : Heap) (locs : List Loc) (g : JFrame) : Prop := W (mx_p X) (mx_l X) (mx_e X) (mx_R X) (mx_s X) (mx_m X) (mx_a X) (mx_b X) (mx_h X) (mx_c X) H locs (mx_k X) (mx_n X) (mx_Q X) g
def mz_C (E : mz_En) (X : mz_Cx) (cc : ByteArray) (own : String) (nL fr lo : Nat) : Prop :=
  (mx_p X).tables.exec = Jvm.exec ∧ (mx_c X).code = cc ∧ (mx_c X).maxLocals = nL ∧ (mx_s X).vm.findClass own = some (mx_m X).cls ∧ (∀ w ∈ mz_TB, w.before (mx_a X) (mx_s X) = true) ∧ (∀ w ∈ mz_NW, va_Nw w (mx_s X)) ∧ va_K E.1 mz_CL (mz_tys E) (mx_s X) ∧ mz_Inj E ∧ (fr ≤ (mx_R X).frames ∧ lo ≤ (mx_R X).locals) ∧ (mx_k X ≤ (mx_R X).cells ∧ mx_n X ≤ (mx_R X).slots)
def mz_G (E : mz_En) (X : mz_Cx) (nL pc : Nat) (L : List (Nat × Value)) (st : List Value) (σ : mz_St) : Prop :=
  ∀ (κ : Nat → Int64) (H : Heap) (locs : List Loc) (ls : Array Slot), va_P E.1 mz_CL (mz_ws E σ κ) H → va_S (mz_AA E) (mx_s X).heap H locs → lv_has ls nL L → mz_W X H locs (F0 (mx_m X) pc ls st)
/-- the instruction at pc, its length, the next pc -/
def mz_d (cc : ByteArray) (pc : Nat) (i : Instr) (len pc' : Nat) : Prop := decode cc pc = .ok (i, len) ∧ pc + len = pc'
def mz_Wd (E : mz_En) (σ : mz_St) (U : State) : Prop := (∃ κ : Nat → Int64, va_P E.1 mz_CL (mz_ws E σ κ) U.heap) ∧ va_K E.1 mz_CL (mz_tys E) U ∧ ∀ w ∈ mz_NW, va_Nw w U
theorem mz_Wd.mv {E : mz_En} {σ : mz_St} {κ : Nat → Int64} {s t : State} {H : Heap} (hP : va_P E.1 mz_CL (mz_ws E σ κ) H) (ht : t.heap = H) (hW : s.WarmedH t.vm) (hK : va_K E.1 mz_CL (mz_tys E) s) (hN : ∀ w ∈ mz_NW, va_Nw w s) : mz_Wd E σ t :=
  ⟨⟨κ, by rw [ht]; exact hP⟩, va_K.moved hW.alike hK, fun w hw => mz_nwarm hW (List.mem_filter.mp hw).2 (hN w hw)⟩
theorem mz_blind {E : mz_En} {σ : mz_St} {av : List Value} : FrameBlind (va_Pc av (mz_Wd E σ)) := by
  intro a U g mk q
  obtain ⟨q0, ⟨κ, qP⟩, qK, qN⟩ := q
  exact ⟨q0, ⟨κ, qP⟩, va_K.moved (u := U) (U := U.calling g mk a) (Vm.Alike.refl U.vm) qK, fun w hw => mz_nsame (u := U) (U := U.calling g mk a) rfl (List.mem_filter.mp hw).2 (qN w hw)⟩
/-- contracts: int (and boolean) answers, no answer -/
def mz_Ci (l : Launch) (E : mz_En) (y : MethodName) (cc : ByteArray) (nL : Nat) (ret : Option FieldType) (fr lo : Nat) (av : List Value) (σ : mz_St) (K : Int32 → mz_St → Prop) : Prop :=
  Met l y (.code y cc nL ret :: mz_TB) { frames := fr, cells := 0, slots := 0, locals := lo } (va_Pc av (mz_Wd E σ)) (va_Qi K (fun u t => mz_Wd E u t) (mz_AA E)) 0 0 (mz_AA E)
def mz_Cv (l : Launch) (E : mz_En) (y : MethodName) (cc : ByteArray) (nL : Nat) (fr lo : Nat) (av : List Value) (σ : mz_St) (K : mz_St → Prop) : Prop :=
  Met l y (.code y cc nL none :: mz_TB) { frames := fr, cells := 0, slots := 0, locals := lo } (va_Pc av (mz_Wd E σ)) (va_Qv K (fun u t => mz_Wd E u t) (mz_AA E)) 0 0 (mz_AA E)
def mz_Ri (E : mz_En) (X : mz_Cx) (ty : FieldType) (K : Int32 → mz_St → Prop) : Prop := (mx_h X).sig.returnType = some ty ∧ (mx_h X).locks = false ∧ mx_Q X = MQ (mx_b X) (va_Qi K (fun u t => mz_Wd E u t) (mz_AA E)) (mx_a X) (mx_s X) (mx_k X) (mx_n X) (mz_AA E)
def mz_Rv (E : mz_En) (X : mz_Cx) (K : mz_St → Prop) : Prop := (mx_h X).sig.returnType = none ∧ (mx_h X).locks = false ∧ mx_Q X = MQ (mx_b X) (va_Qv K (fun u t => mz_Wd E u t) (mz_AA E)) (mx_a X) (mx_s X) (mx_k X) (mx_n X) (mz_AA E)
theorem mz_ct {l : Launch} {E : mz_En} {y : MethodName} {cc : ByteArray} {nL : Nat} {ret : Option FieldType} {fr lo : Nat} {av : List Value} {σ : mz_St} {Qc : Array Value → State → Outcome → State → Prop} (hI : mz_Inj E) (hy : plainName y.cls = true) (hlen : (lg_sl av).length ≤ nL)
    (body : ∀ X : mz_Cx, mz_C E X cc y.cls nL fr lo → (mx_h X).sig.returnType = ret → (mx_h X).locks = false → mx_Q X = MQ (mx_b X) Qc (mx_a X) (mx_s X) (mx_k X) (mx_n X) (mz_AA E) → mz_G E X nL 0 (lv_args 0 av) [] σ) :
    Met l y (.code y cc nL ret :: mz_TB) { frames := fr, cells := 0, slots := 0, locals := lo } (va_Pc av (mz_Wd E σ)) Qc 0 0 (mz_AA E) := by
  refine Met.ofW (cc := cc) (maxL := nL) (ret := ret) hy rfl ?_
  intro p e s m args below meth c s₁ B hml hv
  obtain ⟨rfl, ⟨κ, hP⟩, hK, hN⟩ := hv
  have hts := atoms_spec (ws := .code y cc nL ret :: mz_TB) B.pre
  have hown : s.vm.findClass y.cls = some m.cls := findClass_of_methodNamed B.named
  have hl := lv_entry av (n := nL) hlen
  rw [lg_entry_eq]
  generalize (lg_sl av ++ List.replicate (nL - (lg_sl av).length) Slot.unset).toArray = ls at hl ⊢
  exact body (p, l, e, _, s, m, _, below, meth, c, _, 0, 0) ⟨B.exec, B.bytes, hml, hown, fun w hw => hts w (List.mem_cons_of_mem _ hw), hN, hK, hI, ⟨Nat.le_refl _, Nat.le_refl _⟩, ⟨Nat.zero_le _, Nat.zero_le _⟩⟩ B.returns B.notSynchronized rfl κ s.heap [] ls hP va_S.rf hl
theorem mz_cti {l : Launch} {E : mz_En} {y : MethodName} {cc : ByteArray} {nL : Nat} {ty : FieldType} {fr lo : Nat} {av : List Value} {σ : mz_St} {K : Int32 → mz_St → Prop} (hI : mz_Inj E) (hy : plainName y.cls = true) (hlen : (lg_sl av).length ≤ nL)
    (body : ∀ X : mz_Cx, mz_C E X cc y.cls nL fr lo → mz_Ri E X ty K → mz_G E X nL 0 (lv_args 0 av) [] σ) : mz_Ci l E y cc nL (some ty) fr lo av σ K :=
  mz_ct hI hy hlen fun X C h1 h2 h3 => body X C ⟨h1, h2, h3⟩
theorem mz_ctv {l : Launch} {E : mz_En} {y : MethodName} {cc : ByteArray} {nL : Nat} {fr lo : Nat} {av : List Value} {σ : mz_St} {K : mz_St → Prop} (hI : mz_Inj E) (hy : plainName y.cls = true) (hlen : (lg_sl av).length ≤ nL)
    (body : ∀ X : mz_Cx, mz_C E X cc y.cls nL fr lo → mz_Rv E X K → mz_G E X nL 0 (lv_args 0 av) [] σ) : mz_Cv l E y cc nL fr lo av σ K :=
  mz_ct hI hy hlen fun X C h1 h2 h3 => body X C ⟨h1, h2, h3⟩
/-- what a method is, in the tables -/
def mz_ok (y : MethodName) (cc : ByteArray) (nL : Nat) (ret : Option FieldType) (n : Nat) : Prop := Cond.code y cc nL ret ∈ mz_TB ∧ Cond.initialized y.cls ∈ mz_TB ∧ (y.cls ≠ "java/lang/invoke/MethodHandle" ∧ y.cls ≠ "java/lang/invoke/VarHandle") ∧ (parseMethodDescriptor y.desc).map (fun d => d.parameters.length) = some n
def mz_oi (y : MethodName) : Prop := Cond.instanceMethod y ∈ mz_TB ∧ Cond.selects y.cls y y ∈ mz_TB
def mz_oc (ci : Nat) (Cn : String) (T : u_T) (N : Nat) (ty : Nat → FieldType) : Prop := mz_CL[ci]? = some (Cn, T, N) ∧ (∀ w ∈ u_ws Cn T N, w ∈ mz_TB) ∧ (∀ k, k < N → parseFieldDescriptor (T k).2.2.1 = some (ty k)) ∧ (∀ a, a < N → ∀ b, b < N → a ≠ b → (T a).2.1 ≠ (T b).2.1)
section MR
variable {E : mz_En} {X : mz_Cx} {cc : ByteArray} {own : String} {nL fr lo pc pc' : Nat} {L L' : List (Nat × Value)} {st rest : List Value} {σ : mz_St}
theorem mr_sub (ks : List Nat) (hk : lv_pick L ks = L') (k : mz_G E X nL pc L' st σ) : mz_G E X nL pc L st σ := fun κ H locs ls hP hS hl => k κ H locs ls hP hS (lv_sub hl ks hk)
theorem mr_iconst (C : mz_C E X cc own nL fr lo) {n : Int} {v : Int32} (d : mz_d cc pc (.iconst n) 1 pc') (hv : Int32.ofInt n = v) (k : mz_G E X nL pc' L (.int v :: st) σ) : mz_G E X nL pc L (st) σ := by
  obtain ⟨d, rfl⟩ := d
  exact fun κ H locs ls hP hS hl => lv_iconst C.1 C.2.1 d hv (k κ H locs ls hP hS hl)
theorem mr_bipush (C : mz_C E X cc own nL fr lo) {n : Int} {v : Int32} (d : mz_d cc pc (.bipush n) 2 pc') (hv : (Int8.ofInt n).toInt32 = v) (k : mz_G E X nL pc' L (.int v :: st) σ) : mz_G E X nL pc L (st) σ := by
  obtain ⟨d, rfl⟩ := d
  exact fun κ H locs ls hP hS hl => lv_bipush C.1 C.2.1 d hv (k κ H locs ls hP hS hl)
theorem mr_sipush (C : mz_C E X cc own nL fr lo) {n : Int} {v : Int32} (d : mz_d cc pc (.sipush n) 3 pc') (hv : (Int16.ofInt n).toInt32 = v) (k : mz_G E X nL pc' L (.int v :: st) σ) : mz_G E X nL pc L (st) σ := by
  obtain ⟨d, rfl⟩ := d
  exact fun κ H locs ls hP hS hl => lv_sipush C.1 C.2.1 d hv (k κ H locs ls hP hS hl)
theorem mr_lconst (C : mz_C E X cc own nL fr lo) {n : Fin 2} {v : Int64} (d : mz_d cc pc (.lconst n) 1 pc') (hv : Int64.ofNat (n : Nat) = v) (k : mz_G E X nL pc' L (.long v :: st) σ) : mz_G E X nL pc L (st) σ := by
  obtain ⟨d, rfl⟩ := d
  exact fun κ H locs ls hP hS hl => lv_lconst C.1 C.2.1 d hv (k κ H locs ls hP hS hl)
theorem mr_ldc (C : mz_C E X cc own nL fr lo) {index : Nat} {v : Int32} (d : mz_d cc pc (.ldc index) 2 pc') (hw : Cond.constant own index v ∈ mz_TB) (k : mz_G E X nL pc' L (.int v :: st) σ) : mz_G E X nL pc L (st) σ := by
  obtain ⟨d, rfl⟩ := d
  exact fun κ H locs ls hP hS hl => lv_ldc C.1 C.2.1 C.2.2.2.1 (C.2.2.2.2.1 _ hw) d (k κ H locs ls hP hS hl)
theorem mr_ldc2 (C : mz_C E X cc own nL fr lo) {index : Nat} {v : Int64} (d : mz_d cc pc (.ldc2_w index) 3 pc') (hw : Cond.constantLong own index v ∈ mz_TB) (k : mz_G E X nL pc' L (.long v :: st) σ) : mz_G E X nL pc L (st) σ := by
  obtain ⟨d, rfl⟩ := d
  exact fun κ H locs ls hP hS hl => lv_ldc2 C.1 C.2.1 C.2.2.2.1 (C.2.2.2.2.1 _ hw) d (k κ H locs ls hP hS hl)
theorem mr_iload_n (C : mz_C E X cc own nL fr lo) (j : Nat) {k4 : Fin 4} {i : Nat} {x : Int32} (d : mz_d cc pc (.iload_n k4) 1 pc') (hi : (k4 : Nat) = i) (hj : L[j]? = some (i, .int x)) (k : mz_G E X nL pc' L (.int x :: st) σ) : mz_G E X nL pc L (st) σ := by
  obtain ⟨d, rfl⟩ := d
  exact fun κ H locs ls hP hS hl => lv_iload_n C.1 C.2.1 d hi (lv_at hl j hj) (k κ H locs ls hP hS hl)
theorem mr_iload (C : mz_C E X cc own nL fr lo) (j : Nat) {i : Nat} {x : Int32} (d : mz_d cc pc (.iload i) 2 pc') (hj : L[j]? = some (i, .int x)) (k : mz_G E X nL pc' L (.int x :: st) σ) : mz_G E X nL pc L (st) σ := by
  obtain ⟨d, rfl⟩ := d
  exact fun κ H locs ls hP hS hl => lv_iload C.1 C.2.1 d (lv_at hl j hj) (k κ H locs ls hP hS hl)
theorem mr_lload_n (C : mz_C E X cc own nL fr lo) (j : Nat) {k4 : Fin 4} {i : Nat} {x : Int64} (d : mz_d cc pc (.lload_n k4) 1 pc') (hi : (k4 : Nat) = i) (hj : L[j]? = some (i, .long x)) (k : mz_G E X nL pc' L (.long x :: st) σ) : mz_G E X nL pc L (st) σ := by
  obtain ⟨d, rfl⟩ := d
  exact fun κ H locs ls hP hS hl => lv_lload_n C.1 C.2.1 d hi (lv_at hl j hj) (k κ H locs ls hP hS hl)
theorem mr_lload (C : mz_C E X cc own nL fr lo) (j : Nat) {i : Nat} {x : Int64} (d : mz_d cc pc (.lload i) 2 pc') (hj : L[j]? = some (i, .long x)) (k : mz_G E X nL pc' L (.long x :: st) σ) : mz_G E X nL pc L (st) σ := by
  obtain ⟨d, rfl⟩ := d
  exact fun κ H locs ls hP hS hl => lv_lload C.1 C.2.1 d (lv_at hl j hj) (k κ H locs ls hP hS hl)
theorem mr_aload_n (C : mz_C E X cc own nL fr lo) (j : Nat) {k4 : Fin 4} {i : Nat} {x : Nat} (d : mz_d cc pc (.aload_n k4) 1 pc') (hi : (k4 : Nat) = i) (hj : L[j]? = some (i, .ref x)) (k : mz_G E X nL pc' L (.ref x :: st) σ) : mz_G E X nL pc L (st) σ := by
  obtain ⟨d, rfl⟩ := d
  exact fun κ H locs ls hP hS hl => lv_aload_n C.1 C.2.1 d hi (lv_at hl j hj) (k κ H locs ls hP hS hl)
theorem mr_aload (C : mz_C E X cc own nL fr lo) (j : Nat) {i : Nat} {x : Nat} (d : mz_d cc pc (.aload i) 2 pc') (hj : L[j]? = some (i, .ref x)) (k : mz_G E X nL pc' L (.ref x :: st) σ) : mz_G E X nL pc L (st) σ := by
  obtain ⟨d, rfl⟩ := d
  exact fun κ H locs ls hP hS hl => lv_aload C.1 C.2.1 d (lv_at hl j hj) (k κ H locs ls hP hS hl)
theorem mr_istore_n (C : mz_C E X cc own nL fr lo) {k4 : Fin 4} {i : Nat} {x : Int32} (d : mz_d cc pc (.istore_n k4) 1 pc') (hi : (k4 : Nat) = i) (hn : i < nL) (hl' : (i, Value.int x) :: L.filter (fun q => !(q.1 == i) && !(q.1 + 1 == i && q.2.category == 2)) = L') (k : mz_G E X nL pc' L' st σ) : mz_G E X nL pc L (Value.int x :: st) σ := by
  obtain ⟨d, rfl⟩ := d
  exact fun κ H locs ls hP hS hl => lv_istore_n C.1 C.2.1 d hi hl hn hl' (fun ls' h' => k κ H locs ls' hP hS h')
theorem mr_istore (C : mz_C E X cc own nL fr lo) {i : Nat} {x : Int32} (d : mz_d cc pc (.istore i) 2 pc')  (hn : i < nL) (hl' : (i, Value.int x) :: L.filter (fun q => !(q.1 == i) && !(q.1 + 1 == i && q.2.category == 2)) = L') (k : mz_G E X nL pc' L' st σ) : mz_G E X nL pc L (Value.int x :: st) σ := by
  obtain ⟨d, rfl⟩ := d
  exact fun κ H locs ls hP hS hl => lv_istore C.1 C.2.1 d hl hn hl' (fun ls' h' => k κ H locs ls' hP hS h')
theorem mr_lstore_n (C : mz_C E X cc own nL fr lo) {k4 : Fin 4} {i : Nat} {x : Int64} (d : mz_d cc pc (.lstore_n k4) 1 pc') (hi : (k4 : Nat) = i) (hn : i + 1 < nL) (hl' : (i, Value.long x) :: L.filter (fun q => !(q.1 == i) && (!(q.1 == i + 1) && !(q.1 + 1 == i && q.2.category == 2))) = L') (k : mz_G E X nL pc' L' st σ) : mz_G E X nL pc L (Value.long x :: st) σ := by
  obtain ⟨d, rfl⟩ := d
  exact fun κ H locs ls hP hS hl => lv_lstore_n C.1 C.2.1 d hi hl hn hl' (fun ls' h' => k κ H locs ls' hP hS h')
theorem mr_lstore (C : mz_C E X cc own nL fr lo) {i : Nat} {x : Int64} (d : mz_d cc pc (.lstore i) 2 pc')  (hn : i + 1 < nL) (hl' : (i, Value.long x) :: L.filter (fun q => !(q.1 == i) && (!(q.1 == i + 1) && !(q.1 + 1 == i && q.2.category == 2))) = L') (k : mz_G E X nL pc' L' st σ) : mz_G E X nL pc L (Value.long x :: st) σ := by
  obtain ⟨d, rfl⟩ := d
  exact fun κ H locs ls hP hS hl => lv_lstore C.1 C.2.1 d hl hn hl' (fun ls' h' => k κ H locs ls' hP hS h')
theorem mr_astore_n (C : mz_C E X cc own nL fr lo) {k4 : Fin 4} {i : Nat} {x : Nat} (d : mz_d cc pc (.astore_n k4) 1 pc') (hi : (k4 : Nat) = i) (hn : i < nL) (hl' : (i, Value.ref x) :: L.filter (fun q => !(q.1 == i) && !(q.1 + 1 == i && q.2.category == 2)) = L') (k : mz_G E X nL pc' L' st σ) : mz_G E X nL pc L (Value.ref x :: st) σ := by
  obtain ⟨d, rfl⟩ := d
  exact fun κ H locs ls hP hS hl => lv_astore_n C.1 C.2.1 d hi hl hn hl' (fun ls' h' => k κ H locs ls' hP hS h')
theorem mr_astore (C : mz_C E X cc own nL fr lo) {i : Nat} {x : Nat} (d : mz_d cc pc (.astore i) 2 pc')  (hn : i < nL) (hl' : (i, Value.ref x) :: L.filter (fun q => !(q.1 == i) && !(q.1 + 1 == i && q.2.category == 2)) = L') (k : mz_G E X nL pc' L' st σ) : mz_G E X nL pc L (Value.ref x :: st) σ := by
  obtain ⟨d, rfl⟩ := d
  exact fun κ H locs ls hP hS hl => lv_astore C.1 C.2.1 d hl hn hl' (fun ls' h' => k κ H locs ls' hP hS h')
theorem mr_iinc (C : mz_C E X cc own nL fr lo) (j : Nat) {i : Nat} {n : Int} {x v : Int32} (d : mz_d cc pc (.iinc i n) 3 pc') (hj : L[j]? = some (i, .int x)) (hv : x + Int32.ofInt n = v) (hn : i < nL) (hl' : (i, Value.int v) :: L.filter (fun q => !(q.1 == i) && !(q.1 + 1 == i && q.2.category == 2)) = L') (k : mz_G E X nL pc' L' st σ) : mz_G E X nL pc L st σ := by
  obtain ⟨d, rfl⟩ := d
  exact fun κ H locs ls hP hS hl => lv_iinc C.1 C.2.1 d hl hj hv hn hl' (fun ls' h' => k κ H locs ls' hP hS h')
theorem mr_iadd (C : mz_C E X cc own nL fr lo) {x y : Int32} (d : mz_d cc pc (.iadd) 1 pc')  (k : mz_G E X nL pc' L (.int (x + y) :: st) σ) : mz_G E X nL pc L (.int y :: .int x :: st) σ := by
  obtain ⟨d, rfl⟩ := d
  exact fun κ H locs ls hP hS hl => lv_iadd C.1 C.2.1 d (k κ H locs ls hP hS hl)
theorem mr_isub (C : mz_C E X cc own nL fr lo) {x y : Int32} (d : mz_d cc pc (.isub) 1 pc')  (k : mz_G E X nL pc' L (.int (x - y) :: st) σ) : mz_G E X nL pc L (.int y :: .int x :: st) σ := by
  obtain ⟨d, rfl⟩ := d
  exact fun κ H locs ls hP hS hl => lv_isub C.1 C.2.1 d (k κ H locs ls hP hS hl)
theorem mr_imul (C : mz_C E X cc own nL fr lo) {x y : Int32} (d : mz_d cc pc (.imul) 1 pc')  (k : mz_G E X nL pc' L (.int (x * y) :: st) σ) : mz_G E X nL pc L (.int y :: .int x :: st) σ := by
  obtain ⟨d, rfl⟩ := d
  exact fun κ H locs ls hP hS hl => lv_imul C.1 C.2.1 d (k κ H locs ls hP hS hl)
theorem mr_iand (C : mz_C E X cc own nL fr lo) {x y : Int32} (d : mz_d cc pc (.iand) 1 pc')  (k : mz_G E X nL pc' L (.int (x &&& y) :: st) σ) : mz_G E X nL pc L (.int y :: .int x :: st) σ := by
  obtain ⟨d, rfl⟩ := d
  exact fun κ H locs ls hP hS hl => lv_iand C.1 C.2.1 d (k κ H locs ls hP hS hl)
theorem mr_ior (C : mz_C E X cc own nL fr lo) {x y : Int32} (d : mz_d cc pc (.ior) 1 pc')  (k : mz_G E X nL pc' L (.int (x ||| y) :: st) σ) : mz_G E X nL pc L (.int y :: .int x :: st) σ := by
  obtain ⟨d, rfl⟩ := d
  exact fun κ H locs ls hP hS hl => lv_ior C.1 C.2.1 d (k κ H locs ls hP hS hl)
theorem mr_ixor (C : mz_C E X cc own nL fr lo) {x y : Int32} (d : mz_d cc pc (.ixor) 1 pc')  (k : mz_G E X nL pc' L (.int (x ^^^ y) :: st) σ) : mz_G E X nL pc L (.int y :: .int x :: st) σ := by
  obtain ⟨d, rfl⟩ := d
  exact fun κ H locs ls hP hS hl => lv_ixor C.1 C.2.1 d (k κ H locs ls hP hS hl)
theorem mr_ishl (C : mz_C E X cc own nL fr lo) {x y : Int32} (d : mz_d cc pc (.ishl) 1 pc')  (k : mz_G E X nL pc' L (.int (x <<< (y &&& 31)) :: st) σ) : mz_G E X nL pc L (.int y :: .int x :: st) σ := by
  obtain ⟨d, rfl⟩ := d
  exact fun κ H locs ls hP hS hl => lv_ishl C.1 C.2.1 d (k κ H locs ls hP hS hl)
theorem mr_ishr (C : mz_C E X cc own nL fr lo) {x y : Int32} (d : mz_d cc pc (.ishr) 1 pc')  (k : mz_G E X nL pc' L (.int (x >>> (y &&& 31)) :: st) σ) : mz_G E X nL pc L (.int y :: .int x :: st) σ := by
  obtain ⟨d, rfl⟩ := d
  exact fun κ H locs ls hP hS hl => lv_ishr C.1 C.2.1 d (k κ H locs ls hP hS hl)
theorem mr_idiv (C : mz_C E X cc own nL fr lo) {x y : Int32} (d : mz_d cc pc (.idiv) 1 pc') (hne : ¬ y = 0) (k : mz_G E X nL pc' L (.int (x / y) :: st) σ) : mz_G E X nL pc L (.int y :: .int x :: st) σ := by
  obtain ⟨d, rfl⟩ := d
  exact fun κ H locs ls hP hS hl => lv_idiv C.1 C.2.1 d hne (k κ H locs ls hP hS hl)
theorem mr_irem (C : mz_C E X cc own nL fr lo) {x y : Int32} (d : mz_d cc pc (.irem) 1 pc') (hne : ¬ y = 0) (k : mz_G E X nL pc' L (.int (x - x / y * y) :: st) σ) : mz_G E X nL pc L (.int y :: .int x :: st) σ := by
  obtain ⟨d, rfl⟩ := d
  exact fun κ H locs ls hP hS hl => lv_irem C.1 C.2.1 d hne (k κ H locs ls hP hS hl)
theorem mr_iushr (C : mz_C E X cc own nL fr lo) {x y : Int32} (d : mz_d cc pc (.iushr) 1 pc')  (k : mz_G E X nL pc' L (.int ((x.toUInt32 >>> (y.toUInt32 &&& Int32.toUInt32 31)).toInt32) :: st) σ) : mz_G E X nL pc L (.int y :: .int x :: st) σ := by
  obtain ⟨d, rfl⟩ := d
  exact fun κ H locs ls hP hS hl => lv_iushr C.1 C.2.1 d rfl (k κ H locs ls hP hS hl)
theorem mr_i2l (C : mz_C E X cc own nL fr lo) {x : Int32} (d : mz_d cc pc (.i2l) 1 pc')  (k : mz_G E X nL pc' L (.long x.toInt64 :: st) σ) : mz_G E X nL pc L (.int x :: st) σ := by
  obtain ⟨d, rfl⟩ := d
  exact fun κ H locs ls hP hS hl => lv_i2l C.1 C.2.1 d rfl (k κ H locs ls hP hS hl)
theorem mr_ladd (C : mz_C E X cc own nL fr lo) {x y : Int64} (d : mz_d cc pc (.ladd) 1 pc')  (k : mz_G E X nL pc' L (.long (x + y) :: st) σ) : mz_G E X nL pc L (.long y :: .long x :: st) σ := by
  obtain ⟨d, rfl⟩ := d
  exact fun κ H locs ls hP hS hl => lv_ladd C.1 C.2.1 d (k κ H locs ls hP hS hl)
theorem mr_land (C : mz_C E X cc own nL fr lo) {x y : Int64} (d : mz_d cc pc (.land) 1 pc')  (k : mz_G E X nL pc' L (.long (x &&& y) :: st) σ) : mz_G E X nL pc L (.long y :: .long x :: st) σ := by
  obtain ⟨d, rfl⟩ := d
  exact fun κ H locs ls hP hS hl => lv_land C.1 C.2.1 d (k κ H locs ls hP hS hl)
theorem mr_lshl (C : mz_C E X cc own nL fr lo) {x : Int64} {y : Int32} (d : mz_d cc pc (.lshl) 1 pc')  (k : mz_G E X nL pc' L (.long (x <<< (y.toInt64 &&& 63)) :: st) σ) : mz_G E X nL pc L (.int y :: .long x :: st) σ := by
  obtain ⟨d, rfl⟩ := d
  exact fun κ H locs ls hP hS hl => lv_lshl C.1 C.2.1 d rfl (k κ H locs ls hP hS hl)
theorem mr_lcmp (C : mz_C E X cc own nL fr lo) {x y : Int64} (d : mz_d cc pc (.lcmp) 1 pc')  (k : mz_G E X nL pc' L (.int (lg_cmp x y) :: st) σ) : mz_G E X nL pc L (.long y :: .long x :: st) σ := by
  obtain ⟨d, rfl⟩ := d
  exact fun κ H locs ls hP hS hl => W.lcmp C.1 C.2.1 d (k κ H locs ls hP hS hl)
theorem mr_dup (C : mz_C E X cc own nL fr lo) {a : Value} (d : mz_d cc pc (.dup) 1 pc') (hc : a.category = 1) (k : mz_G E X nL pc' L (a :: a :: st) σ) : mz_G E X nL pc L (a :: st) σ := by
  obtain ⟨d, rfl⟩ := d
  exact fun κ H locs ls hP hS hl => lv_dup C.1 C.2.1 d hc (k κ H locs ls hP hS hl)
theorem mr_pop (C : mz_C E X cc own nL fr lo) {a : Value} (d : mz_d cc pc (.pop) 1 pc') (hc : a.category = 1) (k : mz_G E X nL pc' L (st) σ) : mz_G E X nL pc L (a :: st) σ := by
  obtain ⟨d, rfl⟩ := d
  exact fun κ H locs ls hP hS hl => lv_pop C.1 C.2.1 d hc (k κ H locs ls hP hS hl)
theorem mr_dup2 (C : mz_C E X cc own nL fr lo) {a b : Value} (d : mz_d cc pc (.dup2) 1 pc') (ha : a.category = 1) (hb : b.category = 1) (k : mz_G E X nL pc' L (a :: b :: a :: b :: st) σ) : mz_G E X nL pc L (a :: b :: st) σ := by
  obtain ⟨d, rfl⟩ := d
  exact fun κ H locs ls hP hS hl => lv_dup2_11 C.1 C.2.1 d ha hb (k κ H locs ls hP hS hl)
theorem mr_if_eq (C : mz_C E X cc own nL fr lo) {x : Int32} {off : Int} {tgt : Nat} (d : mz_d cc pc (.ifCond .eq off) 3 pc') (ht : (pc : Int) + off = (tgt : Int)) (kt : x = 0 → mz_G E X nL tgt L st σ) (kf : ¬ x = 0 → mz_G E X nL pc' L st σ) : mz_G E X nL pc L (.int x :: st) σ := by
  obtain ⟨d, rfl⟩ := d
  exact fun κ H locs ls hP hS hl => lv_if_eq C.1 C.2.1 d ht (fun h => kt h κ H locs ls hP hS hl) (fun h => kf h κ H locs ls hP hS hl)
theorem mr_if_ne (C : mz_C E X cc own nL fr lo) {x : Int32} {off : Int} {tgt : Nat} (d : mz_d cc pc (.ifCond .ne off) 3 pc') (ht : (pc : Int) + off = (tgt : Int)) (kt : ¬ x = 0 → mz_G E X nL tgt L st σ) (kf : x = 0 → mz_G E X nL pc' L st σ) : mz_G E X nL pc L (.int x :: st) σ := by
  obtain ⟨d, rfl⟩ := d
  exact fun κ H locs ls hP hS hl => lv_if_ne C.1 C.2.1 d ht (fun h => kt h κ H locs ls hP hS hl) (fun h => kf h κ H locs ls hP hS hl)
theorem mr_if_lt (C : mz_C E X cc own nL fr lo) {x : Int32} {off : Int} {tgt : Nat} (d : mz_d cc pc (.ifCond .lt off) 3 pc') (ht : (pc : Int) + off = (tgt : Int)) (kt : x < 0 → mz_G E X nL tgt L st σ) (kf : ¬ x < 0 → mz_G E X nL pc' L st σ) : mz_G E X nL pc L (.int x :: st) σ := by
  obtain ⟨d, rfl⟩ := d
  exact fun κ H locs ls hP hS hl => lv_if_lt C.1 C.2.1 d ht (fun h => kt h κ H locs ls hP hS hl) (fun h => kf h κ H locs ls hP hS hl)
theorem mr_if_ge (C : mz_C E X cc own nL fr lo) {x : Int32} {off : Int} {tgt : Nat} (d : mz_d cc pc (.ifCond .ge off) 3 pc') (ht : (pc : Int) + off = (tgt : Int)) (kt : 0 ≤ x → mz_G E X nL tgt L st σ) (kf : ¬ 0 ≤ x → mz_G E X nL pc' L st σ) : mz_G E X nL pc L (.int x :: st) σ := by
  obtain ⟨d, rfl⟩ := d
  exact fun κ H locs ls hP hS hl => lv_if_ge C.1 C.2.1 d ht (fun h => kt h κ H locs ls hP hS hl) (fun h => kf h κ H locs ls hP hS hl)
theorem mr_if_gt (C : mz_C E X cc own nL fr lo) {x : Int32} {off : Int} {tgt : Nat} (d : mz_d cc pc (.ifCond .gt off) 3 pc') (ht : (pc : Int) + off = (tgt : Int)) (kt : 0 < x → mz_G E X nL tgt L st σ) (kf : ¬ 0 < x → mz_G E X nL pc' L st σ) : mz_G E X nL pc L (.int x :: st) σ := by
  obtain ⟨d, rfl⟩ := d
  exact fun κ H locs ls hP hS hl => lv_if_gt C.1 C.2.1 d ht (fun h => kt h κ H locs ls hP hS hl) (fun h => kf h κ H locs ls hP hS hl)
theorem mr_if_le (C : mz_C E X cc own nL fr lo) {x : Int32} {off : Int} {tgt : Nat} (d : mz_d cc pc (.ifCond .le off) 3 pc') (ht : (pc : Int) + off = (tgt : Int)) (kt : x ≤ 0 → mz_G E X nL tgt L st σ) (kf : ¬ x ≤ 0 → mz_G E X nL pc' L st σ) : mz_G E X nL pc L (.int x :: st) σ := by
  obtain ⟨d, rfl⟩ := d
  exact fun κ H locs ls hP hS hl => lv_if_le C.1 C.2.1 d ht (fun h => kt h κ H locs ls hP hS hl) (fun h => kf h κ H locs ls hP hS hl)
theorem mr_icmp_eq (C : mz_C E X cc own nL fr lo) {x y : Int32} {off : Int} {tgt : Nat} (d : mz_d cc pc (.if_icmp .eq off) 3 pc') (ht : (pc : Int) + off = (tgt : Int)) (kt : x = y → mz_G E X nL tgt L st σ) (kf : ¬ x = y → mz_G E X nL pc' L st σ) : mz_G E X nL pc L (.int y :: .int x :: st) σ := by
  obtain ⟨d, rfl⟩ := d
  exact fun κ H locs ls hP hS hl => lv_icmp_eq C.1 C.2.1 d ht (fun h => kt h κ H locs ls hP hS hl) (fun h => kf h κ H locs ls hP hS hl)
theorem mr_icmp_ne (C : mz_C E X cc own nL fr lo) {x y : Int32} {off : Int} {tgt : Nat} (d : mz_d cc pc (.if_icmp .ne off) 3 pc') (ht : (pc : Int) + off = (tgt : Int)) (kt : ¬ x = y → mz_G E X nL tgt L st σ) (kf : x = y → mz_G E X nL pc' L st σ) : mz_G E X nL pc L (.int y :: .int x :: st) σ := by
  obtain ⟨d, rfl⟩ := d
  exact fun κ H locs ls hP hS hl => lv_icmp_ne C.1 C.2.1 d ht (fun h => kt h κ H locs ls hP hS hl) (fun h => kf h κ H locs ls hP hS hl)
theorem mr_icmp_lt (C : mz_C E X cc own nL fr lo) {x y : Int32} {off : Int} {tgt : Nat} (d : mz_d cc pc (.if_icmp .lt off) 3 pc') (ht : (pc : Int) + off = (tgt : Int)) (kt : x < y → mz_G E X nL tgt L st σ) (kf : ¬ x < y → mz_G E X nL pc' L st σ) : mz_G E X nL pc L (.int y :: .int x :: st) σ := by
  obtain ⟨d, rfl⟩ := d
  exact fun κ H locs ls hP hS hl => lv_icmp_lt C.1 C.2.1 d ht (fun h => kt h κ H locs ls hP hS hl) (fun h => kf h κ H locs ls hP hS hl)
theorem mr_icmp_ge (C : mz_C E X cc own nL fr lo) {x y : Int32} {off : Int} {tgt : Nat} (d : mz_d cc pc (.if_icmp .ge off) 3 pc') (ht : (pc : Int) + off = (tgt : Int)) (kt : y ≤ x → mz_G E X nL tgt L st σ) (kf : ¬ y ≤ x → mz_G E X nL pc' L st σ) : mz_G E X nL pc L (.int y :: .int x :: st) σ := by
  obtain ⟨d, rfl⟩ := d
  exact fun κ H locs ls hP hS hl => lv_icmp_ge C.1 C.2.1 d ht (fun h => kt h κ H locs ls hP hS hl) (fun h => kf h κ H locs ls hP hS hl)
theorem mr_icmp_gt (C : mz_C E X cc own nL fr lo) {x y : Int32} {off : Int} {tgt : Nat} (d : mz_d cc pc (.if_icmp .gt off) 3 pc') (ht : (pc : Int) + off = (tgt : Int)) (kt : y < x → mz_G E X nL tgt L st σ) (kf : ¬ y < x → mz_G E X nL pc' L st σ) : mz_G E X nL pc L (.int y :: .int x :: st) σ := by
  obtain ⟨d, rfl⟩ := d
  exact fun κ H locs ls hP hS hl => lv_icmp_gt C.1 C.2.1 d ht (fun h => kt h κ H locs ls hP hS hl) (fun h => kf h κ H locs ls hP hS hl)
theorem mr_icmp_le (C : mz_C E X cc own nL fr lo) {x y : Int32} {off : Int} {tgt : Nat} (d : mz_d cc pc (.if_icmp .le off) 3 pc') (ht : (pc : Int) + off = (tgt : Int)) (kt : x ≤ y → mz_G E X nL tgt L st σ) (kf : ¬ x ≤ y → mz_G E X nL pc' L st σ) : mz_G E X nL pc L (.int y :: .int x :: st) σ := by
  obtain ⟨d, rfl⟩ := d
  exact fun κ H locs ls hP hS hl => lv_icmp_le C.1 C.2.1 d ht (fun h => kt h κ H locs ls hP hS hl) (fun h => kf h κ H locs ls hP hS hl)
theorem mr_goto (C : mz_C E X cc own nL fr lo) {off : Int} {tgt : Nat} (d : mz_d cc pc (.goto off) 3 pc') (ht : (pc : Int) + off = (tgt : Int)) (k : mz_G E X nL tgt L st σ) : mz_G E X nL pc L st σ := by
  obtain ⟨d, rfl⟩ := d
  exact fun κ H locs ls hP hS hl => lv_goto C.1 C.2.1 d ht (k κ H locs ls hP hS hl)
theorem mr_get (C : mz_C E X cc own nL fr lo) {index ci N : Nat} {Cn : String} {T : u_T} {ty : Nat → FieldType} {v : Value} (o k0 : Nat) {fs : List Value} (oc : mz_oc ci Cn T N ty) (lk : Cond.fieldLink own index Cn (T k0).2.1 (T k0).2.2.1 ∈ mz_TB) (hd : (T k0).1 = Cn) (ho : o < mz_NC) (hk : k0 < N) (he : ∀ κ, mz_cel E σ κ o = .inr (ci, fs)) (hv : fs[k0]? = some v) (d : mz_d cc pc (.getfield index) 3 pc') (k : mz_G E X nL pc' L (v :: st) σ) : mz_G E X nL pc L (.ref (E.2.1 o) :: st) σ := by
  obtain ⟨d, rfl⟩ := d
  intro κ H locs ls hP hS hl
  exact va_get C.1 C.2.1 C.2.2.2.2.1 oc.2.1 C.2.2.2.1 C.2.2.2.2.2.2.1 hP o (by rw [mz_ws_get E σ κ ho, he κ]) oc.1 k0 hk (C.2.2.2.2.1 _ lk) (by rw [hd]; exact fun _ h => h) hv d (k κ H locs ls hP hS hl)
theorem mr_put (C : mz_C E X cc own nL fr lo) {index ci N : Nat} {Cn : String} {T : u_T} {ty : Nat → FieldType} {v : Int32} {t0 : FieldType} (o k0 sid : Nat) {fs : List Value} (oc : mz_oc ci Cn T N ty) (lk : Cond.fieldLink own index Cn (T k0).2.1 (T k0).2.2.1 ∈ mz_TB) (hd : (T k0).1 = Cn) (ho : o < mz_NC) (hk : k0 < N) (he : ∀ κ, mz_cel E σ κ o = .inr (ci, fs)) (hf : (T k0).2.2.2 = false) (hty : parseFieldDescriptor (T k0).2.2.1 = some t0) (hn : narrow t0 (.int v) = .int v) (hfit : fits t0 (.int v) = true) (hkl : k0 < fs.length) (h1 : ∀ κ, mz_cel E (mz_up σ sid 0 v) κ o = .inr (ci, fs.set k0 (.int v))) (h2 : ∀ κ j, j < mz_NC → j ≠ o → mz_cel E (mz_up σ sid 0 v) κ j = mz_cel E σ κ j) (d : mz_d cc pc (.putfield index) 3 pc') (k : mz_G E X nL pc' L st (mz_up σ sid 0 v)) : mz_G E X nL pc L (.int v :: .ref (E.2.1 o) :: st) σ := by
  obtain ⟨d, rfl⟩ := d
  intro κ H locs ls hP hS hl
  refine va_put C.1 C.2.1 C.2.2.2.2.1 oc.2.1 ty oc.2.2.1 oc.2.2.2 C.2.2.2.1 C.2.2.2.2.2.2.1 hP (mz_ws_D C.2.2.2.2.2.2.2.1) hS o (by rw [mz_ws_get E σ κ ho, he κ]) oc.1 k0 hk (C.2.2.2.2.1 _ lk) (by rw [hd]; exact fun _ h => h) hf hty hn hfit hkl d (fun H1 locs1 hP1 _ hS1 => ?_)
  rw [mz_ws_set ho (h1 κ) (h2 κ)] at hP1
  exact k κ H1 locs1 ls hP1 hS1 hl
theorem mr_getN (C : mz_C E X cc own nL fr lo) {index ci N : Nat} {Cn : String} {host : String} {T : u_T} {ty : Nat → FieldType} {v : Value} (o k0 : Nat) {fs : List Value} (oc : mz_oc ci Cn T N ty) (lk : Cond.fieldLinkNest own index Cn (T k0).2.1 (T k0).2.2.1 host ∈ mz_NW) (hd : (T k0).1 = Cn) (ho : o < mz_NC) (hk : k0 < N) (he : ∀ κ, mz_cel E σ κ o = .inr (ci, fs)) (hv : fs[k0]? = some v) (d : mz_d cc pc (.getfield index) 3 pc') (k : mz_G E X nL pc' L (v :: st) σ) : mz_G E X nL pc L (.ref (E.2.1 o) :: st) σ := by
  obtain ⟨d, rfl⟩ := d
  intro κ H locs ls hP hS hl
  exact va_getN C.1 C.2.1 C.2.2.2.2.1 oc.2.1 C.2.2.2.1 C.2.2.2.2.2.2.1 hP o (by rw [mz_ws_get E σ κ ho, he κ]) oc.1 k0 hk (va_Nw.use rfl (C.2.2.2.2.2.1 _ lk)) (by rw [hd]; exact fun _ h => h) hv d (k κ H locs ls hP hS hl)
theorem mr_putN (C : mz_C E X cc own nL fr lo) {index ci N : Nat} {Cn : String} {host : String} {T : u_T} {ty : Nat → FieldType} {v : Int32} {t0 : FieldType} (o k0 sid : Nat) {fs : List Value} (oc : mz_oc ci Cn T N ty) (lk : Cond.fieldLinkNest own index Cn (T k0).2.1 (T k0).2.2.1 host ∈ mz_NW) (hd : (T k0).1 = Cn) (ho : o < mz_NC) (hk : k0 < N) (he : ∀ κ, mz_cel E σ κ o = .inr (ci, fs)) (hf : (T k0).2.2.2 = false) (hty : parseFieldDescriptor (T k0).2.2.1 = some t0) (hn : narrow t0 (.int v) = .int v) (hfit : fits t0 (.int v) = true) (hkl : k0 < fs.length) (h1 : ∀ κ, mz_cel E (mz_up σ sid 0 v) κ o = .inr (ci, fs.set k0 (.int v))) (h2 : ∀ κ j, j < mz_NC → j ≠ o → mz_cel E (mz_up σ sid 0 v) κ j = mz_cel E σ κ j) (d : mz_d cc pc (.putfield index) 3 pc') (k : mz_G E X nL pc' L st (mz_up σ sid 0 v)) : mz_G E X nL pc L (.int v :: .ref (E.2.1 o) :: st) σ := by
  obtain ⟨d, rfl⟩ := d
  intro κ H locs ls hP hS hl
  refine va_putN C.1 C.2.1 C.2.2.2.2.1 oc.2.1 ty oc.2.2.1 oc.2.2.2 C.2.2.2.1 C.2.2.2.2.2.2.1 hP (mz_ws_D C.2.2.2.2.2.2.2.1) hS o (by rw [mz_ws_get E σ κ ho, he κ]) oc.1 k0 hk (va_Nw.use rfl (C.2.2.2.2.2.1 _ lk)) (by rw [hd]; exact fun _ h => h) hf hty hn hfit hkl d (fun H1 locs1 hP1 _ hS1 => ?_)
  rw [mz_ws_set ho (h1 κ) (h2 κ)] at hP1
  exact k κ H1 locs1 ls hP1 hS1 hl
theorem mr_iald (C : mz_C E X cc own nL fr lo) (a n : Nat) {i : Int32} (ho : a < mz_NC) (he : ∀ κ, mz_cel E σ κ a = .inl (E.2.2.1, n, .inl (σ a))) (hin : vp_in i n) (d : mz_d cc pc (.iaload) 1 pc') (k : mz_G E X nL pc' L (.int (mz_rd σ a i) :: st) σ) : mz_G E X nL pc L (.int i :: .ref (E.2.1 a) :: st) σ := by
  obtain ⟨d, rfl⟩ := d
  intro κ H locs ls hP hS hl
  exact va_iald C.1 C.2.1 C.2.2.2.2.2.2.1 hP a 0 (by rw [mz_ws_get E σ κ ho, he κ]) rfl hin d (k κ H locs ls hP hS hl)
theorem mr_zald (C : mz_C E X cc own nL fr lo) (a n : Nat) {i : Int32} (ho : a < mz_NC) (he : ∀ κ, mz_cel E σ κ a = .inl (E.2.2.2.2, n, .inl (σ a))) (hin : vp_in i n) (d : mz_d cc pc (.baload) 1 pc') (k : mz_G E X nL pc' L (.int (mz_rd σ a i) :: st) σ) : mz_G E X nL pc L (.int i :: .ref (E.2.1 a) :: st) σ := by
  obtain ⟨d, rfl⟩ := d
  intro κ H locs ls hP hS hl
  exact va_zald C.1 C.2.1 C.2.2.2.2.2.2.1 hP a 2 (by rw [mz_ws_get E σ κ ho, he κ]) rfl hin d (k κ H locs ls hP hS hl)
theorem mr_iast (C : mz_C E X cc own nL fr lo) (a n : Nat) {i x : Int32} (ha : a < 1000) (ho : a < mz_NC) (he : ∀ (σ : mz_St) κ, mz_cel E σ κ a = .inl (E.2.2.1, n, .inl (σ a))) (hin : vp_in i n)  (d : mz_d cc pc (.iastore) 1 pc') (k : mz_G E X nL pc' L st (mz_wr σ a i x)) : mz_G E X nL pc L (.int x :: .int i :: .ref (E.2.1 a) :: st) σ := by
  obtain ⟨d, rfl⟩ := d
  intro κ H locs ls hP hS hl
  refine va_iast C.1 C.2.1 C.2.2.2.2.2.2.1 hP (mz_ws_D C.2.2.2.2.2.2.2.1) hS a 0 (by rw [mz_ws_get E σ κ ho, he σ κ]) rfl hin d (fun H1 locs1 hP1 _ hS1 => ?_)
  rw [mz_ws_set (σ' := mz_wr σ a i x) (κ' := κ) ho (by rw [he]; simp only [mz_wr, mz_up_eq]) (fun j _ hj => mz_cel_up ha hj)] at hP1
  exact k κ H1 locs1 ls hP1 hS1 hl
theorem mr_zast (C : mz_C E X cc own nL fr lo) (a n : Nat) {i x : Int32} (ha : a < 1000) (ho : a < mz_NC) (he : ∀ (σ : mz_St) κ, mz_cel E σ κ a = .inl (E.2.2.2.2, n, .inl (σ a))) (hin : vp_in i n) (hz : x = 0 ∨ x = 1) (d : mz_d cc pc (.bastore) 1 pc') (k : mz_G E X nL pc' L st (mz_wr σ a i x)) : mz_G E X nL pc L (.int x :: .int i :: .ref (E.2.1 a) :: st) σ := by
  obtain ⟨d, rfl⟩ := d
  intro κ H locs ls hP hS hl
  have hx : vp_nar .boolean x = x := by rcases hz with rfl | rfl <;> rfl
  refine va_zast C.1 C.2.1 C.2.2.2.2.2.2.1 hP (mz_ws_D C.2.2.2.2.2.2.2.1) hS a 2 (by rw [mz_ws_get E σ κ ho, he σ κ]) rfl hin d (fun H1 locs1 hP1 _ hS1 => ?_)
  rw [hx] at hP1
  rw [mz_ws_set (σ' := mz_wr σ a i x) (κ' := κ) ho (by rw [he]; simp only [mz_wr, mz_up_eq]) (fun j _ hj => mz_cel_up ha hj)] at hP1
  exact k κ H1 locs1 ls hP1 hS1 hl
theorem mr_lald (C : mz_C E X cc own nL fr lo) {i : Int32} (hin : vp_in i 221) (d : mz_d cc pc (.laload) 1 pc') (k : ∀ v : Int64, mz_G E X nL pc' L (.long v :: st) σ) : mz_G E X nL pc L (.int i :: .ref (E.2.1 41) :: st) σ := by
  obtain ⟨d, rfl⟩ := d
  intro κ H locs ls hP hS hl
  exact va_lald C.1 C.2.1 C.2.2.2.2.2.2.1 hP 41 1 (mz_ws_get E σ κ (by decide)) rfl hin d (k _ κ H locs ls hP hS hl)
theorem mr_last (C : mz_C E X cc own nL fr lo) {i : Int32} {x : Int64} (hin : vp_in i 221) (d : mz_d cc pc (.lastore) 1 pc') (k : mz_G E X nL pc' L st σ) : mz_G E X nL pc L (.long x :: .int i :: .ref (E.2.1 41) :: st) σ := by
  obtain ⟨d, rfl⟩ := d
  intro κ H locs ls hP hS hl
  refine va_last C.1 C.2.1 C.2.2.2.2.2.2.1 hP (mz_ws_D C.2.2.2.2.2.2.2.1) hS 41 1 (mz_ws_get E σ κ (by decide)) rfl hin d (fun H1 locs1 hP1 _ hS1 => ?_)
  have e := mz_ws_set (E := E) (σ := σ) (κ := κ) (k := 41) (e := .inl (E.2.2.2.1, 221, .inr (.inl (vp_updL κ i.toNatClampNeg x)))) (σ' := σ) (κ' := vp_updL κ i.toNatClampNeg x) (by decide) rfl (fun j _ hj => mz_cel_k hj)
  rw [e] at hP1
  exact k _ H1 locs1 ls hP1 hS1 hl
theorem mr_alen (C : mz_C E X cc own nL fr lo) (a t0 n : Nat) {cA : ClassId} {v : Int32} {ty : FieldType} (ho : a < mz_NC) (he : ∀ κ, ∃ f, mz_cel E σ κ a = .inl (cA, n, f)) (ht : (mz_tys E)[t0]? = some (cA, ty)) (hv : Int32.ofNat n = v) (d : mz_d cc pc (.arraylength) 1 pc') (k : mz_G E X nL pc' L (.int v :: st) σ) : mz_G E X nL pc L (.ref (E.2.1 a) :: st) σ := by
  obtain ⟨d, rfl⟩ := d
  intro κ H locs ls hP hS hl
  obtain ⟨f, hf⟩ := he κ
  exact va_alen C.1 C.2.1 C.2.2.2.2.2.2.1 hP a t0 (by rw [mz_ws_get E σ κ ho, hf]) ht hv d (k κ H locs ls hP hS hl)
theorem mr_iret (C : mz_C E X cc own nL fr lo) {K : Int32 → mz_St → Prop} (r : mz_Ri E X .int K) {v : Int32} (h : K v σ) (d : mz_d cc pc (.ireturn) 1 pc') : mz_G E X nL pc L [.int v] σ := by
  obtain ⟨d, rfl⟩ := d
  intro κ H locs ls hP hS hl
  obtain ⟨r1, r2, r3⟩ := r
  unfold mz_W
  rw [r3]
  exact W.iret C.1 C.2.1 r1 (fun t ht hW => ⟨⟨v, σ, rfl, h, mz_Wd.mv hP ht hW C.2.2.2.2.2.2.1 C.2.2.2.2.2.1⟩, hS.F ht⟩) hS.2.2 d r2
theorem mr_zret (C : mz_C E X cc own nL fr lo) {K : Int32 → mz_St → Prop} (r : mz_Ri E X .boolean K) {v : Int32} (hz : v = 0 ∨ v = 1) (h : K v σ) (d : mz_d cc pc (.ireturn) 1 pc') : mz_G E X nL pc L [.int v] σ := by
  obtain ⟨d, rfl⟩ := d
  intro κ H locs ls hP hS hl
  obtain ⟨r1, r2, r3⟩ := r
  unfold mz_W
  rw [r3]
  exact W.zret C.1 C.2.1 r1 (by rcases hz with rfl | rfl <;> rfl) (fun t ht hW => ⟨⟨v, σ, rfl, h, mz_Wd.mv hP ht hW C.2.2.2.2.2.2.1 C.2.2.2.2.2.1⟩, hS.F ht⟩) hS.2.2 d r2
theorem mr_vret (C : mz_C E X cc own nL fr lo) {K : mz_St → Prop} (r : mz_Rv E X K) (h : K σ) (d : mz_d cc pc (.return_) 1 pc') : mz_G E X nL pc L [] σ := by
  obtain ⟨d, rfl⟩ := d
  intro κ H locs ls hP hS hl
  obtain ⟨r1, r2, r3⟩ := r
  unfold mz_W
  rw [r3]
  exact W.vret C.1 C.2.1 r1 (fun t ht hW => ⟨⟨σ, rfl, h, mz_Wd.mv hP ht hW C.2.2.2.2.2.2.1 C.2.2.2.2.2.1⟩, hS.F ht⟩) hS.2.2 d r2
theorem mr_cVi (C : mz_C E X cc own nL fr lo) {index n ci N : Nat} {y : MethodName} {cc2 : ByteArray} {nL2 fr2 lo2 : Nat} {ret : Option FieldType} {As : List Value} {T : u_T} {ty : Nat → FieldType} {K : Int32 → mz_St → Prop} (o : Nat) {fs : List Value} (hM : mz_Ci (mx_l X) E y cc2 nL2 ret fr2 lo2 (.ref (E.2.1 o) :: As) σ K) (ok : mz_ok y cc2 nL2 ret n) (oi : mz_oi y) (oc : mz_oc ci y.cls T N ty) (lk : Cond.methodLink own index y ∈ mz_TB) (ho : o < mz_NC) (he : ∀ κ, mz_cel E σ κ o = .inr (ci, fs)) (hn : As.length = n) (hst : st = As.reverse ++ .ref (E.2.1 o) :: rest) (hw : (rest.map fun v => v.category).sum ≤ 8) (hr1 : fr2 + 1 ≤ fr) (hr2 : 8 + (nL2 + 11) + lo2 ≤ lo) (d : mz_d cc pc (.invokevirtual index) 3 pc') (k : ∀ r u, K r u → mz_G E X nL pc' L (.int r :: rest) u) : mz_G E X nL pc L st σ := by
  obtain ⟨d, rfl⟩ := d
  intro κ H locs ls hP hS hl
  have hcell : ∃ cellB : Cell, H[E.2.1 o]? = some cellB ∧ cellB.vm.isStatics = false ∧ (mx_s X).vm.findClass y.cls = some cellB.cls := by
    obtain ⟨r, h1, cell, q1, q2, q3, -⟩ := hP o _ (by rw [mz_ws_get E σ κ ho, he κ])
    have h2 : mz_CL[ci]? = some r := h1
    rw [oc.1] at h2
    cases Option.some.inj h2
    exact ⟨cell, q1, by rw [q3]; rfl, by rw [q2]; exact (C.2.2.2.2.2.2.1.1 ci _ oc.1).2.1⟩
  refine va_calli (va_runV (As := As) (rest := rest) ⟨C.1, C.2.1, C.2.2.1, C.2.2.2.1, C.2.2.2.2.1⟩ hM ⟨callB_of n C.2.2.2.2.1 (mz_goodIn ok.1) rfl rfl rfl (C.2.2.2.2.1 _ ok.2.1) (C.2.2.2.2.1 _ lk) ⟨ok.2.2.1.1, ok.2.2.1.2, ok.2.2.2⟩ ⟨Nat.le_trans hr1 C.2.2.2.2.2.2.2.2.1.1, Nat.le_trans hr2 C.2.2.2.2.2.2.2.2.1.2⟩, C.2.2.2.2.1 _ oi.1, C.2.2.2.2.1 _ oi.2⟩ ⟨mz_blind, hcell, fun U hU hW => ⟨rfl, mz_Wd.mv hP hU hW C.2.2.2.2.2.2.1 C.2.2.2.2.2.1⟩⟩ rfl hn hl.1 hst (lv_room hw) d ⟨C.2.2.2.2.2.2.2.2.2.1, C.2.2.2.2.2.2.2.2.2.2⟩) hS (fun q _ h => h) (fun q h => h) (fun r u t H1 locs1 ht hvm hKr hB hz1 hk1 hS1 => ?_)
  obtain ⟨⟨κ1, hP1⟩, -, -⟩ := hB
  rw [ht] at hP1
  exact k r u hKr κ1 H1 locs1 ls hP1 hS1 hl
theorem mr_cSi (C : mz_C E X cc own nL fr lo) {index n : Nat} {y : MethodName} {cc2 : ByteArray} {nL2 fr2 lo2 : Nat} {ret : Option FieldType} {As : List Value} {K : Int32 → mz_St → Prop} (hM : mz_Ci (mx_l X) E y cc2 nL2 ret fr2 lo2 (As) σ K) (ok : mz_ok y cc2 nL2 ret n) (os : Cond.static y ∈ mz_TB) (lk : Cond.methodLink own index y ∈ mz_TB) (hn : As.length = n) (hst : st = As.reverse ++ rest) (hw : (rest.map fun v => v.category).sum ≤ 8) (hr1 : fr2 + 1 ≤ fr) (hr2 : 8 + (nL2 + 11) + lo2 ≤ lo) (d : mz_d cc pc (.invokestatic index) 3 pc') (k : ∀ r u, K r u → mz_G E X nL pc' L (.int r :: rest) u) : mz_G E X nL pc L st σ := by
  obtain ⟨d, rfl⟩ := d
  intro κ H locs ls hP hS hl
  refine va_calli (va_runS (As := As) (rest := rest) ⟨C.1, C.2.1, C.2.2.1, C.2.2.2.1, C.2.2.2.2.1⟩ hM ⟨callB_of n C.2.2.2.2.1 (mz_goodIn ok.1) rfl rfl rfl (C.2.2.2.2.1 _ ok.2.1) (C.2.2.2.2.1 _ lk) ⟨ok.2.2.1.1, ok.2.2.1.2, ok.2.2.2⟩ ⟨Nat.le_trans hr1 C.2.2.2.2.2.2.2.2.1.1, Nat.le_trans hr2 C.2.2.2.2.2.2.2.2.1.2⟩, C.2.2.2.2.1 _ os⟩ ⟨mz_blind, fun U hU hW => ⟨rfl, mz_Wd.mv hP hU hW C.2.2.2.2.2.2.1 C.2.2.2.2.2.1⟩⟩ rfl hn hl.1 hst (lv_room hw) d ⟨C.2.2.2.2.2.2.2.2.2.1, C.2.2.2.2.2.2.2.2.2.2⟩) hS (fun q _ h => h) (fun q h => h) (fun r u t H1 locs1 ht hvm hKr hB hz1 hk1 hS1 => ?_)
  obtain ⟨⟨κ1, hP1⟩, -, -⟩ := hB
  rw [ht] at hP1
  exact k r u hKr κ1 H1 locs1 ls hP1 hS1 hl
theorem mr_cVNi (C : mz_C E X cc own nL fr lo) {index n ci N : Nat} {host : String} {y : MethodName} {cc2 : ByteArray} {nL2 fr2 lo2 : Nat} {ret : Option FieldType} {As : List Value} {T : u_T} {ty : Nat → FieldType} {K : Int32 → mz_St → Prop} (o : Nat) {fs : List Value} (hM : mz_Ci (mx_l X) E y cc2 nL2 ret fr2 lo2 (.ref (E.2.1 o) :: As) σ K) (ok : mz_ok y cc2 nL2 ret n) (oi : mz_oi y) (oc : mz_oc ci y.cls T N ty) (lk : Cond.methodLinkNest own index y host ∈ mz_NW) (ho : o < mz_NC) (he : ∀ κ, mz_cel E σ κ o = .inr (ci, fs)) (hn : As.length = n) (hst : st = As.reverse ++ .ref (E.2.1 o) :: rest) (hw : (rest.map fun v => v.category).sum ≤ 8) (hr1 : fr2 + 1 ≤ fr) (hr2 : 8 + (nL2 + 11) + lo2 ≤ lo) (d : mz_d cc pc (.invokevirtual index) 3 pc') (k : ∀ r u, K r u → mz_G E X nL pc' L (.int r :: rest) u) : mz_G E X nL pc L st σ := by
  obtain ⟨d, rfl⟩ := d
  intro κ H locs ls hP hS hl
  have hcell : ∃ cellB : Cell, H[E.2.1 o]? = some cellB ∧ cellB.vm.isStatics = false ∧ (mx_s X).vm.findClass y.cls = some cellB.cls := by
    obtain ⟨r, h1, cell, q1, q2, q3, -⟩ := hP o _ (by rw [mz_ws_get E σ κ ho, he κ])
    have h2 : mz_CL[ci]? = some r := h1
    rw [oc.1] at h2
    cases Option.some.inj h2
    exact ⟨cell, q1, by rw [q3]; rfl, by rw [q2]; exact (C.2.2.2.2.2.2.1.1 ci _ oc.1).2.1⟩
  refine va_calli (va_runVN (As := As) (rest := rest) ⟨C.1, C.2.1, C.2.2.1, C.2.2.2.1, C.2.2.2.2.1⟩ hM ⟨va_cnB n C.2.2.2.2.1 (mz_goodIn ok.1) rfl rfl rfl (C.2.2.2.2.2.1 _ lk) (C.2.2.2.2.1 _ ok.2.1) ⟨ok.2.2.1.1, ok.2.2.1.2, ok.2.2.2⟩ ⟨Nat.le_trans hr1 C.2.2.2.2.2.2.2.2.1.1, Nat.le_trans hr2 C.2.2.2.2.2.2.2.2.1.2⟩, C.2.2.2.2.1 _ oi.1, C.2.2.2.2.1 _ oi.2⟩ ⟨mz_blind, hcell, fun U hU hW => ⟨rfl, mz_Wd.mv hP hU hW C.2.2.2.2.2.2.1 C.2.2.2.2.2.1⟩⟩ rfl hn hl.1 hst (lv_room hw) d ⟨C.2.2.2.2.2.2.2.2.2.1, C.2.2.2.2.2.2.2.2.2.2⟩) hS (fun q _ h => h) (fun q h => h) (fun r u t H1 locs1 ht hvm hKr hB hz1 hk1 hS1 => ?_)
  obtain ⟨⟨κ1, hP1⟩, -, -⟩ := hB
  rw [ht] at hP1
  exact k r u hKr κ1 H1 locs1 ls hP1 hS1 hl
theorem mr_cSNi (C : mz_C E X cc own nL fr lo) {index n : Nat} {host : String} {y : MethodName} {cc2 : ByteArray} {nL2 fr2 lo2 : Nat} {ret : Option FieldType} {As : List Value} {K : Int32 → mz_St → Prop} (hM : mz_Ci (mx_l X) E y cc2 nL2 ret fr2 lo2 (As) σ K) (ok : mz_ok y cc2 nL2 ret n) (os : Cond.static y ∈ mz_TB) (lk : Cond.methodLinkNest own index y host ∈ mz_NW) (hn : As.length = n) (hst : st = As.reverse ++ rest) (hw : (rest.map fun v => v.category).sum ≤ 8) (hr1 : fr2 + 1 ≤ fr) (hr2 : 8 + (nL2 + 11) + lo2 ≤ lo) (d : mz_d cc pc (.invokestatic index) 3 pc') (k : ∀ r u, K r u → mz_G E X nL pc' L (.int r :: rest) u) : mz_G E X nL pc L st σ := by
  obtain ⟨d, rfl⟩ := d
  intro κ H locs ls hP hS hl
  refine va_calli (va_runSN (As := As) (rest := rest) ⟨C.1, C.2.1, C.2.2.1, C.2.2.2.1, C.2.2.2.2.1⟩ hM ⟨va_cnB n C.2.2.2.2.1 (mz_goodIn ok.1) rfl rfl rfl (C.2.2.2.2.2.1 _ lk) (C.2.2.2.2.1 _ ok.2.1) ⟨ok.2.2.1.1, ok.2.2.1.2, ok.2.2.2⟩ ⟨Nat.le_trans hr1 C.2.2.2.2.2.2.2.2.1.1, Nat.le_trans hr2 C.2.2.2.2.2.2.2.2.1.2⟩, C.2.2.2.2.1 _ os, trivial⟩ ⟨mz_blind, fun U hU hW => ⟨rfl, mz_Wd.mv hP hU hW C.2.2.2.2.2.2.1 C.2.2.2.2.2.1⟩⟩ rfl hn hl.1 hst (lv_room hw) d ⟨C.2.2.2.2.2.2.2.2.2.1, C.2.2.2.2.2.2.2.2.2.2⟩) hS (fun q _ h => h) (fun q h => h) (fun r u t H1 locs1 ht hvm hKr hB hz1 hk1 hS1 => ?_)
  obtain ⟨⟨κ1, hP1⟩, -, -⟩ := hB
  rw [ht] at hP1
  exact k r u hKr κ1 H1 locs1 ls hP1 hS1 hl
theorem mr_cVv (C : mz_C E X cc own nL fr lo) {index n ci N : Nat} {y : MethodName} {cc2 : ByteArray} {nL2 fr2 lo2 : Nat} {As : List Value} {T : u_T} {ty : Nat → FieldType} {K : mz_St → Prop} (o : Nat) {fs : List Value} (hM : mz_Cv (mx_l X) E y cc2 nL2 fr2 lo2 (.ref (E.2.1 o) :: As) σ K) (ok : mz_ok y cc2 nL2 none n) (oi : mz_oi y) (oc : mz_oc ci y.cls T N ty) (lk : Cond.methodLink own index y ∈ mz_TB) (ho : o < mz_NC) (he : ∀ κ, mz_cel E σ κ o = .inr (ci, fs)) (hn : As.length = n) (hst : st = As.reverse ++ .ref (E.2.1 o) :: rest) (hw : (rest.map fun v => v.category).sum ≤ 8) (hr1 : fr2 + 1 ≤ fr) (hr2 : 8 + (nL2 + 11) + lo2 ≤ lo) (d : mz_d cc pc (.invokevirtual index) 3 pc') (k : ∀ u, K u → mz_G E X nL pc' L rest u) : mz_G E X nL pc L st σ := by
  obtain ⟨d, rfl⟩ := d
  intro κ H locs ls hP hS hl
  have hcell : ∃ cellB : Cell, H[E.2.1 o]? = some cellB ∧ cellB.vm.isStatics = false ∧ (mx_s X).vm.findClass y.cls = some cellB.cls := by
    obtain ⟨r, h1, cell, q1, q2, q3, -⟩ := hP o _ (by rw [mz_ws_get E σ κ ho, he κ])
    have h2 : mz_CL[ci]? = some r := h1
    rw [oc.1] at h2
    cases Option.some.inj h2
    exact ⟨cell, q1, by rw [q3]; rfl, by rw [q2]; exact (C.2.2.2.2.2.2.1.1 ci _ oc.1).2.1⟩
  refine va_callv (va_runV (As := As) (rest := rest) ⟨C.1, C.2.1, C.2.2.1, C.2.2.2.1, C.2.2.2.2.1⟩ hM ⟨callB_of n C.2.2.2.2.1 (mz_goodIn ok.1) rfl rfl rfl (C.2.2.2.2.1 _ ok.2.1) (C.2.2.2.2.1 _ lk) ⟨ok.2.2.1.1, ok.2.2.1.2, ok.2.2.2⟩ ⟨Nat.le_trans hr1 C.2.2.2.2.2.2.2.2.1.1, Nat.le_trans hr2 C.2.2.2.2.2.2.2.2.1.2⟩, C.2.2.2.2.1 _ oi.1, C.2.2.2.2.1 _ oi.2⟩ ⟨mz_blind, hcell, fun U hU hW => ⟨rfl, mz_Wd.mv hP hU hW C.2.2.2.2.2.2.1 C.2.2.2.2.2.1⟩⟩ rfl hn hl.1 hst (lv_room hw) d ⟨C.2.2.2.2.2.2.2.2.2.1, C.2.2.2.2.2.2.2.2.2.2⟩) hS (fun q _ h => h) (fun q h => h) (fun u t H1 locs1 ht hvm hKr hB hz1 hk1 hS1 => ?_)
  obtain ⟨⟨κ1, hP1⟩, -, -⟩ := hB
  rw [ht] at hP1
  exact k u hKr κ1 H1 locs1 ls hP1 hS1 hl
theorem mr_cSv (C : mz_C E X cc own nL fr lo) {index n : Nat} {y : MethodName} {cc2 : ByteArray} {nL2 fr2 lo2 : Nat} {As : List Value} {K : mz_St → Prop} (hM : mz_Cv (mx_l X) E y cc2 nL2 fr2 lo2 (As) σ K) (ok : mz_ok y cc2 nL2 none n) (os : Cond.static y ∈ mz_TB) (lk : Cond.methodLink own index y ∈ mz_TB) (hn : As.length = n) (hst : st = As.reverse ++ rest) (hw : (rest.map fun v => v.category).sum ≤ 8) (hr1 : fr2 + 1 ≤ fr) (hr2 : 8 + (nL2 + 11) + lo2 ≤ lo) (d : mz_d cc pc (.invokestatic index) 3 pc') (k : ∀ u, K u → mz_G E X nL pc' L rest u) : mz_G E X nL pc L st σ := by
  obtain ⟨d, rfl⟩ := d
  intro κ H locs ls hP hS hl
  refine va_callv (va_runS (As := As) (rest := rest) ⟨C.1, C.2.1, C.2.2.1, C.2.2.2.1, C.2.2.2.2.1⟩ hM ⟨callB_of n C.2.2.2.2.1 (mz_goodIn ok.1) rfl rfl rfl (C.2.2.2.2.1 _ ok.2.1) (C.2.2.2.2.1 _ lk) ⟨ok.2.2.1.1, ok.2.2.1.2, ok.2.2.2⟩ ⟨Nat.le_trans hr1 C.2.2.2.2.2.2.2.2.1.1, Nat.le_trans hr2 C.2.2.2.2.2.2.2.2.1.2⟩, C.2.2.2.2.1 _ os⟩ ⟨mz_blind, fun U hU hW => ⟨rfl, mz_Wd.mv hP hU hW C.2.2.2.2.2.2.1 C.2.2.2.2.2.1⟩⟩ rfl hn hl.1 hst (lv_room hw) d ⟨C.2.2.2.2.2.2.2.2.2.1, C.2.2.2.2.2.2.2.2.2.2⟩) hS (fun q _ h => h) (fun q h => h) (fun u t H1 locs1 ht hvm hKr hB hz1 hk1 hS1 => ?_)
  obtain ⟨⟨κ1, hP1⟩, -, -⟩ := hB
  rw [ht] at hP1
  exact k u hKr κ1 H1 locs1 ls hP1 hS1 hl
theorem mr_cVNv (C : mz_C E X cc own nL fr lo) {index n ci N : Nat} {host : String} {y : MethodName} {cc2 : ByteArray} {nL2 fr2 lo2 : Nat} {As : List Value} {T : u_T} {ty : Nat → FieldType} {K : mz_St → Prop} (o : Nat) {fs : List Value} (hM : mz_Cv (mx_l X) E y cc2 nL2 fr2 lo2 (.ref (E.2.1 o) :: As) σ K) (ok : mz_ok y cc2 nL2 none n) (oi : mz_oi y) (oc : mz_oc ci y.cls T N ty) (lk : Cond.methodLinkNest own index y host ∈ mz_NW) (ho : o < mz_NC) (he : ∀ κ, mz_cel E σ κ o = .inr (ci, fs)) (hn : As.length = n) (hst : st = As.reverse ++ .ref (E.2.1 o) :: rest) (hw : (rest.map fun v => v.category).sum ≤ 8) (hr1 : fr2 + 1 ≤ fr) (hr2 : 8 + (nL2 + 11) + lo2 ≤ lo) (d : mz_d cc pc (.invokevirtual index) 3 pc') (k : ∀ u, K u → mz_G E X nL pc' L rest u) : mz_G E X nL pc L st σ := by
  obtain ⟨d, rfl⟩ := d
  intro κ H locs ls hP hS hl
  have hcell : ∃ cellB : Cell, H[E.2.1 o]? = some cellB ∧ cellB.vm.isStatics = false ∧ (mx_s X).vm.findClass y.cls = some cellB.cls := by
    obtain ⟨r, h1, cell, q1, q2, q3, -⟩ := hP o _ (by rw [mz_ws_get E σ κ ho, he κ])
    have h2 : mz_CL[ci]? = some r := h1
    rw [oc.1] at h2
    cases Option.some.inj h2
    exact ⟨cell, q1, by rw [q3]; rfl, by rw [q2]; exact (C.2.2.2.2.2.2.1.1 ci _ oc.1).2.1⟩
  refine va_callv (va_runVN (As := As) (rest := rest) ⟨C.1, C.2.1, C.2.2.1, C.2.2.2.1, C.2.2.2.2.1⟩ hM ⟨va_cnB n C.2.2.2.2.1 (mz_goodIn ok.1) rfl rfl rfl (C.2.2.2.2.2.1 _ lk) (C.2.2.2.2.1 _ ok.2.1) ⟨ok.2.2.1.1, ok.2.2.1.2, ok.2.2.2⟩ ⟨Nat.le_trans hr1 C.2.2.2.2.2.2.2.2.1.1, Nat.le_trans hr2 C.2.2.2.2.2.2.2.2.1.2⟩, C.2.2.2.2.1 _ oi.1, C.2.2.2.2.1 _ oi.2⟩ ⟨mz_blind, hcell, fun U hU hW => ⟨rfl, mz_Wd.mv hP hU hW C.2.2.2.2.2.2.1 C.2.2.2.2.2.1⟩⟩ rfl hn hl.1 hst (lv_room hw) d ⟨C.2.2.2.2.2.2.2.2.2.1, C.2.2.2.2.2.2.2.2.2.2⟩) hS (fun q _ h => h) (fun q h => h) (fun u t H1 locs1 ht hvm hKr hB hz1 hk1 hS1 => ?_)
  obtain ⟨⟨κ1, hP1⟩, -, -⟩ := hB
  rw [ht] at hP1
  exact k u hKr κ1 H1 locs1 ls hP1 hS1 hl
theorem mr_cSNv (C : mz_C E X cc own nL fr lo) {index n : Nat} {host : String} {y : MethodName} {cc2 : ByteArray} {nL2 fr2 lo2 : Nat} {As : List Value} {K : mz_St → Prop} (hM : mz_Cv (mx_l X) E y cc2 nL2 fr2 lo2 (As) σ K) (ok : mz_ok y cc2 nL2 none n) (os : Cond.static y ∈ mz_TB) (lk : Cond.methodLinkNest own index y host ∈ mz_NW) (hn : As.length = n) (hst : st = As.reverse ++ rest) (hw : (rest.map fun v => v.category).sum ≤ 8) (hr1 : fr2 + 1 ≤ fr) (hr2 : 8 + (nL2 + 11) + lo2 ≤ lo) (d : mz_d cc pc (.invokestatic index) 3 pc') (k : ∀ u, K u → mz_G E X nL pc' L rest u) : mz_G E X nL pc L st σ := by
  obtain ⟨d, rfl⟩ := d
  intro κ H locs ls hP hS hl
  refine va_callv (va_runSN (As := As) (rest := rest) ⟨C.1, C.2.1, C.2.2.1, C.2.2.2.1, C.2.2.2.2.1⟩ hM ⟨va_cnB n C.2.2.2.2.1 (mz_goodIn ok.1) rfl rfl rfl (C.2.2.2.2.2.1 _ lk) (C.2.2.2.2.1 _ ok.2.1) ⟨ok.2.2.1.1, ok.2.2.1.2, ok.2.2.2⟩ ⟨Nat.le_trans hr1 C.2.2.2.2.2.2.2.2.1.1, Nat.le_trans hr2 C.2.2.2.2.2.2.2.2.1.2⟩, C.2.2.2.2.1 _ os, trivial⟩ ⟨mz_blind, fun U hU hW => ⟨rfl, mz_Wd.mv hP hU hW C.2.2.2.2.2.2.1 C.2.2.2.2.2.1⟩⟩ rfl hn hl.1 hst (lv_room hw) d ⟨C.2.2.2.2.2.2.2.2.2.1, C.2.2.2.2.2.2.2.2.2.2⟩) hS (fun q _ h => h) (fun q h => h) (fun u t H1 locs1 ht hvm hKr hB hz1 hk1 hS1 => ?_)
  obtain ⟨⟨κ1, hP1⟩, -, -⟩ := hB
  rw [ht] at hP1
  exact k u hKr κ1 H1 locs1 ls hP1 hS1 hl
theorem mr_tabIn (C : mz_C E X cc own nL fr lo) {dflt lo2 hi : Int} {offs : Array Int} {len : Nat} {x : Int32} (c : Int32) (off : Int) {tgt : Nat} (hx : x = c) (d : mz_d cc pc (.tableswitch dflt lo2 hi offs) len pc') (h1 : ¬ c.toInt < lo2) (h2 : ¬ hi < c.toInt) (ho : offs[(c.toInt - lo2).toNat]? = some off) (ht : (pc : Int) + off = (tgt : Int)) (k : mz_G E X nL tgt L st σ) : mz_G E X nL pc L (.int x :: st) σ := by
  obtain ⟨d, rfl⟩ := d
  subst hx
  exact fun κ H locs ls hP hS hl => lv_tableIn C.1 C.2.1 d h1 h2 ho ht (k κ H locs ls hP hS hl)
theorem mr_tabOut (C : mz_C E X cc own nL fr lo) {dflt lo2 hi : Int} {offs : Array Int} {len : Nat} {x : Int32} {tgt : Nat} (h : x.toInt < lo2 ∨ hi < x.toInt) (d : mz_d cc pc (.tableswitch dflt lo2 hi offs) len pc') (ht : (pc : Int) + dflt = (tgt : Int)) (k : mz_G E X nL tgt L st σ) : mz_G E X nL pc L (.int x :: st) σ := by
  obtain ⟨d, rfl⟩ := d
  exact fun κ H locs ls hP hS hl => lv_tableOut C.1 C.2.1 d h ht (k κ H locs ls hP hS hl)
theorem mr_look (C : mz_C E X cc own nL fr lo) {dflt : Int} {ps : Array (Int × Int)} {len : Nat} {x : Int32} (off : Int) {tgt : Nat} (d : mz_d cc pc (.lookupswitch dflt ps) len pc') (hp : (ps.toList.zip (ps.toList.drop 1)).all (fun (a, next) => a.1 < next.1) = true) (ho : Op.lookupswitch.offset ps.toList dflt x.toInt = off) (ht : (pc : Int) + off = (tgt : Int)) (k : mz_G E X nL tgt L st σ) : mz_G E X nL pc L (.int x :: st) σ := by
  obtain ⟨d, rfl⟩ := d
  exact fun κ H locs ls hP hS hl => lv_lookup C.1 C.2.1 d hp ho ht (k κ H locs ls hP hS hl)
end MR
theorem mj {A B : Prop} (a : A) (f : A → B) : B := f a
end
section
/-! BEGIN names and words, printed by wip/gen/names.py -/
theorem mk_inc {x v : Int32} {n : Int} (h : Int32.ofInt n = v) : x + Int32.ofInt n = x + v := by rw [h]
theorem mb_0 : (0 : Int32) = 0 ∨ (0 : Int32) = 1 := Or.inl rfl
theorem mb_1 : (1 : Int32) = 0 ∨ (1 : Int32) = 1 := Or.inr rfl
theorem mb_nar {v : Int32} (h : v = 0 ∨ v = 1) : narrow .boolean (.int v) = .int v := by rcases h with rfl | rfl <;> rfl
theorem mb_fit {v : Int32} (h : v = 0 ∨ v = 1) : fits .boolean (.int v) = true := by rcases h with rfl | rfl <;> rfl
theorem mz_oc_of {ci : Nat} {C : String} {T : u_T} {N : Nat} {ty : Nat → FieldType} (h0 : mz_CL[ci]? = some (C, T, N)) (ix : List Nat) (h : ∀ k, k < N → lw_tbl[ix.getD k 0]? = some (u_lay C T k) ∧ goodWord (u_lay C T k) = true) (h1 : ∀ k, k < N → parseFieldDescriptor (T k).2.2.1 = some (ty k)) (h2 : ∀ a, a < N → ∀ b, b < N → a ≠ b → (T a).2.1 ≠ (T b).2.1) : mz_oc ci C T N ty := by
  refine ⟨h0, fun w hw => ?_, h1, h2⟩
  obtain ⟨k, hk, rfl⟩ := List.mem_map.mp hw
  obtain ⟨a, b⟩ := h k (List.mem_range.mp hk)
  exact mz_in a b
theorem mc_Mill_cls : mz_oc 0 mz_RMill mz_TMill 12 mz_yMill := mz_oc_of rfl [545, 547, 549, 551, 553, 555, 557, 559, 561, 563, 565, 567] (by decide +kernel) mz_kMill mz_nMill
theorem mc_Program_cls : mz_oc 1 mz_RProgram mz_TProgram 11 mz_yProgram := mz_oc_of rfl [173, 175, 177, 179, 181, 183, 185, 187, 189, 191, 193] (by decide +kernel) mz_kProgram mz_nProgram
theorem mc_Flow_cls : mz_oc 2 mz_RFlow mz_TFlow 11 mz_yFlow := mz_oc_of rfl [232, 234, 236, 238, 240, 242, 244, 246, 248, 250, 252] (by decide +kernel) mz_kFlow mz_nFlow
theorem mc_Lives_cls : mz_oc 3 mz_RLives mz_TLives 6 mz_yLives := mz_oc_of rfl [272, 274, 276, 278, 280, 282] (by decide +kernel) mz_kLives mz_nLives
theorem mc_Names_cls : mz_oc 4 mz_RNames mz_TNames 7 mz_yNames := mz_oc_of rfl [306, 308, 310, 312, 314, 316, 318] (by decide +kernel) mz_kNames mz_nNames
theorem mc_Stands_cls : mz_oc 5 mz_RStands mz_TStands 7 mz_yStands := mz_oc_of rfl [336, 338, 340, 342, 344, 346, 348] (by decide +kernel) mz_kStands mz_nStands
theorem mc_Homes_cls : mz_oc 6 mz_RHomes mz_THomes 14 mz_yHomes := mz_oc_of rfl [374, 376, 378, 380, 382, 384, 386, 388, 390, 392, 394, 396, 398, 400] (by decide +kernel) mz_kHomes mz_nHomes
theorem mc_Code_cls : mz_oc 7 mz_RCode mz_TCode 10 mz_yCode := mz_oc_of rfl [429, 431, 433, 435, 437, 439, 441, 443, 445, 447] (by decide +kernel) mz_kCode mz_nCode
theorem mc_Moves_cls : mz_oc 8 mz_RMoves mz_TMoves 6 mz_yMoves := mz_oc_of rfl [469, 471, 473, 475, 477, 479] (by decide +kernel) mz_kMoves mz_nMoves
theorem mc_Writer_cls : mz_oc 9 mz_RWriter mz_TWriter 7 mz_yWriter := mz_oc_of rfl [489, 491, 493, 495, 497, 499, 501] (by decide +kernel) mz_kWriter mz_nWriter
theorem mc_Machine_cls : mz_oc 10 mz_RMachine mz_TMachine 6 mz_yMachine := mz_oc_of rfl [520, 522, 524, 526, 528, 530] (by decide +kernel) mz_kMachine mz_nMachine
theorem mc_Ref_cls : mz_oc 11 mz_RRef mz_TRef 18 mz_yRef := mz_oc_of rfl [1138, 1140, 1142, 1144, 1146, 1148, 1150, 1152, 1154, 1156, 1158, 1160, 1162, 1164, 1166, 1168, 1170, 1172] (by decide +kernel) mz_kRef mz_nRef
theorem mp_1000 (E : mz_En) (σ : mz_St) {v : Int32} : ∀ (κ : Nat → Int64) (j : Nat), j < mz_NC → j ≠ 0 → mz_cel E (mz_up σ 1000 0 v) κ j = mz_cel E σ κ j := by
  intro κ j hj hn
  have hj : j < 73 := hj
  unfold mz_cel
  split <;> first | rfl | exact absurd rfl hn | (rw [mz_up_ne (by omega)])
theorem mp_1001 (E : mz_En) (σ : mz_St) {v : Int32} : ∀ (κ : Nat → Int64) (j : Nat), j < mz_NC → j ≠ 0 → mz_cel E (mz_up σ 1001 0 v) κ j = mz_cel E σ κ j := by
  intro κ j hj hn
  have hj : j < 73 := hj
  unfold mz_cel
  split <;> first | rfl | exact absurd rfl hn | (rw [mz_up_ne (by omega)])
theorem mp_1002 (E : mz_En) (σ : mz_St) {v : Int32} : ∀ (κ : Nat → Int64) (j : Nat), j < mz_NC → j ≠ 0 → mz_cel E (mz_up σ 1002 0 v) κ j = mz_cel E σ κ j := by
  intro κ j hj hn
  have hj : j < 73 := hj
  unfold mz_cel
  split <;> first | rfl | exact absurd rfl hn | (rw [mz_up_ne (by omega)])
theorem mp_1003 (E : mz_En) (σ : mz_St) {v : Int32} : ∀ (κ : Nat → Int64) (j : Nat), j < mz_NC → j ≠ 1 → mz_cel E (mz_up σ 1003 0 v) κ j = mz_cel E σ κ j := by
  intro κ j hj hn
  have hj : j < 73 := hj
  unfold mz_cel
  split <;> first | rfl | exact absurd rfl hn | (rw [mz_up_ne (by omega)])
theorem mp_1004 (E : mz_En) (σ : mz_St) {v : Int32} : ∀ (κ : Nat → Int64) (j : Nat), j < mz_NC → j ≠ 2 → mz_cel E (mz_up σ 1004 0 v) κ j = mz_cel E σ κ j := by
  intro κ j hj hn
  have hj : j < 73 := hj
  unfold mz_cel
  split <;> first | rfl | exact absurd rfl hn | (rw [mz_up_ne (by omega)])
theorem mp_1005 (E : mz_En) (σ : mz_St) {v : Int32} : ∀ (κ : Nat → Int64) (j : Nat), j < mz_NC → j ≠ 2 → mz_cel E (mz_up σ 1005 0 v) κ j = mz_cel E σ κ j := by
  intro κ j hj hn
  have hj : j < 73 := hj
  unfold mz_cel
  split <;> first | rfl | exact absurd rfl hn | (rw [mz_up_ne (by omega)])
theorem mp_1006 (E : mz_En) (σ : mz_St) {v : Int32} : ∀ (κ : Nat → Int64) (j : Nat), j < mz_NC → j ≠ 2 → mz_cel E (mz_up σ 1006 0 v) κ j = mz_cel E σ κ j := by
  intro κ j hj hn
  have hj : j < 73 := hj
  unfold mz_cel
  split <;> first | rfl | exact absurd rfl hn | (rw [mz_up_ne (by omega)])
theorem mp_1007 (E : mz_En) (σ : mz_St) {v : Int32} : ∀ (κ : Nat → Int64) (j : Nat), j < mz_NC → j ≠ 6 → mz_cel E (mz_up σ 1007 0 v) κ j = mz_cel E σ κ j := by
  intro κ j hj hn
  have hj : j < 73 := hj
  unfold mz_cel
  split <;> first | rfl | exact absurd rfl hn | (rw [mz_up_ne (by omega)])
theorem mp_1008 (E : mz_En) (σ : mz_St) {v : Int32} : ∀ (κ : Nat → Int64) (j : Nat), j < mz_NC → j ≠ 6 → mz_cel E (mz_up σ 1008 0 v) κ j = mz_cel E σ κ j := by
  intro κ j hj hn
  have hj : j < 73 := hj
  unfold mz_cel
  split <;> first | rfl | exact absurd rfl hn | (rw [mz_up_ne (by omega)])
theorem mp_1009 (E : mz_En) (σ : mz_St) {v : Int32} : ∀ (κ : Nat → Int64) (j : Nat), j < mz_NC → j ≠ 6 → mz_cel E (mz_up σ 1009 0 v) κ j = mz_cel E σ κ j := by
  intro κ j hj hn
  have hj : j < 73 := hj
  unfold mz_cel
  split <;> first | rfl | exact absurd rfl hn | (rw [mz_up_ne (by omega)])
theorem mp_1010 (E : mz_En) (σ : mz_St) {v : Int32} : ∀ (κ : Nat → Int64) (j : Nat), j < mz_NC → j ≠ 6 → mz_cel E (mz_up σ 1010 0 v) κ j = mz_cel E σ κ j := by
  intro κ j hj hn
  have hj : j < 73 := hj
  unfold mz_cel
  split <;> first | rfl | exact absurd rfl hn | (rw [mz_up_ne (by omega)])
theorem mp_1011 (E : mz_En) (σ : mz_St) {v : Int32} : ∀ (κ : Nat → Int64) (j : Nat), j < mz_NC → j ≠ 7 → mz_cel E (mz_up σ 1011 0 v) κ j = mz_cel E σ κ j := by
  intro κ j hj hn
  have hj : j < 73 := hj
  unfold mz_cel
  split <;> first | rfl | exact absurd rfl hn | (rw [mz_up_ne (by omega)])
theorem mp_1012 (E : mz_En) (σ : mz_St) {v : Int32} : ∀ (κ : Nat → Int64) (j : Nat), j < mz_NC → j ≠ 8 → mz_cel E (mz_up σ 1012 0 v) κ j = mz_cel E σ κ j := by
  intro κ j hj hn
  have hj : j < 73 := hj
  unfold mz_cel
  split <;> first | rfl | exact absurd rfl hn | (rw [mz_up_ne (by omega)])
theorem mp_1013 (E : mz_En) (σ : mz_St) {v : Int32} : ∀ (κ : Nat → Int64) (j : Nat), j < mz_NC → j ≠ 10 → mz_cel E (mz_up σ 1013 0 v) κ j = mz_cel E σ κ j := by
  intro κ j hj hn
  have hj : j < 73 := hj
  unfold mz_cel
  split <;> first | rfl | exact absurd rfl hn | (rw [mz_up_ne (by omega)])
theorem mp_1014 (E : mz_En) (σ : mz_St) {v : Int32} : ∀ (κ : Nat → Int64) (j : Nat), j < mz_NC → j ≠ 10 → mz_cel E (mz_up σ 1014 0 v) κ j = mz_cel E σ κ j := by
  intro κ j hj hn
  have hj : j < 73 := hj
  unfold mz_cel
  split <;> first | rfl | exact absurd rfl hn | (rw [mz_up_ne (by omega)])
theorem mp_1015 (E : mz_En) (σ : mz_St) {v : Int32} : ∀ (κ : Nat → Int64) (j : Nat), j < mz_NC → j ≠ 10 → mz_cel E (mz_up σ 1015 0 v) κ j = mz_cel E σ κ j := by
  intro κ j hj hn
  have hj : j < 73 := hj
  unfold mz_cel
  split <;> first | rfl | exact absurd rfl hn | (rw [mz_up_ne (by omega)])
theorem mp_1016 (E : mz_En) (σ : mz_St) {v : Int32} : ∀ (κ : Nat → Int64) (j : Nat), j < mz_NC → j ≠ 11 → mz_cel E (mz_up σ 1016 0 v) κ j = mz_cel E σ κ j := by
  intro κ j hj hn
  have hj : j < 73 := hj
  unfold mz_cel
  split <;> first | rfl | exact absurd rfl hn | (rw [mz_up_ne (by omega)])
theorem mp_1017 (E : mz_En) (σ : mz_St) {v : Int32} : ∀ (κ : Nat → Int64) (j : Nat), j < mz_NC → j ≠ 11 → mz_cel E (mz_up σ 1017 0 v) κ j = mz_cel E σ κ j := by
  intro κ j hj hn
  have hj : j < 73 := hj
  unfold mz_cel
  split <;> first | rfl | exact absurd rfl hn | (rw [mz_up_ne (by omega)])
theorem mp_1018 (E : mz_En) (σ : mz_St) {v : Int32} : ∀ (κ : Nat → Int64) (j : Nat), j < mz_NC → j ≠ 11 → mz_cel E (mz_up σ 1018 0 v) κ j = mz_cel E σ κ j := by
  intro κ j hj hn
  have hj : j < 73 := hj
  unfold mz_cel
  split <;> first | rfl | exact absurd rfl hn | (rw [mz_up_ne (by omega)])
theorem mp_1019 (E : mz_En) (σ : mz_St) {v : Int32} : ∀ (κ : Nat → Int64) (j : Nat), j < mz_NC → j ≠ 11 → mz_cel E (mz_up σ 1019 0 v) κ j = mz_cel E σ κ j := by
  intro κ j hj hn
  have hj : j < 73 := hj
  unfold mz_cel
  split <;> first | rfl | exact absurd rfl hn | (rw [mz_up_ne (by omega)])
theorem mp_1020 (E : mz_En) (σ : mz_St) {v : Int32} : ∀ (κ : Nat → Int64) (j : Nat), j < mz_NC → j ≠ 11 → mz_cel E (mz_up σ 1020 0 v) κ j = mz_cel E σ κ j := by
  intro κ j hj hn
  have hj : j < 73 := hj
  unfold mz_cel
  split <;> first | rfl | exact absurd rfl hn | (rw [mz_up_ne (by omega)])
end
section
abbrev mb_Program_hasBlock : ByteArray := prog_9_method_2_code
def my_Program_hasBlock : MethodName := ⟨"ValueMill$Program", "hasBlock", "(I)Z"⟩
theorem mo_Program_hasBlock : mz_ok my_Program_hasBlock mb_Program_hasBlock 2 (some .boolean) 1 := ⟨mz_in (i := 585) (by decide +kernel) (by decide +kernel), mz_in (i := 109) (by decide +kernel) (by decide +kernel), ⟨by decide +kernel, by decide +kernel⟩, by decide +kernel⟩
theorem mi_Program_hasBlock : mz_oi my_Program_hasBlock := ⟨mz_in (i := 584) (by decide +kernel) (by decide +kernel), mz_in (i := 1) (by decide +kernel) (by decide +kernel)⟩
abbrev mb_Program_addOperation : ByteArray := prog_9_method_3_code
def my_Program_addOperation : MethodName := ⟨"ValueMill$Program", "addOperation", "(IIIII)V"⟩
theorem mo_Program_addOperation : mz_ok my_Program_addOperation mb_Program_addOperation 7 none 5 := ⟨mz_in (i := 595) (by decide +kernel) (by decide +kernel), mz_in (i := 109) (by decide +kernel) (by decide +kernel), ⟨by decide +kernel, by decide +kernel⟩, by decide +kernel⟩
theorem mi_Program_addOperation : mz_oi my_Program_addOperation := ⟨mz_in (i := 594) (by decide +kernel) (by decide +kernel), mz_in (i := 2) (by decide +kernel) (by decide +kernel)⟩
abbrev mb_Program_setEnd : ByteArray := prog_9_method_4_code
def my_Program_setEnd : MethodName := ⟨"ValueMill$Program", "setEnd", "(III)V"⟩
theorem mo_Program_setEnd : mz_ok my_Program_setEnd mb_Program_setEnd 4 none 3 := ⟨mz_in (i := 603) (by decide +kernel) (by decide +kernel), mz_in (i := 109) (by decide +kernel) (by decide +kernel), ⟨by decide +kernel, by decide +kernel⟩, by decide +kernel⟩
theorem mi_Program_setEnd : mz_oi my_Program_setEnd := ⟨mz_in (i := 602) (by decide +kernel) (by decide +kernel), mz_in (i := 3) (by decide +kernel) (by decide +kernel)⟩
abbrev mb_Program_setEdges : ByteArray := prog_9_method_5_code
def my_Program_setEdges : MethodName := ⟨"ValueMill$Program", "setEdges", "(III)V"⟩
theorem mo_Program_setEdges : mz_ok my_Program_setEdges mb_Program_setEdges 4 none 3 := ⟨mz_in (i := 607) (by decide +kernel) (by decide +kernel), mz_in (i := 109) (by decide +kernel) (by decide +kernel), ⟨by decide +kernel, by decide +kernel⟩, by decide +kernel⟩
theorem mi_Program_setEdges : mz_oi my_Program_setEdges := ⟨mz_in (i := 606) (by decide +kernel) (by decide +kernel), mz_in (i := 4) (by decide +kernel) (by decide +kernel)⟩
abbrev mb_Program_edges : ByteArray := prog_9_method_6_code
def my_Program_edges : MethodName := ⟨"ValueMill$Program", "edges", "(I)I"⟩
theorem mo_Program_edges : mz_ok my_Program_edges mb_Program_edges 2 (some .int) 1 := ⟨mz_in (i := 685) (by decide +kernel) (by decide +kernel), mz_in (i := 109) (by decide +kernel) (by decide +kernel), ⟨by decide +kernel, by decide +kernel⟩, by decide +kernel⟩
theorem mi_Program_edges : mz_oi my_Program_edges := ⟨mz_in (i := 684) (by decide +kernel) (by decide +kernel), mz_in (i := 18) (by decide +kernel) (by decide +kernel)⟩
abbrev mb_Program_target : ByteArray := prog_9_method_7_code
def my_Program_target : MethodName := ⟨"ValueMill$Program", "target", "(II)I"⟩
theorem mo_Program_target : mz_ok my_Program_target mb_Program_target 3 (some .int) 2 := ⟨mz_in (i := 689) (by decide +kernel) (by decide +kernel), mz_in (i := 109) (by decide +kernel) (by decide +kernel), ⟨by decide +kernel, by decide +kernel⟩, by decide +kernel⟩
theorem mi_Program_target : mz_oi my_Program_target := ⟨mz_in (i := 688) (by decide +kernel) (by decide +kernel), mz_in (i := 19) (by decide +kernel) (by decide +kernel)⟩
abbrev mb_Program_endTakesTemp : ByteArray := prog_9_method_8_code
def my_Program_endTakesTemp : MethodName := ⟨"ValueMill$Program", "endTakesTemp", "(I)Z"⟩
theorem mo_Program_endTakesTemp : mz_ok my_Program_endTakesTemp mb_Program_endTakesTemp 2 (some .boolean) 1 := ⟨mz_in (i := 755) (by decide +kernel) (by decide +kernel), mz_in (i := 109) (by decide +kernel) (by decide +kernel), ⟨by decide +kernel, by decide +kernel⟩, by decide +kernel⟩
theorem mi_Program_endTakesTemp : mz_oi my_Program_endTakesTemp := ⟨mz_in (i := 754) (by decide +kernel) (by decide +kernel), mz_in (i := 34) (by decide +kernel) (by decide +kernel)⟩
abbrev mb_Program_takesA : ByteArray := prog_9_method_9_code
def my_Program_takesA : MethodName := ⟨"ValueMill$Program", "takesA", "(I)Z"⟩
theorem mo_Program_takesA : mz_ok my_Program_takesA mb_Program_takesA 2 (some .boolean) 1 := ⟨mz_in (i := 653) (by decide +kernel) (by decide +kernel), mz_in (i := 109) (by decide +kernel) (by decide +kernel), ⟨by decide +kernel, by decide +kernel⟩, by decide +kernel⟩
theorem mi_Program_takesA : mz_oi my_Program_takesA := ⟨mz_in (i := 652) (by decide +kernel) (by decide +kernel), mz_in (i := 10) (by decide +kernel) (by decide +kernel)⟩
abbrev mb_Program_takesB : ByteArray := prog_9_method_10_code
def my_Program_takesB : MethodName := ⟨"ValueMill$Program", "takesB", "(I)Z"⟩
theorem mo_Program_takesB : mz_ok my_Program_takesB mb_Program_takesB 2 (some .boolean) 1 := ⟨mz_in (i := 657) (by decide +kernel) (by decide +kernel), mz_in (i := 109) (by decide +kernel) (by decide +kernel), ⟨by decide +kernel, by decide +kernel⟩, by decide +kernel⟩
theorem mi_Program_takesB : mz_oi my_Program_takesB := ⟨mz_in (i := 656) (by decide +kernel) (by decide +kernel), mz_in (i := 11) (by decide +kernel) (by decide +kernel)⟩
abbrev mb_Program_makesValue : ByteArray := prog_9_method_11_code
def my_Program_makesValue : MethodName := ⟨"ValueMill$Program", "makesValue", "(I)Z"⟩
theorem mo_Program_makesValue : mz_ok my_Program_makesValue mb_Program_makesValue 2 (some .boolean) 1 := ⟨mz_in (i := 747) (by decide +kernel) (by decide +kernel), mz_in (i := 109) (by decide +kernel) (by decide +kernel), ⟨by decide +kernel, by decide +kernel⟩, by decide +kernel⟩
theorem mi_Program_makesValue : mz_oi my_Program_makesValue := ⟨mz_in (i := 746) (by decide +kernel) (by decide +kernel), mz_in (i := 32) (by decide +kernel) (by decide +kernel)⟩
abbrev mb_Program_usedSet : ByteArray := prog_9_method_12_code
def my_Program_usedSet : MethodName := ⟨"ValueMill$Program", "usedSet", "(I)I"⟩
theorem mo_Program_usedSet : mz_ok my_Program_usedSet mb_Program_usedSet 2 (some .int) 1 := ⟨mz_in (i := 737) (by decide +kernel) (by decide +kernel), mz_in (i := 109) (by decide +kernel) (by decide +kernel), ⟨by decide +kernel, by decide +kernel⟩, by decide +kernel⟩
theorem mi_Program_usedSet : mz_oi my_Program_usedSet := ⟨mz_in (i := 736) (by decide +kernel) (by decide +kernel), mz_in (i := 30) (by decide +kernel) (by decide +kernel)⟩
abbrev mb_Program_madeSet : ByteArray := prog_9_method_13_code
def my_Program_madeSet : MethodName := ⟨"ValueMill$Program", "madeSet", "(I)I"⟩
theorem mo_Program_madeSet : mz_ok my_Program_madeSet mb_Program_madeSet 2 (some .int) 1 := ⟨mz_in (i := 743) (by decide +kernel) (by decide +kernel), mz_in (i := 109) (by decide +kernel) (by decide +kernel), ⟨by decide +kernel, by decide +kernel⟩, by decide +kernel⟩
theorem mi_Program_madeSet : mz_oi my_Program_madeSet := ⟨mz_in (i := 742) (by decide +kernel) (by decide +kernel), mz_in (i := 31) (by decide +kernel) (by decide +kernel)⟩
abbrev mb_Program_usedAtEndSet : ByteArray := prog_9_method_14_code
def my_Program_usedAtEndSet : MethodName := ⟨"ValueMill$Program", "usedAtEndSet", "(I)I"⟩
theorem mo_Program_usedAtEndSet : mz_ok my_Program_usedAtEndSet mb_Program_usedAtEndSet 2 (some .int) 1 := ⟨mz_in (i := 751) (by decide +kernel) (by decide +kernel), mz_in (i := 109) (by decide +kernel) (by decide +kernel), ⟨by decide +kernel, by decide +kernel⟩, by decide +kernel⟩
theorem mi_Program_usedAtEndSet : mz_oi my_Program_usedAtEndSet := ⟨mz_in (i := 750) (by decide +kernel) (by decide +kernel), mz_in (i := 33) (by decide +kernel) (by decide +kernel)⟩
theorem md_Program_hasBlock_0 : mz_d mb_Program_hasBlock 0 (.iload_n 1) 1 1 := ⟨by decide +kernel, rfl⟩
theorem md_Program_hasBlock_1 : mz_d mb_Program_hasBlock 1 (.ifCond .lt 15) 3 4 := ⟨by decide +kernel, rfl⟩
theorem md_Program_hasBlock_4 : mz_d mb_Program_hasBlock 4 (.iload_n 1) 1 5 := ⟨by decide +kernel, rfl⟩
theorem md_Program_hasBlock_5 : mz_d mb_Program_hasBlock 5 (.aload_n 0) 1 6 := ⟨by decide +kernel, rfl⟩
theorem md_Program_hasBlock_6 : mz_d mb_Program_hasBlock 6 (.getfield 42) 3 9 := ⟨by decide +kernel, rfl⟩
theorem md_Program_hasBlock_9 : mz_d mb_Program_hasBlock 9 (.if_icmp .ge 7) 3 12 := ⟨by decide +kernel, rfl⟩
theorem md_Program_hasBlock_12 : mz_d mb_Program_hasBlock 12 (.iconst 1) 1 13 := ⟨by decide +kernel, rfl⟩
theorem md_Program_hasBlock_13 : mz_d mb_Program_hasBlock 13 (.goto 4) 3 16 := ⟨by decide +kernel, rfl⟩
theorem md_Program_hasBlock_16 : mz_d mb_Program_hasBlock 16 (.iconst 0) 1 17 := ⟨by decide +kernel, rfl⟩
theorem md_Program_hasBlock_17 : mz_d mb_Program_hasBlock 17 (.ireturn) 1 18 := ⟨by decide +kernel, rfl⟩
theorem md_Program_addOperation_0 : mz_d mb_Program_addOperation 0 (.iload_n 1) 1 1 := ⟨by decide +kernel, rfl⟩
theorem md_Program_addOperation_1 : mz_d mb_Program_addOperation 1 (.bipush 12) 2 3 := ⟨by decide +kernel, rfl⟩
theorem md_Program_addOperation_3 : mz_d mb_Program_addOperation 3 (.imul) 1 4 := ⟨by decide +kernel, rfl⟩
theorem md_Program_addOperation_4 : mz_d mb_Program_addOperation 4 (.aload_n 0) 1 5 := ⟨by decide +kernel, rfl⟩
theorem md_Program_addOperation_5 : mz_d mb_Program_addOperation 5 (.getfield 24) 3 8 := ⟨by decide +kernel, rfl⟩
theorem md_Program_addOperation_8 : mz_d mb_Program_addOperation 8 (.iload_n 1) 1 9 := ⟨by decide +kernel, rfl⟩
theorem md_Program_addOperation_9 : mz_d mb_Program_addOperation 9 (.iaload) 1 10 := ⟨by decide +kernel, rfl⟩
theorem md_Program_addOperation_10 : mz_d mb_Program_addOperation 10 (.iadd) 1 11 := ⟨by decide +kernel, rfl⟩
theorem md_Program_addOperation_11 : mz_d mb_Program_addOperation 11 (.istore 6) 2 13 := ⟨by decide +kernel, rfl⟩
theorem md_Program_addOperation_13 : mz_d mb_Program_addOperation 13 (.aload_n 0) 1 14 := ⟨by decide +kernel, rfl⟩
theorem md_Program_addOperation_14 : mz_d mb_Program_addOperation 14 (.getfield 9) 3 17 := ⟨by decide +kernel, rfl⟩
theorem md_Program_addOperation_17 : mz_d mb_Program_addOperation 17 (.iload 6) 2 19 := ⟨by decide +kernel, rfl⟩
theorem md_Program_addOperation_19 : mz_d mb_Program_addOperation 19 (.iload_n 2) 1 20 := ⟨by decide +kernel, rfl⟩
theorem md_Program_addOperation_20 : mz_d mb_Program_addOperation 20 (.iastore) 1 21 := ⟨by decide +kernel, rfl⟩
theorem md_Program_addOperation_21 : mz_d mb_Program_addOperation 21 (.aload_n 0) 1 22 := ⟨by decide +kernel, rfl⟩
theorem md_Program_addOperation_22 : mz_d mb_Program_addOperation 22 (.getfield 15) 3 25 := ⟨by decide +kernel, rfl⟩
theorem md_Program_addOperation_25 : mz_d mb_Program_addOperation 25 (.iload 6) 2 27 := ⟨by decide +kernel, rfl⟩
theorem md_Program_addOperation_27 : mz_d mb_Program_addOperation 27 (.iload_n 3) 1 28 := ⟨by decide +kernel, rfl⟩
theorem md_Program_addOperation_28 : mz_d mb_Program_addOperation 28 (.iastore) 1 29 := ⟨by decide +kernel, rfl⟩
theorem md_Program_addOperation_29 : mz_d mb_Program_addOperation 29 (.aload_n 0) 1 30 := ⟨by decide +kernel, rfl⟩
theorem md_Program_addOperation_30 : mz_d mb_Program_addOperation 30 (.getfield 18) 3 33 := ⟨by decide +kernel, rfl⟩
theorem md_Program_addOperation_33 : mz_d mb_Program_addOperation 33 (.iload 6) 2 35 := ⟨by decide +kernel, rfl⟩
theorem md_Program_addOperation_35 : mz_d mb_Program_addOperation 35 (.iload 4) 2 37 := ⟨by decide +kernel, rfl⟩
theorem md_Program_addOperation_37 : mz_d mb_Program_addOperation 37 (.iastore) 1 38 := ⟨by decide +kernel, rfl⟩
theorem md_Program_addOperation_38 : mz_d mb_Program_addOperation 38 (.aload_n 0) 1 39 := ⟨by decide +kernel, rfl⟩
theorem md_Program_addOperation_39 : mz_d mb_Program_addOperation 39 (.getfield 21) 3 42 := ⟨by decide +kernel, rfl⟩
theorem md_Program_addOperation_42 : mz_d mb_Program_addOperation 42 (.iload 6) 2 44 := ⟨by decide +kernel, rfl⟩
theorem md_Program_addOperation_44 : mz_d mb_Program_addOperation 44 (.iload 5) 2 46 := ⟨by decide +kernel, rfl⟩
theorem md_Program_addOperation_46 : mz_d mb_Program_addOperation 46 (.iastore) 1 47 := ⟨by decide +kernel, rfl⟩
theorem md_Program_addOperation_47 : mz_d mb_Program_addOperation 47 (.aload_n 0) 1 48 := ⟨by decide +kernel, rfl⟩
theorem md_Program_addOperation_48 : mz_d mb_Program_addOperation 48 (.getfield 24) 3 51 := ⟨by decide +kernel, rfl⟩
theorem md_Program_addOperation_51 : mz_d mb_Program_addOperation 51 (.iload_n 1) 1 52 := ⟨by decide +kernel, rfl⟩
theorem md_Program_addOperation_52 : mz_d mb_Program_addOperation 52 (.dup2) 1 53 := ⟨by decide +kernel, rfl⟩
theorem md_Program_addOperation_53 : mz_d mb_Program_addOperation 53 (.iaload) 1 54 := ⟨by decide +kernel, rfl⟩
theorem md_Program_addOperation_54 : mz_d mb_Program_addOperation 54 (.iconst 1) 1 55 := ⟨by decide +kernel, rfl⟩
theorem md_Program_addOperation_55 : mz_d mb_Program_addOperation 55 (.iadd) 1 56 := ⟨by decide +kernel, rfl⟩
theorem md_Program_addOperation_56 : mz_d mb_Program_addOperation 56 (.iastore) 1 57 := ⟨by decide +kernel, rfl⟩
theorem md_Program_addOperation_57 : mz_d mb_Program_addOperation 57 (.return_) 1 58 := ⟨by decide +kernel, rfl⟩
theorem md_Program_setEnd_0 : mz_d mb_Program_setEnd 0 (.aload_n 0) 1 1 := ⟨by decide +kernel, rfl⟩
theorem md_Program_setEnd_1 : mz_d mb_Program_setEnd 1 (.getfield 27) 3 4 := ⟨by decide +kernel, rfl⟩
theorem md_Program_setEnd_4 : mz_d mb_Program_setEnd 4 (.iload_n 1) 1 5 := ⟨by decide +kernel, rfl⟩
theorem md_Program_setEnd_5 : mz_d mb_Program_setEnd 5 (.iload_n 2) 1 6 := ⟨by decide +kernel, rfl⟩
theorem md_Program_setEnd_6 : mz_d mb_Program_setEnd 6 (.iastore) 1 7 := ⟨by decide +kernel, rfl⟩
theorem md_Program_setEnd_7 : mz_d mb_Program_setEnd 7 (.aload_n 0) 1 8 := ⟨by decide +kernel, rfl⟩
theorem md_Program_setEnd_8 : mz_d mb_Program_setEnd 8 (.getfield 30) 3 11 := ⟨by decide +kernel, rfl⟩
theorem md_Program_setEnd_11 : mz_d mb_Program_setEnd 11 (.iload_n 1) 1 12 := ⟨by decide +kernel, rfl⟩
theorem md_Program_setEnd_12 : mz_d mb_Program_setEnd 12 (.iload_n 3) 1 13 := ⟨by decide +kernel, rfl⟩
theorem md_Program_setEnd_13 : mz_d mb_Program_setEnd 13 (.iastore) 1 14 := ⟨by decide +kernel, rfl⟩
theorem md_Program_setEnd_14 : mz_d mb_Program_setEnd 14 (.return_) 1 15 := ⟨by decide +kernel, rfl⟩
theorem md_Program_setEdges_0 : mz_d mb_Program_setEdges 0 (.aload_n 0) 1 1 := ⟨by decide +kernel, rfl⟩
theorem md_Program_setEdges_1 : mz_d mb_Program_setEdges 1 (.getfield 33) 3 4 := ⟨by decide +kernel, rfl⟩
theorem md_Program_setEdges_4 : mz_d mb_Program_setEdges 4 (.iload_n 1) 1 5 := ⟨by decide +kernel, rfl⟩
theorem md_Program_setEdges_5 : mz_d mb_Program_setEdges 5 (.iload_n 2) 1 6 := ⟨by decide +kernel, rfl⟩
theorem md_Program_setEdges_6 : mz_d mb_Program_setEdges 6 (.iastore) 1 7 := ⟨by decide +kernel, rfl⟩
theorem md_Program_setEdges_7 : mz_d mb_Program_setEdges 7 (.aload_n 0) 1 8 := ⟨by decide +kernel, rfl⟩
theorem md_Program_setEdges_8 : mz_d mb_Program_setEdges 8 (.getfield 36) 3 11 := ⟨by decide +kernel, rfl⟩
theorem md_Program_setEdges_11 : mz_d mb_Program_setEdges 11 (.iload_n 1) 1 12 := ⟨by decide +kernel, rfl⟩
theorem md_Program_setEdges_12 : mz_d mb_Program_setEdges 12 (.iload_n 3) 1 13 := ⟨by decide +kernel, rfl⟩
theorem md_Program_setEdges_13 : mz_d mb_Program_setEdges 13 (.iastore) 1 14 := ⟨by decide +kernel, rfl⟩
theorem md_Program_setEdges_14 : mz_d mb_Program_setEdges 14 (.return_) 1 15 := ⟨by decide +kernel, rfl⟩
theorem md_Program_edges_0 : mz_d mb_Program_edges 0 (.aload_n 0) 1 1 := ⟨by decide +kernel, rfl⟩
theorem md_Program_edges_1 : mz_d mb_Program_edges 1 (.getfield 27) 3 4 := ⟨by decide +kernel, rfl⟩
theorem md_Program_edges_4 : mz_d mb_Program_edges 4 (.iload_n 1) 1 5 := ⟨by decide +kernel, rfl⟩
theorem md_Program_edges_5 : mz_d mb_Program_edges 5 (.iaload) 1 6 := ⟨by decide +kernel, rfl⟩
theorem md_Program_edges_6 : mz_d mb_Program_edges 6 (.ifCond .ne 7) 3 9 := ⟨by decide +kernel, rfl⟩
theorem md_Program_edges_9 : mz_d mb_Program_edges 9 (.iconst 0) 1 10 := ⟨by decide +kernel, rfl⟩
theorem md_Program_edges_10 : mz_d mb_Program_edges 10 (.goto 18) 3 13 := ⟨by decide +kernel, rfl⟩
theorem md_Program_edges_13 : mz_d mb_Program_edges 13 (.aload_n 0) 1 14 := ⟨by decide +kernel, rfl⟩
theorem md_Program_edges_14 : mz_d mb_Program_edges 14 (.getfield 27) 3 17 := ⟨by decide +kernel, rfl⟩
theorem md_Program_edges_17 : mz_d mb_Program_edges 17 (.iload_n 1) 1 18 := ⟨by decide +kernel, rfl⟩
theorem md_Program_edges_18 : mz_d mb_Program_edges 18 (.iaload) 1 19 := ⟨by decide +kernel, rfl⟩
theorem md_Program_edges_19 : mz_d mb_Program_edges 19 (.iconst 1) 1 20 := ⟨by decide +kernel, rfl⟩
theorem md_Program_edges_20 : mz_d mb_Program_edges 20 (.if_icmp .ne 7) 3 23 := ⟨by decide +kernel, rfl⟩
theorem md_Program_edges_23 : mz_d mb_Program_edges 23 (.iconst 1) 1 24 := ⟨by decide +kernel, rfl⟩
theorem md_Program_edges_24 : mz_d mb_Program_edges 24 (.goto 4) 3 27 := ⟨by decide +kernel, rfl⟩
theorem md_Program_edges_27 : mz_d mb_Program_edges 27 (.iconst 2) 1 28 := ⟨by decide +kernel, rfl⟩
theorem md_Program_edges_28 : mz_d mb_Program_edges 28 (.ireturn) 1 29 := ⟨by decide +kernel, rfl⟩
theorem md_Program_target_0 : mz_d mb_Program_target 0 (.iload_n 2) 1 1 := ⟨by decide +kernel, rfl⟩
theorem md_Program_target_1 : mz_d mb_Program_target 1 (.ifCond .ne 12) 3 4 := ⟨by decide +kernel, rfl⟩
theorem md_Program_target_4 : mz_d mb_Program_target 4 (.aload_n 0) 1 5 := ⟨by decide +kernel, rfl⟩
theorem md_Program_target_5 : mz_d mb_Program_target 5 (.getfield 33) 3 8 := ⟨by decide +kernel, rfl⟩
theorem md_Program_target_8 : mz_d mb_Program_target 8 (.iload_n 1) 1 9 := ⟨by decide +kernel, rfl⟩
theorem md_Program_target_9 : mz_d mb_Program_target 9 (.iaload) 1 10 := ⟨by decide +kernel, rfl⟩
theorem md_Program_target_10 : mz_d mb_Program_target 10 (.goto 9) 3 13 := ⟨by decide +kernel, rfl⟩
theorem md_Program_target_13 : mz_d mb_Program_target 13 (.aload_n 0) 1 14 := ⟨by decide +kernel, rfl⟩
theorem md_Program_target_14 : mz_d mb_Program_target 14 (.getfield 36) 3 17 := ⟨by decide +kernel, rfl⟩
theorem md_Program_target_17 : mz_d mb_Program_target 17 (.iload_n 1) 1 18 := ⟨by decide +kernel, rfl⟩
theorem md_Program_target_18 : mz_d mb_Program_target 18 (.iaload) 1 19 := ⟨by decide +kernel, rfl⟩
theorem md_Program_target_19 : mz_d mb_Program_target 19 (.ireturn) 1 20 := ⟨by decide +kernel, rfl⟩
theorem md_Program_endTakesTemp_0 : mz_d mb_Program_endTakesTemp 0 (.aload_n 0) 1 1 := ⟨by decide +kernel, rfl⟩
theorem md_Program_endTakesTemp_1 : mz_d mb_Program_endTakesTemp 1 (.getfield 27) 3 4 := ⟨by decide +kernel, rfl⟩
theorem md_Program_endTakesTemp_4 : mz_d mb_Program_endTakesTemp 4 (.iload_n 1) 1 5 := ⟨by decide +kernel, rfl⟩
theorem md_Program_endTakesTemp_5 : mz_d mb_Program_endTakesTemp 5 (.iaload) 1 6 := ⟨by decide +kernel, rfl⟩
theorem md_Program_endTakesTemp_6 : mz_d mb_Program_endTakesTemp 6 (.iconst 1) 1 7 := ⟨by decide +kernel, rfl⟩
theorem md_Program_endTakesTemp_7 : mz_d mb_Program_endTakesTemp 7 (.if_icmp .eq 7) 3 10 := ⟨by decide +kernel, rfl⟩
theorem md_Program_endTakesTemp_10 : mz_d mb_Program_endTakesTemp 10 (.iconst 1) 1 11 := ⟨by decide +kernel, rfl⟩
theorem md_Program_endTakesTemp_11 : mz_d mb_Program_endTakesTemp 11 (.goto 4) 3 14 := ⟨by decide +kernel, rfl⟩
theorem md_Program_endTakesTemp_14 : mz_d mb_Program_endTakesTemp 14 (.iconst 0) 1 15 := ⟨by decide +kernel, rfl⟩
theorem md_Program_endTakesTemp_15 : mz_d mb_Program_endTakesTemp 15 (.ireturn) 1 16 := ⟨by decide +kernel, rfl⟩
theorem md_Program_takesA_0 : mz_d mb_Program_takesA 0 (.aload_n 0) 1 1 := ⟨by decide +kernel, rfl⟩
theorem md_Program_takesA_1 : mz_d mb_Program_takesA 1 (.getfield 9) 3 4 := ⟨by decide +kernel, rfl⟩
theorem md_Program_takesA_4 : mz_d mb_Program_takesA 4 (.iload_n 1) 1 5 := ⟨by decide +kernel, rfl⟩
theorem md_Program_takesA_5 : mz_d mb_Program_takesA 5 (.iaload) 1 6 := ⟨by decide +kernel, rfl⟩
theorem md_Program_takesA_6 : mz_d mb_Program_takesA 6 (.ifCond .eq 7) 3 9 := ⟨by decide +kernel, rfl⟩
theorem md_Program_takesA_9 : mz_d mb_Program_takesA 9 (.iconst 1) 1 10 := ⟨by decide +kernel, rfl⟩
theorem md_Program_takesA_10 : mz_d mb_Program_takesA 10 (.goto 4) 3 13 := ⟨by decide +kernel, rfl⟩
theorem md_Program_takesA_13 : mz_d mb_Program_takesA 13 (.iconst 0) 1 14 := ⟨by decide +kernel, rfl⟩
theorem md_Program_takesA_14 : mz_d mb_Program_takesA 14 (.ireturn) 1 15 := ⟨by decide +kernel, rfl⟩
theorem md_Program_takesB_0 : mz_d mb_Program_takesB 0 (.aload_n 0) 1 1 := ⟨by decide +kernel, rfl⟩
theorem md_Program_takesB_1 : mz_d mb_Program_takesB 1 (.getfield 9) 3 4 := ⟨by decide +kernel, rfl⟩
theorem md_Program_takesB_4 : mz_d mb_Program_takesB 4 (.iload_n 1) 1 5 := ⟨by decide +kernel, rfl⟩
theorem md_Program_takesB_5 : mz_d mb_Program_takesB 5 (.iaload) 1 6 := ⟨by decide +kernel, rfl⟩
theorem md_Program_takesB_6 : mz_d mb_Program_takesB 6 (.bipush 17) 2 8 := ⟨by decide +kernel, rfl⟩
theorem md_Program_takesB_8 : mz_d mb_Program_takesB 8 (.if_icmp .eq 24) 3 11 := ⟨by decide +kernel, rfl⟩
theorem md_Program_takesB_11 : mz_d mb_Program_takesB 11 (.aload_n 0) 1 12 := ⟨by decide +kernel, rfl⟩
theorem md_Program_takesB_12 : mz_d mb_Program_takesB 12 (.getfield 9) 3 15 := ⟨by decide +kernel, rfl⟩
theorem md_Program_takesB_15 : mz_d mb_Program_takesB 15 (.iload_n 1) 1 16 := ⟨by decide +kernel, rfl⟩
theorem md_Program_takesB_16 : mz_d mb_Program_takesB 16 (.iaload) 1 17 := ⟨by decide +kernel, rfl⟩
theorem md_Program_takesB_17 : mz_d mb_Program_takesB 17 (.iconst 1) 1 18 := ⟨by decide +kernel, rfl⟩
theorem md_Program_takesB_18 : mz_d mb_Program_takesB 18 (.if_icmp .le 18) 3 21 := ⟨by decide +kernel, rfl⟩
theorem md_Program_takesB_21 : mz_d mb_Program_takesB 21 (.aload_n 0) 1 22 := ⟨by decide +kernel, rfl⟩
theorem md_Program_takesB_22 : mz_d mb_Program_takesB 22 (.getfield 9) 3 25 := ⟨by decide +kernel, rfl⟩
theorem md_Program_takesB_25 : mz_d mb_Program_takesB 25 (.iload_n 1) 1 26 := ⟨by decide +kernel, rfl⟩
theorem md_Program_takesB_26 : mz_d mb_Program_takesB 26 (.iaload) 1 27 := ⟨by decide +kernel, rfl⟩
theorem md_Program_takesB_27 : mz_d mb_Program_takesB 27 (.bipush 16) 2 29 := ⟨by decide +kernel, rfl⟩
theorem md_Program_takesB_29 : mz_d mb_Program_takesB 29 (.if_icmp .ge 7) 3 32 := ⟨by decide +kernel, rfl⟩
theorem md_Program_takesB_32 : mz_d mb_Program_takesB 32 (.iconst 1) 1 33 := ⟨by decide +kernel, rfl⟩
theorem md_Program_takesB_33 : mz_d mb_Program_takesB 33 (.goto 4) 3 36 := ⟨by decide +kernel, rfl⟩
theorem md_Program_takesB_36 : mz_d mb_Program_takesB 36 (.iconst 0) 1 37 := ⟨by decide +kernel, rfl⟩
theorem md_Program_takesB_37 : mz_d mb_Program_takesB 37 (.ireturn) 1 38 := ⟨by decide +kernel, rfl⟩
theorem md_Program_makesValue_0 : mz_d mb_Program_makesValue 0 (.aload_n 0) 1 1 := ⟨by decide +kernel, rfl⟩
theorem md_Program_makesValue_1 : mz_d mb_Program_makesValue 1 (.getfield 9) 3 4 := ⟨by decide +kernel, rfl⟩
theorem md_Program_makesValue_4 : mz_d mb_Program_makesValue 4 (.iload_n 1) 1 5 := ⟨by decide +kernel, rfl⟩
theorem md_Program_makesValue_5 : mz_d mb_Program_makesValue 5 (.iaload) 1 6 := ⟨by decide +kernel, rfl⟩
theorem md_Program_makesValue_6 : mz_d mb_Program_makesValue 6 (.bipush 17) 2 8 := ⟨by decide +kernel, rfl⟩
theorem md_Program_makesValue_8 : mz_d mb_Program_makesValue 8 (.if_icmp .eq 7) 3 11 := ⟨by decide +kernel, rfl⟩
theorem md_Program_makesValue_11 : mz_d mb_Program_makesValue 11 (.iconst 1) 1 12 := ⟨by decide +kernel, rfl⟩
theorem md_Program_makesValue_12 : mz_d mb_Program_makesValue 12 (.goto 4) 3 15 := ⟨by decide +kernel, rfl⟩
theorem md_Program_makesValue_15 : mz_d mb_Program_makesValue 15 (.iconst 0) 1 16 := ⟨by decide +kernel, rfl⟩
theorem md_Program_makesValue_16 : mz_d mb_Program_makesValue 16 (.ireturn) 1 17 := ⟨by decide +kernel, rfl⟩
theorem md_Program_usedSet_0 : mz_d mb_Program_usedSet 0 (.aload_n 0) 1 1 := ⟨by decide +kernel, rfl⟩
theorem md_Program_usedSet_1 : mz_d mb_Program_usedSet 1 (.iload_n 1) 1 2 := ⟨by decide +kernel, rfl⟩
theorem md_Program_usedSet_2 : mz_d mb_Program_usedSet 2 (.invokevirtual 46) 3 5 := ⟨by decide +kernel, rfl⟩
theorem md_Program_usedSet_5 : mz_d mb_Program_usedSet 5 (.ifCond .eq 14) 3 8 := ⟨by decide +kernel, rfl⟩
theorem md_Program_usedSet_8 : mz_d mb_Program_usedSet 8 (.iconst 1) 1 9 := ⟨by decide +kernel, rfl⟩
theorem md_Program_usedSet_9 : mz_d mb_Program_usedSet 9 (.aload_n 0) 1 10 := ⟨by decide +kernel, rfl⟩
theorem md_Program_usedSet_10 : mz_d mb_Program_usedSet 10 (.getfield 18) 3 13 := ⟨by decide +kernel, rfl⟩
theorem md_Program_usedSet_13 : mz_d mb_Program_usedSet 13 (.iload_n 1) 1 14 := ⟨by decide +kernel, rfl⟩
theorem md_Program_usedSet_14 : mz_d mb_Program_usedSet 14 (.iaload) 1 15 := ⟨by decide +kernel, rfl⟩
theorem md_Program_usedSet_15 : mz_d mb_Program_usedSet 15 (.ishl) 1 16 := ⟨by decide +kernel, rfl⟩
theorem md_Program_usedSet_16 : mz_d mb_Program_usedSet 16 (.goto 4) 3 19 := ⟨by decide +kernel, rfl⟩
theorem md_Program_usedSet_19 : mz_d mb_Program_usedSet 19 (.iconst 0) 1 20 := ⟨by decide +kernel, rfl⟩
theorem md_Program_usedSet_20 : mz_d mb_Program_usedSet 20 (.aload_n 0) 1 21 := ⟨by decide +kernel, rfl⟩
theorem md_Program_usedSet_21 : mz_d mb_Program_usedSet 21 (.iload_n 1) 1 22 := ⟨by decide +kernel, rfl⟩
theorem md_Program_usedSet_22 : mz_d mb_Program_usedSet 22 (.invokevirtual 50) 3 25 := ⟨by decide +kernel, rfl⟩
theorem md_Program_usedSet_25 : mz_d mb_Program_usedSet 25 (.ifCond .eq 14) 3 28 := ⟨by decide +kernel, rfl⟩
theorem md_Program_usedSet_28 : mz_d mb_Program_usedSet 28 (.iconst 1) 1 29 := ⟨by decide +kernel, rfl⟩
theorem md_Program_usedSet_29 : mz_d mb_Program_usedSet 29 (.aload_n 0) 1 30 := ⟨by decide +kernel, rfl⟩
theorem md_Program_usedSet_30 : mz_d mb_Program_usedSet 30 (.getfield 21) 3 33 := ⟨by decide +kernel, rfl⟩
theorem md_Program_usedSet_33 : mz_d mb_Program_usedSet 33 (.iload_n 1) 1 34 := ⟨by decide +kernel, rfl⟩
theorem md_Program_usedSet_34 : mz_d mb_Program_usedSet 34 (.iaload) 1 35 := ⟨by decide +kernel, rfl⟩
theorem md_Program_usedSet_35 : mz_d mb_Program_usedSet 35 (.ishl) 1 36 := ⟨by decide +kernel, rfl⟩
theorem md_Program_usedSet_36 : mz_d mb_Program_usedSet 36 (.goto 4) 3 39 := ⟨by decide +kernel, rfl⟩
theorem md_Program_usedSet_39 : mz_d mb_Program_usedSet 39 (.iconst 0) 1 40 := ⟨by decide +kernel, rfl⟩
theorem md_Program_usedSet_40 : mz_d mb_Program_usedSet 40 (.ior) 1 41 := ⟨by decide +kernel, rfl⟩
theorem md_Program_usedSet_41 : mz_d mb_Program_usedSet 41 (.ireturn) 1 42 := ⟨by decide +kernel, rfl⟩
theorem md_Program_madeSet_0 : mz_d mb_Program_madeSet 0 (.aload_n 0) 1 1 := ⟨by decide +kernel, rfl⟩
theorem md_Program_madeSet_1 : mz_d mb_Program_madeSet 1 (.iload_n 1) 1 2 := ⟨by decide +kernel, rfl⟩
theorem md_Program_madeSet_2 : mz_d mb_Program_madeSet 2 (.invokevirtual 53) 3 5 := ⟨by decide +kernel, rfl⟩
theorem md_Program_madeSet_5 : mz_d mb_Program_madeSet 5 (.ifCond .eq 14) 3 8 := ⟨by decide +kernel, rfl⟩
theorem md_Program_madeSet_8 : mz_d mb_Program_madeSet 8 (.iconst 1) 1 9 := ⟨by decide +kernel, rfl⟩
theorem md_Program_madeSet_9 : mz_d mb_Program_madeSet 9 (.aload_n 0) 1 10 := ⟨by decide +kernel, rfl⟩
theorem md_Program_madeSet_10 : mz_d mb_Program_madeSet 10 (.getfield 15) 3 13 := ⟨by decide +kernel, rfl⟩
theorem md_Program_madeSet_13 : mz_d mb_Program_madeSet 13 (.iload_n 1) 1 14 := ⟨by decide +kernel, rfl⟩
theorem md_Program_madeSet_14 : mz_d mb_Program_madeSet 14 (.iaload) 1 15 := ⟨by decide +kernel, rfl⟩
theorem md_Program_madeSet_15 : mz_d mb_Program_madeSet 15 (.ishl) 1 16 := ⟨by decide +kernel, rfl⟩
theorem md_Program_madeSet_16 : mz_d mb_Program_madeSet 16 (.goto 4) 3 19 := ⟨by decide +kernel, rfl⟩
theorem md_Program_madeSet_19 : mz_d mb_Program_madeSet 19 (.iconst 0) 1 20 := ⟨by decide +kernel, rfl⟩
theorem md_Program_madeSet_20 : mz_d mb_Program_madeSet 20 (.ireturn) 1 21 := ⟨by decide +kernel, rfl⟩
theorem md_Program_usedAtEndSet_0 : mz_d mb_Program_usedAtEndSet 0 (.aload_n 0) 1 1 := ⟨by decide +kernel, rfl⟩
theorem md_Program_usedAtEndSet_1 : mz_d mb_Program_usedAtEndSet 1 (.iload_n 1) 1 2 := ⟨by decide +kernel, rfl⟩
theorem md_Program_usedAtEndSet_2 : mz_d mb_Program_usedAtEndSet 2 (.invokevirtual 56) 3 5 := ⟨by decide +kernel, rfl⟩
theorem md_Program_usedAtEndSet_5 : mz_d mb_Program_usedAtEndSet 5 (.ifCond .eq 14) 3 8 := ⟨by decide +kernel, rfl⟩
theorem md_Program_usedAtEndSet_8 : mz_d mb_Program_usedAtEndSet 8 (.iconst 1) 1 9 := ⟨by decide +kernel, rfl⟩
theorem md_Program_usedAtEndSet_9 : mz_d mb_Program_usedAtEndSet 9 (.aload_n 0) 1 10 := ⟨by decide +kernel, rfl⟩
theorem md_Program_usedAtEndSet_10 : mz_d mb_Program_usedAtEndSet 10 (.getfield 30) 3 13 := ⟨by decide +kernel, rfl⟩
theorem md_Program_usedAtEndSet_13 : mz_d mb_Program_usedAtEndSet 13 (.iload_n 1) 1 14 := ⟨by decide +kernel, rfl⟩
theorem md_Program_usedAtEndSet_14 : mz_d mb_Program_usedAtEndSet 14 (.iaload) 1 15 := ⟨by decide +kernel, rfl⟩
theorem md_Program_usedAtEndSet_15 : mz_d mb_Program_usedAtEndSet 15 (.ishl) 1 16 := ⟨by decide +kernel, rfl⟩
theorem md_Program_usedAtEndSet_16 : mz_d mb_Program_usedAtEndSet 16 (.goto 4) 3 19 := ⟨by decide +kernel, rfl⟩
theorem md_Program_usedAtEndSet_19 : mz_d mb_Program_usedAtEndSet 19 (.iconst 0) 1 20 := ⟨by decide +kernel, rfl⟩
theorem md_Program_usedAtEndSet_20 : mz_d mb_Program_usedAtEndSet 20 (.ireturn) 1 21 := ⟨by decide +kernel, rfl⟩
theorem mk_bipush_12 : (Int8.ofInt 12).toInt32 = 12 := by decide
theorem mk_bipush_16 : (Int8.ofInt 16).toInt32 = 16 := by decide
theorem mk_bipush_17 : (Int8.ofInt 17).toInt32 = 17 := by decide
theorem mk_iconst_0 : Int32.ofInt 0 = 0 := by decide
theorem mk_iconst_1 : Int32.ofInt 1 = 1 := by decide
theorem mk_iconst_2 : Int32.ofInt 2 = 2 := by decide
theorem ml_29 : (Jvm.Cond.fieldLink "ValueMill$Program" (9 : Nat) "ValueMill$Program" "kind" "[I") ∈ mz_TB := mz_in (i := 136) (by decide +kernel) (by decide +kernel)
theorem ml_32 : (Jvm.Cond.fieldLink "ValueMill$Program" (15 : Nat) "ValueMill$Program" "d" "[I") ∈ mz_TB := mz_in (i := 139) (by decide +kernel) (by decide +kernel)
theorem ml_36 : (Jvm.Cond.fieldLink "ValueMill$Program" (18 : Nat) "ValueMill$Program" "a" "[I") ∈ mz_TB := mz_in (i := 143) (by decide +kernel) (by decide +kernel)
theorem ml_40 : (Jvm.Cond.fieldLink "ValueMill$Program" (21 : Nat) "ValueMill$Program" "b" "[I") ∈ mz_TB := mz_in (i := 147) (by decide +kernel) (by decide +kernel)
theorem ml_43 : (Jvm.Cond.fieldLink "ValueMill$Program" (24 : Nat) "ValueMill$Program" "length" "[I") ∈ mz_TB := mz_in (i := 150) (by decide +kernel) (by decide +kernel)
theorem ml_50 : (Jvm.Cond.fieldLink "ValueMill$Program" (27 : Nat) "ValueMill$Program" "end" "[I") ∈ mz_TB := mz_in (i := 157) (by decide +kernel) (by decide +kernel)
theorem ml_52 : (Jvm.Cond.fieldLink "ValueMill$Program" (30 : Nat) "ValueMill$Program" "endTemp" "[I") ∈ mz_TB := mz_in (i := 159) (by decide +kernel) (by decide +kernel)
theorem ml_55 : (Jvm.Cond.fieldLink "ValueMill$Program" (33 : Nat) "ValueMill$Program" "first" "[I") ∈ mz_TB := mz_in (i := 162) (by decide +kernel) (by decide +kernel)
theorem ml_56 : (Jvm.Cond.fieldLink "ValueMill$Program" (36 : Nat) "ValueMill$Program" "second" "[I") ∈ mz_TB := mz_in (i := 163) (by decide +kernel) (by decide +kernel)
theorem ml_61 : (Jvm.Cond.fieldLink "ValueMill$Program" (42 : Nat) "ValueMill$Program" "blocks" "I") ∈ mz_TB := mz_in (i := 168) (by decide +kernel) (by decide +kernel)
theorem ml_631 : (Jvm.Cond.methodLink "ValueMill$Program" (46 : Nat) ({ cls := "ValueMill$Program", name := "takesA", desc := "(I)Z" } : Jvm.MethodName)) ∈ mz_TB := mz_in (i := 738) (by decide +kernel) (by decide +kernel)
theorem ml_632 : (Jvm.Cond.methodLink "ValueMill$Program" (50 : Nat) ({ cls := "ValueMill$Program", name := "takesB", desc := "(I)Z" } : Jvm.MethodName)) ∈ mz_TB := mz_in (i := 739) (by decide +kernel) (by decide +kernel)
theorem ml_637 : (Jvm.Cond.methodLink "ValueMill$Program" (53 : Nat) ({ cls := "ValueMill$Program", name := "makesValue", desc := "(I)Z" } : Jvm.MethodName)) ∈ mz_TB := mz_in (i := 744) (by decide +kernel) (by decide +kernel)
theorem ml_645 : (Jvm.Cond.methodLink "ValueMill$Program" (56 : Nat) ({ cls := "ValueMill$Program", name := "endTakesTemp", desc := "(I)Z" } : Jvm.MethodName)) ∈ mz_TB := mz_in (i := 752) (by decide +kernel) (by decide +kernel)
/-- ValueMill$Program.hasBlock(I)Z: what it does, as a transformer of what must hold behind it -/
def mw_Program_hasBlock (K : Int32 → mz_St → Prop) (a0 : Int32) (s0 : mz_St) : Prop :=
  ((a0 < 0 →
   K 0 s0) ∧
  (¬ a0 < 0 →
   (((s0 1003 0) ≤ a0 →
    K 0 s0) ∧
   (¬ (s0 1003 0) ≤ a0 →
    K 1 s0))))
set_option maxRecDepth 100000 in
set_option maxHeartbeats 4000000 in
theorem ms_Program_hasBlock (l : Launch) (E : mz_En) (hI : mz_Inj E) (K : Int32 → mz_St → Prop) (a0 : Int32) (s0 : mz_St) (h : mw_Program_hasBlock K a0 s0) : mz_Ci l E my_Program_hasBlock mb_Program_hasBlock 2 (some .boolean) (0) (0) [.ref (E.2.1 1), .int a0] s0 K := by
  refine mz_cti hI (by decide +kernel) (Nat.le_of_ble_eq_true rfl) (fun X C R => ?_)
  show mz_G E X 2 0 [(0, .ref (E.2.1 1)), (1, .int a0)] [] s0
  unfold mw_Program_hasBlock at h
  refine mr_iload_n C 1 md_Program_hasBlock_0 rfl rfl ?_
  refine mr_if_lt C md_Program_hasBlock_1 rfl (fun hc => ?_) (fun hc => ?_)
  · replace h := h.1 hc
    refine mr_iconst C md_Program_hasBlock_16 mk_iconst_0 ?_
    exact mr_zret C R mb_0 h md_Program_hasBlock_17
  replace h := h.2 hc
  refine mr_iload_n C 1 md_Program_hasBlock_4 rfl rfl ?_
  refine mr_aload_n C 0 md_Program_hasBlock_5 rfl rfl ?_
  refine mr_get C 1 10 mc_Program_cls ml_61 rfl (by decide) (by decide) (fun _ => rfl) rfl md_Program_hasBlock_6 ?_
  refine mr_icmp_ge C md_Program_hasBlock_9 rfl (fun hc => ?_) (fun hc => ?_)
  · replace h := h.1 hc
    refine mr_iconst C md_Program_hasBlock_16 mk_iconst_0 ?_
    exact mr_zret C R mb_0 h md_Program_hasBlock_17
  replace h := h.2 hc
  refine mr_iconst C md_Program_hasBlock_12 mk_iconst_1 ?_
  refine mr_goto C md_Program_hasBlock_13 rfl ?_
  exact mr_zret C R mb_1 h md_Program_hasBlock_17
/-- ValueMill$Program.addOperation(IIIII)V: what it does, as a transformer of what must hold behind it -/
def mw_Program_addOperation (K : mz_St → Prop) (a0 : Int32) (a1 : Int32) (a2 : Int32) (a3 : Int32) (a4 : Int32) (s0 : mz_St) : Prop :=
  vp_in a0 10 ∧
  vp_in ((a0 * 12) + (mz_rd s0 16 a0)) 120 ∧
  vp_in ((a0 * 12) + (mz_rd s0 16 a0)) 120 ∧
  vp_in ((a0 * 12) + (mz_rd s0 16 a0)) 120 ∧
  vp_in ((a0 * 12) + (mz_rd s0 16 a0)) 120 ∧
  vp_in a0 10 ∧
  vp_in a0 10 ∧
  K (mz_wr (mz_wr (mz_wr (mz_wr (mz_wr s0 12 ((a0 * 12) + (mz_rd s0 16 a0)) a1) 13 ((a0 * 12) + (mz_rd s0 16 a0)) a2) 14 ((a0 * 12) + (mz_rd s0 16 a0)) a3) 15 ((a0 * 12) + (mz_rd s0 16 a0)) a4) 16 a0 ((mz_rd (mz_wr (mz_wr (mz_wr (mz_wr s0 12 ((a0 * 12) + (mz_rd s0 16 a0)) a1) 13 ((a0 * 12) + (mz_rd s0 16 a0)) a2) 14 ((a0 * 12) + (mz_rd s0 16 a0)) a3) 15 ((a0 * 12) + (mz_rd s0 16 a0)) a4) 16 a0) + 1))
set_option maxRecDepth 100000 in
set_option maxHeartbeats 4000000 in
theorem ms_Program_addOperation (l : Launch) (E : mz_En) (hI : mz_Inj E) (K : mz_St → Prop) (a0 : Int32) (a1 : Int32) (a2 : Int32) (a3 : Int32) (a4 : Int32) (s0 : mz_St) (h : mw_Program_addOperation K a0 a1 a2 a3 a4 s0) : mz_Cv l E my_Program_addOperation mb_Program_addOperation 7 (0) (0) [.ref (E.2.1 1), .int a0, .int a1, .int a2, .int a3, .int a4] s0 K := by
  refine mz_ctv hI (by decide +kernel) (Nat.le_of_ble_eq_true rfl) (fun X C R => ?_)
  show mz_G E X 7 0 [(0, .ref (E.2.1 1)), (1, .int a0), (2, .int a1), (3, .int a2), (4, .int a3), (5, .int a4)] [] s0
  unfold mw_Program_addOperation at h
  refine mr_iload_n C 1 md_Program_addOperation_0 rfl rfl ?_
  refine mr_bipush C md_Program_addOperation_1 mk_bipush_12 ?_
  refine mr_imul C md_Program_addOperation_3 ?_
  refine mr_aload_n C 0 md_Program_addOperation_4 rfl rfl ?_
  refine mr_get C 1 4 mc_Program_cls ml_43 rfl (by decide) (by decide) (fun _ => rfl) rfl md_Program_addOperation_5 ?_
  refine mr_iload_n C 1 md_Program_addOperation_8 rfl rfl ?_
  refine mr_iald C 16 10 (by decide) (fun _ => rfl) h.1 md_Program_addOperation_9 ?_
  replace h := h.2
  refine mr_iadd C md_Program_addOperation_10 ?_
  refine mr_istore C (L' := [(6, .int ((a0 * 12) + (mz_rd s0 16 a0))), (0, .ref (E.2.1 1)), (1, .int a0), (2, .int a1), (3, .int a2), (4, .int a3), (5, .int a4)]) md_Program_addOperation_11 (Nat.le_of_ble_eq_true rfl) rfl ?_
  refine mr_aload_n C 1 md_Program_addOperation_13 rfl rfl ?_
  refine mr_get C 1 0 mc_Program_cls ml_29 rfl (by decide) (by decide) (fun _ => rfl) rfl md_Program_addOperation_14 ?_
  refine mr_iload C 0 md_Program_addOperation_17 rfl ?_
  refine mr_iload_n C 3 md_Program_addOperation_19 rfl rfl ?_
  refine mr_iast C 12 120 (by decide) (by decide) (fun _ _ => rfl) h.1 md_Program_addOperation_20 ?_
  replace h := h.2
  refine mr_aload_n C 1 md_Program_addOperation_21 rfl rfl ?_
  refine mr_get C 1 1 mc_Program_cls ml_32 rfl (by decide) (by decide) (fun _ => rfl) rfl md_Program_addOperation_22 ?_
  refine mr_iload C 0 md_Program_addOperation_25 rfl ?_
  refine mr_iload_n C 4 md_Program_addOperation_27 rfl rfl ?_
  refine mr_iast C 13 120 (by decide) (by decide) (fun _ _ => rfl) h.1 md_Program_addOperation_28 ?_
  replace h := h.2
  refine mr_aload_n C 1 md_Program_addOperation_29 rfl rfl ?_
  refine mr_get C 1 2 mc_Program_cls ml_36 rfl (by decide) (by decide) (fun _ => rfl) rfl md_Program_addOperation_30 ?_
  refine mr_iload C 0 md_Program_addOperation_33 rfl ?_
  refine mr_iload C 5 md_Program_addOperation_35 rfl ?_
  refine mr_iast C 14 120 (by decide) (by decide) (fun _ _ => rfl) h.1 md_Program_addOperation_37 ?_
  replace h := h.2
  refine mr_aload_n C 1 md_Program_addOperation_38 rfl rfl ?_
  refine mr_get C 1 3 mc_Program_cls ml_40 rfl (by decide) (by decide) (fun _ => rfl) rfl md_Program_addOperation_39 ?_
  refine mr_iload C 0 md_Program_addOperation_42 rfl ?_
  refine mr_iload C 6 md_Program_addOperation_44 rfl ?_
  refine mr_iast C 15 120 (by decide) (by decide) (fun _ _ => rfl) h.1 md_Program_addOperation_46 ?_
  replace h := h.2
  refine mr_aload_n C 1 md_Program_addOperation_47 rfl rfl ?_
  refine mr_get C 1 4 mc_Program_cls ml_43 rfl (by decide) (by decide) (fun _ => rfl) rfl md_Program_addOperation_48 ?_
  refine mr_iload_n C 2 md_Program_addOperation_51 rfl rfl ?_
  refine mr_dup2 C md_Program_addOperation_52 rfl rfl ?_
  refine mr_iald C 16 10 (by decide) (fun _ => rfl) h.1 md_Program_addOperation_53 ?_
  replace h := h.2
  refine mr_iconst C md_Program_addOperation_54 mk_iconst_1 ?_
  refine mr_iadd C md_Program_addOperation_55 ?_
  refine mr_iast C 16 10 (by decide) (by decide) (fun _ _ => rfl) h.1 md_Program_addOperation_56 ?_
  replace h := h.2
  exact mr_vret C R h md_Program_addOperation_57
/-- ValueMill$Program.setEnd(III)V: what it does, as a transformer of what must hold behind it -/
def mw_Program_setEnd (K : mz_St → Prop) (a0 : Int32) (a1 : Int32) (a2 : Int32) (s0 : mz_St) : Prop :=
  vp_in a0 10 ∧
  vp_in a0 10 ∧
  K (mz_wr (mz_wr s0 17 a0 a1) 18 a0 a2)
set_option maxRecDepth 100000 in
set_option maxHeartbeats 4000000 in
theorem ms_Program_setEnd (l : Launch) (E : mz_En) (hI : mz_Inj E) (K : mz_St → Prop) (a0 : Int32) (a1 : Int32) (a2 : Int32) (s0 : mz_St) (h : mw_Program_setEnd K a0 a1 a2 s0) : mz_Cv l E my_Program_setEnd mb_Program_setEnd 4 (0) (0) [.ref (E.2.1 1), .int a0, .int a1, .int a2] s0 K := by
  refine mz_ctv hI (by decide +kernel) (Nat.le_of_ble_eq_true rfl) (fun X C R => ?_)
  show mz_G E X 4 0 [(0, .ref (E.2.1 1)), (1, .int a0), (2, .int a1), (3, .int a2)] [] s0
  unfold mw_Program_setEnd at h
  refine mr_aload_n C 0 md_Program_setEnd_0 rfl rfl ?_
  refine mr_get C 1 5 mc_Program_cls ml_50 rfl (by decide) (by decide) (fun _ => rfl) rfl md_Program_setEnd_1 ?_
  refine mr_iload_n C 1 md_Program_setEnd_4 rfl rfl ?_
  refine mr_iload_n C 2 md_Program_setEnd_5 rfl rfl ?_
  refine mr_iast C 17 10 (by decide) (by decide) (fun _ _ => rfl) h.1 md_Program_setEnd_6 ?_
  replace h := h.2
  refine mr_aload_n C 0 md_Program_setEnd_7 rfl rfl ?_
  refine mr_get C 1 6 mc_Program_cls ml_52 rfl (by decide) (by decide) (fun _ => rfl) rfl md_Program_setEnd_8 ?_
  refine mr_iload_n C 1 md_Program_setEnd_11 rfl rfl ?_
  refine mr_iload_n C 3 md_Program_setEnd_12 rfl rfl ?_
  refine mr_iast C 18 10 (by decide) (by decide) (fun _ _ => rfl) h.1 md_Program_setEnd_13 ?_
  replace h := h.2
  exact mr_vret C R h md_Program_setEnd_14
/-- ValueMill$Program.setEdges(III)V: what it does, as a transformer of what must hold behind it -/
def mw_Program_setEdges (K : mz_St → Prop) (a0 : Int32) (a1 : Int32) (a2 : Int32) (s0 : mz_St) : Prop :=
  vp_in a0 10 ∧
  vp_in a0 10 ∧
  K (mz_wr (mz_wr s0 19 a0 a1) 20 a0 a2)
set_option maxRecDepth 100000 in
set_option maxHeartbeats 4000000 in
theorem ms_Program_setEdges (l : Launch) (E : mz_En) (hI : mz_Inj E) (K : mz_St → Prop) (a0 : Int32) (a1 : Int32) (a2 : Int32) (s0 : mz_St) (h : mw_Program_setEdges K a0 a1 a2 s0) : mz_Cv l E my_Program_setEdges mb_Program_setEdges 4 (0) (0) [.ref (E.2.1 1), .int a0, .int a1, .int a2] s0 K := by
  refine mz_ctv hI (by decide +kernel) (Nat.le_of_ble_eq_true rfl) (fun X C R => ?_)
  show mz_G E X 4 0 [(0, .ref (E.2.1 1)), (1, .int a0), (2, .int a1), (3, .int a2)] [] s0
  unfold mw_Program_setEdges at h
  refine mr_aload_n C 0 md_Program_setEdges_0 rfl rfl ?_
  refine mr_get C 1 7 mc_Program_cls ml_55 rfl (by decide) (by decide) (fun _ => rfl) rfl md_Program_setEdges_1 ?_
  refine mr_iload_n C 1 md_Program_setEdges_4 rfl rfl ?_
  refine mr_iload_n C 2 md_Program_setEdges_5 rfl rfl ?_
  refine mr_iast C 19 10 (by decide) (by decide) (fun _ _ => rfl) h.1 md_Program_setEdges_6 ?_
  replace h := h.2
  refine mr_aload_n C 0 md_Program_setEdges_7 rfl rfl ?_
  refine mr_get C 1 8 mc_Program_cls ml_56 rfl (by decide) (by decide) (fun _ => rfl) rfl md_Program_setEdges_8 ?_
  refine mr_iload_n C 1 md_Program_setEdges_11 rfl rfl ?_
  refine mr_iload_n C 3 md_Program_setEdges_12 rfl rfl ?_
  refine mr_iast C 20 10 (by decide) (by decide) (fun _ _ => rfl) h.1 md_Program_setEdges_13 ?_
  replace h := h.2
  exact mr_vret C R h md_Program_setEdges_14
/-- ValueMill$Program.edges(I)I: what it does, as a transformer of what must hold behind it -/
def mw_Program_edges (K : Int32 → mz_St → Prop) (a0 : Int32) (s0 : mz_St) : Prop :=
  vp_in a0 10 ∧
  ((¬ (mz_rd s0 17 a0) = 0 →
   vp_in a0 10 ∧
   ((¬ (mz_rd s0 17 a0) = 1 →
    K 2 s0) ∧
   ((mz_rd s0 17 a0) = 1 →
    K 1 s0))) ∧
  ((mz_rd s0 17 a0) = 0 →
   K 0 s0))
set_option maxRecDepth 100000 in
set_option maxHeartbeats 4000000 in
theorem ms_Program_edges (l : Launch) (E : mz_En) (hI : mz_Inj E) (K : Int32 → mz_St → Prop) (a0 : Int32) (s0 : mz_St) (h : mw_Program_edges K a0 s0) : mz_Ci l E my_Program_edges mb_Program_edges 2 (some .int) (0) (0) [.ref (E.2.1 1), .int a0] s0 K := by
  refine mz_cti hI (by decide +kernel) (Nat.le_of_ble_eq_true rfl) (fun X C R => ?_)
  show mz_G E X 2 0 [(0, .ref (E.2.1 1)), (1, .int a0)] [] s0
  unfold mw_Program_edges at h
  refine mr_aload_n C 0 md_Program_edges_0 rfl rfl ?_
  refine mr_get C 1 5 mc_Program_cls ml_50 rfl (by decide) (by decide) (fun _ => rfl) rfl md_Program_edges_1 ?_
  refine mr_iload_n C 1 md_Program_edges_4 rfl rfl ?_
  refine mr_iald C 17 10 (by decide) (fun _ => rfl) h.1 md_Program_edges_5 ?_
  replace h := h.2
  refine mr_if_ne C md_Program_edges_6 rfl (fun hc => ?_) (fun hc => ?_)
  · replace h := h.1 hc
    refine mr_aload_n C 0 md_Program_edges_13 rfl rfl ?_
    refine mr_get C 1 5 mc_Program_cls ml_50 rfl (by decide) (by decide) (fun _ => rfl) rfl md_Program_edges_14 ?_
    refine mr_iload_n C 1 md_Program_edges_17 rfl rfl ?_
    refine mr_iald C 17 10 (by decide) (fun _ => rfl) h.1 md_Program_edges_18 ?_
    replace h := h.2
    refine mr_iconst C md_Program_edges_19 mk_iconst_1 ?_
    refine mr_icmp_ne C md_Program_edges_20 rfl (fun hc => ?_) (fun hc => ?_)
    · replace h := h.1 hc
      refine mr_iconst C md_Program_edges_27 mk_iconst_2 ?_
      exact mr_iret C R h md_Program_edges_28
    replace h := h.2 hc
    refine mr_iconst C md_Program_edges_23 mk_iconst_1 ?_
    refine mr_goto C md_Program_edges_24 rfl ?_
    exact mr_iret C R h md_Program_edges_28
  replace h := h.2 hc
  refine mr_iconst C md_Program_edges_9 mk_iconst_0 ?_
  refine mr_goto C md_Program_edges_10 rfl ?_
  exact mr_iret C R h md_Program_edges_28
/-- ValueMill$Program.target(II)I: what it does, as a transformer of what must hold behind it -/
def mw_Program_target (K : Int32 → mz_St → Prop) (a0 : Int32) (a1 : Int32) (s0 : mz_St) : Prop :=
  ((¬ a1 = 0 →
   vp_in a0 10 ∧
   K (mz_rd s0 20 a0) s0) ∧
  (a1 = 0 →
   vp_in a0 10 ∧
   K (mz_rd s0 19 a0) s0))
set_option maxRecDepth 100000 in
set_option maxHeartbeats 4000000 in
theorem ms_Program_target (l : Launch) (E : mz_En) (hI : mz_Inj E) (K : Int32 → mz_St → Prop) (a0 : Int32) (a1 : Int32) (s0 : mz_St) (h : mw_Program_target K a0 a1 s0) : mz_Ci l E my_Program_target mb_Program_target 3 (some .int) (0) (0) [.ref (E.2.1 1), .int a0, .int a1] s0 K := by
  refine mz_cti hI (by decide +kernel) (Nat.le_of_ble_eq_true rfl) (fun X C R => ?_)
  show mz_G E X 3 0 [(0, .ref (E.2.1 1)), (1, .int a0), (2, .int a1)] [] s0
  unfold mw_Program_target at h
  refine mr_iload_n C 2 md_Program_target_0 rfl rfl ?_
  refine mr_if_ne C md_Program_target_1 rfl (fun hc => ?_) (fun hc => ?_)
  · replace h := h.1 hc
    refine mr_aload_n C 0 md_Program_target_13 rfl rfl ?_
    refine mr_get C 1 8 mc_Program_cls ml_56 rfl (by decide) (by decide) (fun _ => rfl) rfl md_Program_target_14 ?_
    refine mr_iload_n C 1 md_Program_target_17 rfl rfl ?_
    refine mr_iald C 20 10 (by decide) (fun _ => rfl) h.1 md_Program_target_18 ?_
    replace h := h.2
    exact mr_iret C R h md_Program_target_19
  replace h := h.2 hc
  refine mr_aload_n C 0 md_Program_target_4 rfl rfl ?_
  refine mr_get C 1 7 mc_Program_cls ml_55 rfl (by decide) (by decide) (fun _ => rfl) rfl md_Program_target_5 ?_
  refine mr_iload_n C 1 md_Program_target_8 rfl rfl ?_
  refine mr_iald C 19 10 (by decide) (fun _ => rfl) h.1 md_Program_target_9 ?_
  replace h := h.2
  refine mr_goto C md_Program_target_10 rfl ?_
  exact mr_iret C R h md_Program_target_19
/-- ValueMill$Program.endTakesTemp(I)Z: what it does, as a transformer of what must hold behind it -/
def mw_Program_endTakesTemp (K : Int32 → mz_St → Prop) (a0 : Int32) (s0 : mz_St) : Prop :=
  vp_in a0 10 ∧
  (((mz_rd s0 17 a0) = 1 →
   K 0 s0) ∧
  (¬ (mz_rd s0 17 a0) = 1 →
   K 1 s0))
set_option maxRecDepth 100000 in
set_option maxHeartbeats 4000000 in
theorem ms_Program_endTakesTemp (l : Launch) (E : mz_En) (hI : mz_Inj E) (K : Int32 → mz_St → Prop) (a0 : Int32) (s0 : mz_St) (h : mw_Program_endTakesTemp K a0 s0) : mz_Ci l E my_Program_endTakesTemp mb_Program_endTakesTemp 2 (some .boolean) (0) (0) [.ref (E.2.1 1), .int a0] s0 K := by
  refine mz_cti hI (by decide +kernel) (Nat.le_of_ble_eq_true rfl) (fun X C R => ?_)
  show mz_G E X 2 0 [(0, .ref (E.2.1 1)), (1, .int a0)] [] s0
  unfold mw_Program_endTakesTemp at h
  refine mr_aload_n C 0 md_Program_endTakesTemp_0 rfl rfl ?_
  refine mr_get C 1 5 mc_Program_cls ml_50 rfl (by decide) (by decide) (fun _ => rfl) rfl md_Program_endTakesTemp_1 ?_
  refine mr_iload_n C 1 md_Program_endTakesTemp_4 rfl rfl ?_
  refine mr_iald C 17 10 (by decide) (fun _ => rfl) h.1 md_Program_endTakesTemp_5 ?_
  replace h := h.2
  refine mr_iconst C md_Program_endTakesTemp_6 mk_iconst_1 ?_
  refine mr_icmp_eq C md_Program_endTakesTemp_7 rfl (fun hc => ?_) (fun hc => ?_)
  · replace h := h.1 hc
    refine mr_iconst C md_Program_endTakesTemp_14 mk_iconst_0 ?_
    exact mr_zret C R mb_0 h md_Program_endTakesTemp_15
  replace h := h.2 hc
  refine mr_iconst C md_Program_endTakesTemp_10 mk_iconst_1 ?_
  refine mr_goto C md_Program_endTakesTemp_11 rfl ?_
  exact mr_zret C R mb_1 h md_Program_endTakesTemp_15
/-- ValueMill$Program.takesA(I)Z: what it does, as a transformer of what must hold behind it -/
def mw_Program_takesA (K : Int32 → mz_St → Prop) (a0 : Int32) (s0 : mz_St) : Prop :=
  vp_in a0 120 ∧
  (((mz_rd s0 12 a0) = 0 →
   K 0 s0) ∧
  (¬ (mz_rd s0 12 a0) = 0 →
   K 1 s0))
set_option maxRecDepth 100000 in
set_option maxHeartbeats 4000000 in
theorem ms_Program_takesA (l : Launch) (E : mz_En) (hI : mz_Inj E) (K : Int32 → mz_St → Prop) (a0 : Int32) (s0 : mz_St) (h : mw_Program_takesA K a0 s0) : mz_Ci l E my_Program_takesA mb_Program_takesA 2 (some .boolean) (0) (0) [.ref (E.2.1 1), .int a0] s0 K := by
  refine mz_cti hI (by decide +kernel) (Nat.le_of_ble_eq_true rfl) (fun X C R => ?_)
  show mz_G E X 2 0 [(0, .ref (E.2.1 1)), (1, .int a0)] [] s0
  unfold mw_Program_takesA at h
  refine mr_aload_n C 0 md_Program_takesA_0 rfl rfl ?_
  refine mr_get C 1 0 mc_Program_cls ml_29 rfl (by decide) (by decide) (fun _ => rfl) rfl md_Program_takesA_1 ?_
  refine mr_iload_n C 1 md_Program_takesA_4 rfl rfl ?_
  refine mr_iald C 12 120 (by decide) (fun _ => rfl) h.1 md_Program_takesA_5 ?_
  replace h := h.2
  refine mr_if_eq C md_Program_takesA_6 rfl (fun hc => ?_) (fun hc => ?_)
  · replace h := h.1 hc
    refine mr_iconst C md_Program_takesA_13 mk_iconst_0 ?_
    exact mr_zret C R mb_0 h md_Program_takesA_14
  replace h := h.2 hc
  refine mr_iconst C md_Program_takesA_9 mk_iconst_1 ?_
  refine mr_goto C md_Program_takesA_10 rfl ?_
  exact mr_zret C R mb_1 h md_Program_takesA_14
def mw_Program_takesB_32 (K : Int32 → mz_St → Prop) (s32 : mz_St) : Prop :=
  K 1 s32
/-- ValueMill$Program.takesB(I)Z: what it does, as a transformer of what must hold behind it -/
def mw_Program_takesB (K : Int32 → mz_St → Prop) (a0 : Int32) (s0 : mz_St) : Prop :=
  vp_in a0 120 ∧
  (∀ P32 : mz_St → Prop, (∀ (s32 : mz_St), mw_Program_takesB_32 K s32 → P32 s32) →
  (((mz_rd s0 12 a0) = 17 →
   P32 s0) ∧
  (¬ (mz_rd s0 12 a0) = 17 →
   vp_in a0 120 ∧
   (((mz_rd s0 12 a0) ≤ 1 →
    K 0 s0) ∧
   (¬ (mz_rd s0 12 a0) ≤ 1 →
    vp_in a0 120 ∧
    ((16 ≤ (mz_rd s0 12 a0) →
     K 0 s0) ∧
    (¬ 16 ≤ (mz_rd s0 12 a0) →
     P32 s0)))))))
set_option maxRecDepth 100000 in
set_option maxHeartbeats 4000000 in
theorem ms_Program_takesB (l : Launch) (E : mz_En) (hI : mz_Inj E) (K : Int32 → mz_St → Prop) (a0 : Int32) (s0 : mz_St) (h : mw_Program_takesB K a0 s0) : mz_Ci l E my_Program_takesB mb_Program_takesB 2 (some .boolean) (0) (0) [.ref (E.2.1 1), .int a0] s0 K := by
  refine mz_cti hI (by decide +kernel) (Nat.le_of_ble_eq_true rfl) (fun X C R => ?_)
  show mz_G E X 2 0 [(0, .ref (E.2.1 1)), (1, .int a0)] [] s0
  unfold mw_Program_takesB at h
  refine mr_aload_n C 0 md_Program_takesB_0 rfl rfl ?_
  refine mr_get C 1 0 mc_Program_cls ml_29 rfl (by decide) (by decide) (fun _ => rfl) rfl md_Program_takesB_1 ?_
  refine mr_iload_n C 1 md_Program_takesB_4 rfl rfl ?_
  refine mr_iald C 12 120 (by decide) (fun _ => rfl) h.1 md_Program_takesB_5 ?_
  replace h := h.2
  refine mr_bipush C md_Program_takesB_6 mk_bipush_17 ?_
  refine mj (h (fun (s32 : mz_St) => mz_G E X 2 32 [] [] s32) (fun s32 h => ?_)) (fun h => ?_)
  · unfold mw_Program_takesB_32 at h
    refine mr_iconst C md_Program_takesB_32 mk_iconst_1 ?_
    refine mr_goto C md_Program_takesB_33 rfl ?_
    exact mr_zret C R mb_1 h md_Program_takesB_37
  refine mr_icmp_eq C md_Program_takesB_8 rfl (fun hc => ?_) (fun hc => ?_)
  · replace h := h.1 hc
    refine mr_sub [] rfl ?_
    exact h
  replace h := h.2 hc
  refine mr_aload_n C 0 md_Program_takesB_11 rfl rfl ?_
  refine mr_get C 1 0 mc_Program_cls ml_29 rfl (by decide) (by decide) (fun _ => rfl) rfl md_Program_takesB_12 ?_
  refine mr_iload_n C 1 md_Program_takesB_15 rfl rfl ?_
  refine mr_iald C 12 120 (by decide) (fun _ => rfl) h.1 md_Program_takesB_16 ?_
  replace h := h.2
  refine mr_iconst C md_Program_takesB_17 mk_iconst_1 ?_
  refine mr_icmp_le C md_Program_takesB_18 rfl (fun hc => ?_) (fun hc => ?_)
  · replace h := h.1 hc
    refine mr_iconst C md_Program_takesB_36 mk_iconst_0 ?_
    exact mr_zret C R mb_0 h md_Program_takesB_37
  replace h := h.2 hc
  refine mr_aload_n C 0 md_Program_takesB_21 rfl rfl ?_
  refine mr_get C 1 0 mc_Program_cls ml_29 rfl (by decide) (by decide) (fun _ => rfl) rfl md_Program_takesB_22 ?_
  refine mr_iload_n C 1 md_Program_takesB_25 rfl rfl ?_
  refine mr_iald C 12 120 (by decide) (fun _ => rfl) h.1 md_Program_takesB_26 ?_
  replace h := h.2
  refine mr_bipush C md_Program_takesB_27 mk_bipush_16 ?_
  refine mr_icmp_ge C md_Program_takesB_29 rfl (fun hc => ?_) (fun hc => ?_)
  · replace h := h.1 hc
    refine mr_iconst C md_Program_takesB_36 mk_iconst_0 ?_
    exact mr_zret C R mb_0 h md_Program_takesB_37
  replace h := h.2 hc
  refine mr_sub [] rfl ?_
  exact h
/-- ValueMill$Program.makesValue(I)Z: what it does, as a transformer of what must hold behind it -/
def mw_Program_makesValue (K : Int32 → mz_St → Prop) (a0 : Int32) (s0 : mz_St) : Prop :=
  vp_in a0 120 ∧
  (((mz_rd s0 12 a0) = 17 →
   K 0 s0) ∧
  (¬ (mz_rd s0 12 a0) = 17 →
   K 1 s0))
set_option maxRecDepth 100000 in
set_option maxHeartbeats 4000000 in
theorem ms_Program_makesValue (l : Launch) (E : mz_En) (hI : mz_Inj E) (K : Int32 → mz_St → Prop) (a0 : Int32) (s0 : mz_St) (h : mw_Program_makesValue K a0 s0) : mz_Ci l E my_Program_makesValue mb_Program_makesValue 2 (some .boolean) (0) (0) [.ref (E.2.1 1), .int a0] s0 K := by
  refine mz_cti hI (by decide +kernel) (Nat.le_of_ble_eq_true rfl) (fun X C R => ?_)
  show mz_G E X 2 0 [(0, .ref (E.2.1 1)), (1, .int a0)] [] s0
  unfold mw_Program_makesValue at h
  refine mr_aload_n C 0 md_Program_makesValue_0 rfl rfl ?_
  refine mr_get C 1 0 mc_Program_cls ml_29 rfl (by decide) (by decide) (fun _ => rfl) rfl md_Program_makesValue_1 ?_
  refine mr_iload_n C 1 md_Program_makesValue_4 rfl rfl ?_
  refine mr_iald C 12 120 (by decide) (fun _ => rfl) h.1 md_Program_makesValue_5 ?_
  replace h := h.2
  refine mr_bipush C md_Program_makesValue_6 mk_bipush_17 ?_
  refine mr_icmp_eq C md_Program_makesValue_8 rfl (fun hc => ?_) (fun hc => ?_)
  · replace h := h.1 hc
    refine mr_iconst C md_Program_makesValue_15 mk_iconst_0 ?_
    exact mr_zret C R mb_0 h md_Program_makesValue_16
  replace h := h.2 hc
  refine mr_iconst C md_Program_makesValue_11 mk_iconst_1 ?_
  refine mr_goto C md_Program_makesValue_12 rfl ?_
  exact mr_zret C R mb_1 h md_Program_makesValue_16
def mw_Program_usedSet_20 (K : Int32 → mz_St → Prop) (a0 : Int32) (y0_20 : Int32) (s20 : mz_St) : Prop :=
  mw_Program_takesB (fun r2 u2 =>
   ((r2 = 0 →
    K (y0_20 ||| 0) u2) ∧
   (¬ r2 = 0 →
    vp_in a0 120 ∧
    K (y0_20 ||| ((1 : Int32) <<< ((mz_rd u2 15 a0) &&& 31))) u2))) a0 s20
/-- ValueMill$Program.usedSet(I)I: what it does, as a transformer of what must hold behind it -/
def mw_Program_usedSet (K : Int32 → mz_St → Prop) (a0 : Int32) (s0 : mz_St) : Prop :=
  mw_Program_takesA (fun r1 u1 =>
   (∀ P20 : Int32 → mz_St → Prop, (∀ (y0_20 : Int32) (s20 : mz_St), mw_Program_usedSet_20 K a0 y0_20 s20 → P20 y0_20 s20) →
   ((r1 = 0 →
    P20 0 u1) ∧
   (¬ r1 = 0 →
    vp_in a0 120 ∧
    P20 ((1 : Int32) <<< ((mz_rd u1 14 a0) &&& 31)) u1)))) a0 s0
set_option maxRecDepth 100000 in
set_option maxHeartbeats 4000000 in
theorem ms_Program_usedSet (l : Launch) (E : mz_En) (hI : mz_Inj E) (K : Int32 → mz_St → Prop) (a0 : Int32) (s0 : mz_St) (h : mw_Program_usedSet K a0 s0) : mz_Ci l E my_Program_usedSet mb_Program_usedSet 2 (some .int) (1) (21) [.ref (E.2.1 1), .int a0] s0 K := by
  refine mz_cti hI (by decide +kernel) (Nat.le_of_ble_eq_true rfl) (fun X C R => ?_)
  show mz_G E X 2 0 [(0, .ref (E.2.1 1)), (1, .int a0)] [] s0
  unfold mw_Program_usedSet at h
  refine mr_aload_n C 0 md_Program_usedSet_0 rfl rfl ?_
  refine mr_iload_n C 1 md_Program_usedSet_1 rfl rfl ?_
  refine mr_cVi C (As := [.int a0]) (rest := []) 1 (ms_Program_takesA _ E hI _ a0 _ h) mo_Program_takesA mi_Program_takesA mc_Program_cls ml_631 (by decide) (fun _ => rfl) rfl rfl (Nat.le_of_ble_eq_true rfl) (Nat.le_of_ble_eq_true rfl) (Nat.le_of_ble_eq_true rfl) md_Program_usedSet_2 (fun r1 u1 h => ?_)
  refine mj (h (fun (y0_20 : Int32) (s20 : mz_St) => mz_G E X 2 20 [(0, .ref (E.2.1 1)), (1, .int a0)] [.int y0_20] s20) (fun y0_20 s20 h => ?_)) (fun h => ?_)
  · unfold mw_Program_usedSet_20 at h
    refine mr_aload_n C 0 md_Program_usedSet_20 rfl rfl ?_
    refine mr_iload_n C 1 md_Program_usedSet_21 rfl rfl ?_
    refine mr_cVi C (As := [.int a0]) (rest := [.int y0_20]) 1 (ms_Program_takesB _ E hI _ a0 _ h) mo_Program_takesB mi_Program_takesB mc_Program_cls ml_632 (by decide) (fun _ => rfl) rfl rfl (Nat.le_of_ble_eq_true rfl) (Nat.le_of_ble_eq_true rfl) (Nat.le_of_ble_eq_true rfl) md_Program_usedSet_22 (fun r2 u2 h => ?_)
    refine mr_if_eq C md_Program_usedSet_25 rfl (fun hc => ?_) (fun hc => ?_)
    · replace h := h.1 hc
      refine mr_iconst C md_Program_usedSet_39 mk_iconst_0 ?_
      refine mr_ior C md_Program_usedSet_40 ?_
      exact mr_iret C R h md_Program_usedSet_41
    replace h := h.2 hc
    refine mr_iconst C md_Program_usedSet_28 mk_iconst_1 ?_
    refine mr_aload_n C 0 md_Program_usedSet_29 rfl rfl ?_
    refine mr_get C 1 3 mc_Program_cls ml_40 rfl (by decide) (by decide) (fun _ => rfl) rfl md_Program_usedSet_30 ?_
    refine mr_iload_n C 1 md_Program_usedSet_33 rfl rfl ?_
    refine mr_iald C 15 120 (by decide) (fun _ => rfl) h.1 md_Program_usedSet_34 ?_
    replace h := h.2
    refine mr_ishl C md_Program_usedSet_35 ?_
    refine mr_goto C md_Program_usedSet_36 rfl ?_
    refine mr_ior C md_Program_usedSet_40 ?_
    exact mr_iret C R h md_Program_usedSet_41
  refine mr_if_eq C md_Program_usedSet_5 rfl (fun hc => ?_) (fun hc => ?_)
  · replace h := h.1 hc
    refine mr_iconst C md_Program_usedSet_19 mk_iconst_0 ?_
    exact h
  replace h := h.2 hc
  refine mr_iconst C md_Program_usedSet_8 mk_iconst_1 ?_
  refine mr_aload_n C 0 md_Program_usedSet_9 rfl rfl ?_
  refine mr_get C 1 2 mc_Program_cls ml_36 rfl (by decide) (by decide) (fun _ => rfl) rfl md_Program_usedSet_10 ?_
  refine mr_iload_n C 1 md_Program_usedSet_13 rfl rfl ?_
  refine mr_iald C 14 120 (by decide) (fun _ => rfl) h.1 md_Program_usedSet_14 ?_
  replace h := h.2
  refine mr_ishl C md_Program_usedSet_15 ?_
  refine mr_goto C md_Program_usedSet_16 rfl ?_
  exact h
/-- ValueMill$Program.madeSet(I)I: what it does, as a transformer of what must hold behind it -/
def mw_Program_madeSet (K : Int32 → mz_St → Prop) (a0 : Int32) (s0 : mz_St) : Prop :=
  mw_Program_makesValue (fun r1 u1 =>
   ((r1 = 0 →
    K 0 u1) ∧
   (¬ r1 = 0 →
    vp_in a0 120 ∧
    K ((1 : Int32) <<< ((mz_rd u1 13 a0) &&& 31)) u1))) a0 s0
set_option maxRecDepth 100000 in
set_option maxHeartbeats 4000000 in
theorem ms_Program_madeSet (l : Launch) (E : mz_En) (hI : mz_Inj E) (K : Int32 → mz_St → Prop) (a0 : Int32) (s0 : mz_St) (h : mw_Program_madeSet K a0 s0) : mz_Ci l E my_Program_madeSet mb_Program_madeSet 2 (some .int) (1) (21) [.ref (E.2.1 1), .int a0] s0 K := by
  refine mz_cti hI (by decide +kernel) (Nat.le_of_ble_eq_true rfl) (fun X C R => ?_)
  show mz_G E X 2 0 [(0, .ref (E.2.1 1)), (1, .int a0)] [] s0
  unfold mw_Program_madeSet at h
  refine mr_aload_n C 0 md_Program_madeSet_0 rfl rfl ?_
  refine mr_iload_n C 1 md_Program_madeSet_1 rfl rfl ?_
  refine mr_cVi C (As := [.int a0]) (rest := []) 1 (ms_Program_makesValue _ E hI _ a0 _ h) mo_Program_makesValue mi_Program_makesValue mc_Program_cls ml_637 (by decide) (fun _ => rfl) rfl rfl (Nat.le_of_ble_eq_true rfl) (Nat.le_of_ble_eq_true rfl) (Nat.le_of_ble_eq_true rfl) md_Program_madeSet_2 (fun r1 u1 h => ?_)
  refine mr_if_eq C md_Program_madeSet_5 rfl (fun hc => ?_) (fun hc => ?_)
  · replace h := h.1 hc
    refine mr_iconst C md_Program_madeSet_19 mk_iconst_0 ?_
    exact mr_iret C R h md_Program_madeSet_20
  replace h := h.2 hc
  refine mr_iconst C md_Program_madeSet_8 mk_iconst_1 ?_
  refine mr_aload_n C 0 md_Program_madeSet_9 rfl rfl ?_
  refine mr_get C 1 1 mc_Program_cls ml_32 rfl (by decide) (by decide) (fun _ => rfl) rfl md_Program_madeSet_10 ?_
  refine mr_iload_n C 1 md_Program_madeSet_13 rfl rfl ?_
  refine mr_iald C 13 120 (by decide) (fun _ => rfl) h.1 md_Program_madeSet_14 ?_
  replace h := h.2
  refine mr_ishl C md_Program_madeSet_15 ?_
  refine mr_goto C md_Program_madeSet_16 rfl ?_
  exact mr_iret C R h md_Program_madeSet_20
/-- ValueMill$Program.usedAtEndSet(I)I: what it does, as a transformer of what must hold behind it -/
def mw_Program_usedAtEndSet (K : Int32 → mz_St → Prop) (a0 : Int32) (s0 : mz_St) : Prop :=
  mw_Program_endTakesTemp (fun r1 u1 =>
   ((r1 = 0 →
    K 0 u1) ∧
   (¬ r1 = 0 →
    vp_in a0 10 ∧
    K ((1 : Int32) <<< ((mz_rd u1 18 a0) &&& 31)) u1))) a0 s0
set_option maxRecDepth 100000 in
set_option maxHeartbeats 4000000 in
theorem ms_Program_usedAtEndSet (l : Launch) (E : mz_En) (hI : mz_Inj E) (K : Int32 → mz_St → Prop) (a0 : Int32) (s0 : mz_St) (h : mw_Program_usedAtEndSet K a0 s0) : mz_Ci l E my_Program_usedAtEndSet mb_Program_usedAtEndSet 2 (some .int) (1) (21) [.ref (E.2.1 1), .int a0] s0 K := by
  refine mz_cti hI (by decide +kernel) (Nat.le_of_ble_eq_true rfl) (fun X C R => ?_)
  show mz_G E X 2 0 [(0, .ref (E.2.1 1)), (1, .int a0)] [] s0
  unfold mw_Program_usedAtEndSet at h
  refine mr_aload_n C 0 md_Program_usedAtEndSet_0 rfl rfl ?_
  refine mr_iload_n C 1 md_Program_usedAtEndSet_1 rfl rfl ?_
  refine mr_cVi C (As := [.int a0]) (rest := []) 1 (ms_Program_endTakesTemp _ E hI _ a0 _ h) mo_Program_endTakesTemp mi_Program_endTakesTemp mc_Program_cls ml_645 (by decide) (fun _ => rfl) rfl rfl (Nat.le_of_ble_eq_true rfl) (Nat.le_of_ble_eq_true rfl) (Nat.le_of_ble_eq_true rfl) md_Program_usedAtEndSet_2 (fun r1 u1 h => ?_)
  refine mr_if_eq C md_Program_usedAtEndSet_5 rfl (fun hc => ?_) (fun hc => ?_)
  · replace h := h.1 hc
    refine mr_iconst C md_Program_usedAtEndSet_19 mk_iconst_0 ?_
    exact mr_iret C R h md_Program_usedAtEndSet_20
  replace h := h.2 hc
  refine mr_iconst C md_Program_usedAtEndSet_8 mk_iconst_1 ?_
  refine mr_aload_n C 0 md_Program_usedAtEndSet_9 rfl rfl ?_
  refine mr_get C 1 6 mc_Program_cls ml_52 rfl (by decide) (by decide) (fun _ => rfl) rfl md_Program_usedAtEndSet_10 ?_
  refine mr_iload_n C 1 md_Program_usedAtEndSet_13 rfl rfl ?_
  refine mr_iald C 18 10 (by decide) (fun _ => rfl) h.1 md_Program_usedAtEndSet_14 ?_
  replace h := h.2
  refine mr_ishl C md_Program_usedAtEndSet_15 ?_
  refine mr_goto C md_Program_usedAtEndSet_16 rfl ?_
  exact mr_iret C R h md_Program_usedAtEndSet_20
end
