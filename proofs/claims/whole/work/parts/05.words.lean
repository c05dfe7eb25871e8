/-! BEGIN words, methods, constants: printed -/
abbrev mb_Mill_isTemp : ByteArray := prog_1_method_23_code
def my_Mill_isTemp : MethodName := ⟨"ValueMill", "isTemp", "(I)Z"⟩
theorem mo_Mill_isTemp : mz_ok my_Mill_isTemp mb_Mill_isTemp 1 (some .boolean) 1 := ⟨mz_in (i := 591) (by decide +kernel) (by decide +kernel), mz_in (i := 108) (by decide +kernel) (by decide +kernel), ⟨by decide +kernel, by decide +kernel⟩, by decide +kernel⟩
theorem mt_Mill_isTemp : Cond.static my_Mill_isTemp ∈ mz_TB := mz_in (i := 590) (by decide +kernel) (by decide +kernel)
abbrev mb_Mill_isWord : ByteArray := prog_1_method_24_code
def my_Mill_isWord : MethodName := ⟨"ValueMill", "isWord", "(I)Z"⟩
theorem mo_Mill_isWord : mz_ok my_Mill_isWord mb_Mill_isWord 1 (some .boolean) 1 := ⟨mz_in (i := 622) (by decide +kernel) (by decide +kernel), mz_in (i := 108) (by decide +kernel) (by decide +kernel), ⟨by decide +kernel, by decide +kernel⟩, by decide +kernel⟩
theorem mt_Mill_isWord : Cond.static my_Mill_isWord ∈ mz_TB := mz_in (i := 621) (by decide +kernel) (by decide +kernel)
abbrev mb_Mill_isSuch : ByteArray := prog_1_method_25_code
def my_Mill_isSuch : MethodName := ⟨"ValueMill", "isSuch", "(IIII)Z"⟩
theorem mo_Mill_isSuch : mz_ok my_Mill_isSuch mb_Mill_isSuch 4 (some .boolean) 4 := ⟨mz_in (i := 588) (by decide +kernel) (by decide +kernel), mz_in (i := 108) (by decide +kernel) (by decide +kernel), ⟨by decide +kernel, by decide +kernel⟩, by decide +kernel⟩
theorem mt_Mill_isSuch : Cond.static my_Mill_isSuch ∈ mz_TB := mz_in (i := 587) (by decide +kernel) (by decide +kernel)
abbrev mb_Mill_isIn : ByteArray := prog_1_method_26_code
def my_Mill_isIn : MethodName := ⟨"ValueMill", "isIn", "(II)Z"⟩
theorem mo_Mill_isIn : mz_ok my_Mill_isIn mb_Mill_isIn 2 (some .boolean) 2 := ⟨mz_in (i := 696) (by decide +kernel) (by decide +kernel), mz_in (i := 108) (by decide +kernel) (by decide +kernel), ⟨by decide +kernel, by decide +kernel⟩, by decide +kernel⟩
theorem mt_Mill_isIn : Cond.static my_Mill_isIn ∈ mz_TB := mz_in (i := 695) (by decide +kernel) (by decide +kernel)
abbrev mb_Mill_failsToDivide : ByteArray := prog_1_method_27_code
def my_Mill_failsToDivide : MethodName := ⟨"ValueMill", "failsToDivide", "(III)Z"⟩
theorem mo_Mill_failsToDivide : mz_ok my_Mill_failsToDivide mb_Mill_failsToDivide 3 (some .boolean) 3 := ⟨mz_in (i := 855) (by decide +kernel) (by decide +kernel), mz_in (i := 108) (by decide +kernel) (by decide +kernel), ⟨by decide +kernel, by decide +kernel⟩, by decide +kernel⟩
theorem mt_Mill_failsToDivide : Cond.static my_Mill_failsToDivide ∈ mz_TB := mz_in (i := 854) (by decide +kernel) (by decide +kernel)
abbrev mb_Mill_reckon : ByteArray := prog_1_method_28_code
def my_Mill_reckon : MethodName := ⟨"ValueMill", "reckon", "(III)I"⟩
theorem mo_Mill_reckon : mz_ok my_Mill_reckon mb_Mill_reckon 3 (some .int) 3 := ⟨mz_in (i := 859) (by decide +kernel) (by decide +kernel), mz_in (i := 108) (by decide +kernel) (by decide +kernel), ⟨by decide +kernel, by decide +kernel⟩, by decide +kernel⟩
theorem mt_Mill_reckon : Cond.static my_Mill_reckon ∈ mz_TB := mz_in (i := 858) (by decide +kernel) (by decide +kernel)
abbrev mb_Mill_phiName : ByteArray := prog_1_method_29_code
def my_Mill_phiName : MethodName := ⟨"ValueMill", "phiName", "(II)I"⟩
theorem mo_Mill_phiName : mz_ok my_Mill_phiName mb_Mill_phiName 2 (some .int) 2 := ⟨mz_in (i := 782) (by decide +kernel) (by decide +kernel), mz_in (i := 108) (by decide +kernel) (by decide +kernel), ⟨by decide +kernel, by decide +kernel⟩, by decide +kernel⟩
theorem mt_Mill_phiName : Cond.static my_Mill_phiName ∈ mz_TB := mz_in (i := 781) (by decide +kernel) (by decide +kernel)
abbrev mb_Mill_madeName : ByteArray := prog_1_method_30_code
def my_Mill_madeName : MethodName := ⟨"ValueMill", "madeName", "(I)I"⟩
theorem mo_Mill_madeName : mz_ok my_Mill_madeName mb_Mill_madeName 1 (some .int) 1 := ⟨mz_in (i := 792) (by decide +kernel) (by decide +kernel), mz_in (i := 108) (by decide +kernel) (by decide +kernel), ⟨by decide +kernel, by decide +kernel⟩, by decide +kernel⟩
theorem mt_Mill_madeName : Cond.static my_Mill_madeName ∈ mz_TB := mz_in (i := 791) (by decide +kernel) (by decide +kernel)
abbrev mb_Mill_roadOf : ByteArray := prog_1_method_31_code
def my_Mill_roadOf : MethodName := ⟨"ValueMill", "roadOf", "(II)I"⟩
theorem mo_Mill_roadOf : mz_ok my_Mill_roadOf mb_Mill_roadOf 2 (some .int) 2 := ⟨mz_in (i := 1004) (by decide +kernel) (by decide +kernel), mz_in (i := 108) (by decide +kernel) (by decide +kernel), ⟨by decide +kernel, by decide +kernel⟩, by decide +kernel⟩
theorem mt_Mill_roadOf : Cond.static my_Mill_roadOf ∈ mz_TB := mz_in (i := 1003) (by decide +kernel) (by decide +kernel)
abbrev mb_Program_hasBlock : ByteArray := prog_9_method_2_code
def my_Program_hasBlock : MethodName := ⟨"ValueMill$Program", "hasBlock", "(I)Z"⟩
theorem mo_Program_hasBlock : mz_ok my_Program_hasBlock mb_Program_hasBlock 2 (some .boolean) 1 := ⟨mz_in (i := 585) (by decide +kernel) (by decide +kernel), mz_in (i := 109) (by decide +kernel) (by decide +kernel), ⟨by decide +kernel, by decide +kernel⟩, by decide +kernel⟩
theorem mi_Program_hasBlock : mz_oi my_Program_hasBlock := ⟨mz_in (i := 584) (by decide +kernel) (by decide +kernel), mz_in (i := 1) (by decide +kernel) (by decide +kernel)⟩
abbrev mb_Program_addOperation : ByteArray := prog_9_method_3_code
def my_Program_addOperation : MethodName := ⟨"ValueMill$Program", "addOperation", "(IIIII)V"⟩
theorem mo_Program_addOperation : mz_ok my_Program_addOperation mb_Program_addOperation 7 none 5 := ⟨mz_in (i := 595) (by decide +kernel) (by decide +kernel), mz_in (i := 109) (by decide +kernel) (by decide +kernel), ⟨by decide +kernel, by decide +kernel⟩, by decide +kernel⟩
theorem mi_Program_addOperation : mz_oi my_Program_addOperation := ⟨mz_in (i := 594) (by decide +kernel) (by decide +kernel), mz_in (i := 2) (by decide +kernel) (by decide +kernel)⟩
abbrev mb_Program_setEnd : ByteArray := prog_9_method_4_code
def my_Program_setEnd : MethodName := ⟨"ValueMill$Program", "setEnd", "(III)V"⟩
theorem mo_Program_setEnd : mz_ok my_Program_setEnd mb_Program_setEnd 4 none 3 := ⟨mz_in (i := 603) (by decide +kernel) (by decide +kernel), mz_in (i := 109) (by decide +kernel) (by decide +kernel), ⟨by decide +kernel, by decide +kernel⟩, by decide +kernel⟩
theorem mi_Program_setEnd : mz_oi my_Program_setEnd := ⟨mz_in (i := 602) (by decide +kernel) (by decide +kernel), mz_in (i := 3) (by decide +kernel) (by decide +kernel)⟩
abbrev mb_Program_setEdges : ByteArray := prog_9_method_5_code
def my_Program_setEdges : MethodName := ⟨"ValueMill$Program", "setEdges", "(III)V"⟩
theorem mo_Program_setEdges : mz_ok my_Program_setEdges mb_Program_setEdges 4 none 3 := ⟨mz_in (i := 607) (by decide +kernel) (by decide +kernel), mz_in (i := 109) (by decide +kernel) (by decide +kernel), ⟨by decide +kernel, by decide +kernel⟩, by decide +kernel⟩
theorem mi_Program_setEdges : mz_oi my_Program_setEdges := ⟨mz_in (i := 606) (by decide +kernel) (by decide +kernel), mz_in (i := 4) (by decide +kernel) (by decide +kernel)⟩
abbrev mb_Program_edges : ByteArray := prog_9_method_6_code
def my_Program_edges : MethodName := ⟨"ValueMill$Program", "edges", "(I)I"⟩
theorem mo_Program_edges : mz_ok my_Program_edges mb_Program_edges 2 (some .int) 1 := ⟨mz_in (i := 685) (by decide +kernel) (by decide +kernel), mz_in (i := 109) (by decide +kernel) (by decide +kernel), ⟨by decide +kernel, by decide +kernel⟩, by decide +kernel⟩
theorem mi_Program_edges : mz_oi my_Program_edges := ⟨mz_in (i := 684) (by decide +kernel) (by decide +kernel), mz_in (i := 18) (by decide +kernel) (by decide +kernel)⟩
abbrev mb_Program_target : ByteArray := prog_9_method_7_code
def my_Program_target : MethodName := ⟨"ValueMill$Program", "target", "(II)I"⟩
theorem mo_Program_target : mz_ok my_Program_target mb_Program_target 3 (some .int) 2 := ⟨mz_in (i := 689) (by decide +kernel) (by decide +kernel), mz_in (i := 109) (by decide +kernel) (by decide +kernel), ⟨by decide +kernel, by decide +kernel⟩, by decide +kernel⟩
theorem mi_Program_target : mz_oi my_Program_target := ⟨mz_in (i := 688) (by decide +kernel) (by decide +kernel), mz_in (i := 19) (by decide +kernel) (by decide +kernel)⟩
abbrev mb_Program_endTakesTemp : ByteArray := prog_9_method_8_code
def my_Program_endTakesTemp : MethodName := ⟨"ValueMill$Program", "endTakesTemp", "(I)Z"⟩
theorem mo_Program_endTakesTemp : mz_ok my_Program_endTakesTemp mb_Program_endTakesTemp 2 (some .boolean) 1 := ⟨mz_in (i := 755) (by decide +kernel) (by decide +kernel), mz_in (i := 109) (by decide +kernel) (by decide +kernel), ⟨by decide +kernel, by decide +kernel⟩, by decide +kernel⟩
theorem mi_Program_endTakesTemp : mz_oi my_Program_endTakesTemp := ⟨mz_in (i := 754) (by decide +kernel) (by decide +kernel), mz_in (i := 34) (by decide +kernel) (by decide +kernel)⟩
abbrev mb_Program_takesA : ByteArray := prog_9_method_9_code
def my_Program_takesA : MethodName := ⟨"ValueMill$Program", "takesA", "(I)Z"⟩
theorem mo_Program_takesA : mz_ok my_Program_takesA mb_Program_takesA 2 (some .boolean) 1 := ⟨mz_in (i := 653) (by decide +kernel) (by decide +kernel), mz_in (i := 109) (by decide +kernel) (by decide +kernel), ⟨by decide +kernel, by decide +kernel⟩, by decide +kernel⟩
theorem mi_Program_takesA : mz_oi my_Program_takesA := ⟨mz_in (i := 652) (by decide +kernel) (by decide +kernel), mz_in (i := 10) (by decide +kernel) (by decide +kernel)⟩
abbrev mb_Program_takesB : ByteArray := prog_9_method_10_code
def my_Program_takesB : MethodName := ⟨"ValueMill$Program", "takesB", "(I)Z"⟩
theorem mo_Program_takesB : mz_ok my_Program_takesB mb_Program_takesB 2 (some .boolean) 1 := ⟨mz_in (i := 657) (by decide +kernel) (by decide +kernel), mz_in (i := 109) (by decide +kernel) (by decide +kernel), ⟨by decide +kernel, by decide +kernel⟩, by decide +kernel⟩
theorem mi_Program_takesB : mz_oi my_Program_takesB := ⟨mz_in (i := 656) (by decide +kernel) (by decide +kernel), mz_in (i := 11) (by decide +kernel) (by decide +kernel)⟩
abbrev mb_Program_makesValue : ByteArray := prog_9_method_11_code
def my_Program_makesValue : MethodName := ⟨"ValueMill$Program", "makesValue", "(I)Z"⟩
theorem mo_Program_makesValue : mz_ok my_Program_makesValue mb_Program_makesValue 2 (some .boolean) 1 := ⟨mz_in (i := 747) (by decide +kernel) (by decide +kernel), mz_in (i := 109) (by decide +kernel) (by decide +kernel), ⟨by decide +kernel, by decide +kernel⟩, by decide +kernel⟩
theorem mi_Program_makesValue : mz_oi my_Program_makesValue := ⟨mz_in (i := 746) (by decide +kernel) (by decide +kernel), mz_in (i := 32) (by decide +kernel) (by decide +kernel)⟩
abbrev mb_Program_usedSet : ByteArray := prog_9_method_12_code
def my_Program_usedSet : MethodName := ⟨"ValueMill$Program", "usedSet", "(I)I"⟩
theorem mo_Program_usedSet : mz_ok my_Program_usedSet mb_Program_usedSet 2 (some .int) 1 := ⟨mz_in (i := 737) (by decide +kernel) (by decide +kernel), mz_in (i := 109) (by decide +kernel) (by decide +kernel), ⟨by decide +kernel, by decide +kernel⟩, by decide +kernel⟩
theorem mi_Program_usedSet : mz_oi my_Program_usedSet := ⟨mz_in (i := 736) (by decide +kernel) (by decide +kernel), mz_in (i := 30) (by decide +kernel) (by decide +kernel)⟩
abbrev mb_Program_madeSet : ByteArray := prog_9_method_13_code
def my_Program_madeSet : MethodName := ⟨"ValueMill$Program", "madeSet", "(I)I"⟩
theorem mo_Program_madeSet : mz_ok my_Program_madeSet mb_Program_madeSet 2 (some .int) 1 := ⟨mz_in (i := 743) (by decide +kernel) (by decide +kernel), mz_in (i := 109) (by decide +kernel) (by decide +kernel), ⟨by decide +kernel, by decide +kernel⟩, by decide +kernel⟩
theorem mi_Program_madeSet : mz_oi my_Program_madeSet := ⟨mz_in (i := 742) (by decide +kernel) (by decide +kernel), mz_in (i := 31) (by decide +kernel) (by decide +kernel)⟩
abbrev mb_Program_usedAtEndSet : ByteArray := prog_9_method_14_code
def my_Program_usedAtEndSet : MethodName := ⟨"ValueMill$Program", "usedAtEndSet", "(I)I"⟩
theorem mo_Program_usedAtEndSet : mz_ok my_Program_usedAtEndSet mb_Program_usedAtEndSet 2 (some .int) 1 := ⟨mz_in (i := 751) (by decide +kernel) (by decide +kernel), mz_in (i := 109) (by decide +kernel) (by decide +kernel), ⟨by decide +kernel, by decide +kernel⟩, by decide +kernel⟩
theorem mi_Program_usedAtEndSet : mz_oi my_Program_usedAtEndSet := ⟨mz_in (i := 750) (by decide +kernel) (by decide +kernel), mz_in (i := 33) (by decide +kernel) (by decide +kernel)⟩
abbrev mb_Flow_reachedFrom : ByteArray := prog_3_method_6_code
def my_Flow_reachedFrom : MethodName := ⟨"ValueMill$Flow", "reachedFrom", "(II)I"⟩
theorem mo_Flow_reachedFrom : mz_ok my_Flow_reachedFrom mb_Flow_reachedFrom 7 (some .int) 2 := ⟨mz_in (i := 693) (by decide +kernel) (by decide +kernel), mz_in (i := 110) (by decide +kernel) (by decide +kernel), ⟨by decide +kernel, by decide +kernel⟩, by decide +kernel⟩
theorem mi_Flow_reachedFrom : mz_oi my_Flow_reachedFrom := ⟨mz_in (i := 692) (by decide +kernel) (by decide +kernel), mz_in (i := 20) (by decide +kernel) (by decide +kernel)⟩
abbrev mb_Flow_findEdges : ByteArray := prog_3_method_5_code
def my_Flow_findEdges : MethodName := ⟨"ValueMill$Flow", "findEdges", "()V"⟩
theorem mo_Flow_findEdges : mz_ok my_Flow_findEdges mb_Flow_findEdges 3 none 0 := ⟨mz_in (i := 681) (by decide +kernel) (by decide +kernel), mz_in (i := 110) (by decide +kernel) (by decide +kernel), ⟨by decide +kernel, by decide +kernel⟩, by decide +kernel⟩
theorem mi_Flow_findEdges : mz_oi my_Flow_findEdges := ⟨mz_in (i := 680) (by decide +kernel) (by decide +kernel), mz_in (i := 17) (by decide +kernel) (by decide +kernel)⟩
abbrev mb_Flow_goThrough : ByteArray := prog_3_method_8_code
def my_Flow_goThrough : MethodName := ⟨"ValueMill$Flow", "goThrough", "(II)V"⟩
theorem mo_Flow_goThrough : mz_ok my_Flow_goThrough mb_Flow_goThrough 4 none 2 := ⟨mz_in (i := 705) (by decide +kernel) (by decide +kernel), mz_in (i := 110) (by decide +kernel) (by decide +kernel), ⟨by decide +kernel, by decide +kernel⟩, by decide +kernel⟩
theorem mi_Flow_goThrough : mz_oi my_Flow_goThrough := ⟨mz_in (i := 704) (by decide +kernel) (by decide +kernel), mz_in (i := 22) (by decide +kernel) (by decide +kernel)⟩
abbrev mb_Flow_findOrder : ByteArray := prog_3_method_7_code
def my_Flow_findOrder : MethodName := ⟨"ValueMill$Flow", "findOrder", "()V"⟩
theorem mo_Flow_findOrder : mz_ok my_Flow_findOrder mb_Flow_findOrder 3 none 0 := ⟨mz_in (i := 701) (by decide +kernel) (by decide +kernel), mz_in (i := 110) (by decide +kernel) (by decide +kernel), ⟨by decide +kernel, by decide +kernel⟩, by decide +kernel⟩
theorem mi_Flow_findOrder : mz_oi my_Flow_findOrder := ⟨mz_in (i := 700) (by decide +kernel) (by decide +kernel), mz_in (i := 21) (by decide +kernel) (by decide +kernel)⟩
abbrev mb_Flow_findDominators : ByteArray := prog_3_method_9_code
def my_Flow_findDominators : MethodName := ⟨"ValueMill$Flow", "findDominators", "()V"⟩
theorem mo_Flow_findDominators : mz_ok my_Flow_findDominators mb_Flow_findDominators 4 none 0 := ⟨mz_in (i := 709) (by decide +kernel) (by decide +kernel), mz_in (i := 110) (by decide +kernel) (by decide +kernel), ⟨by decide +kernel, by decide +kernel⟩, by decide +kernel⟩
theorem mi_Flow_findDominators : mz_oi my_Flow_findDominators := ⟨mz_in (i := 708) (by decide +kernel) (by decide +kernel), mz_in (i := 23) (by decide +kernel) (by decide +kernel)⟩
abbrev mb_Flow_findNearest : ByteArray := prog_3_method_10_code
def my_Flow_findNearest : MethodName := ⟨"ValueMill$Flow", "findNearest", "(I)V"⟩
theorem mo_Flow_findNearest : mz_ok my_Flow_findNearest mb_Flow_findNearest 4 none 1 := ⟨mz_in (i := 713) (by decide +kernel) (by decide +kernel), mz_in (i := 110) (by decide +kernel) (by decide +kernel), ⟨by decide +kernel, by decide +kernel⟩, by decide +kernel⟩
theorem mi_Flow_findNearest : mz_oi my_Flow_findNearest := ⟨mz_in (i := 712) (by decide +kernel) (by decide +kernel), mz_in (i := 24) (by decide +kernel) (by decide +kernel)⟩
abbrev mb_Flow_dominates : ByteArray := prog_3_method_4_code
def my_Flow_dominates : MethodName := ⟨"ValueMill$Flow", "dominates", "(II)Z"⟩
theorem mo_Flow_dominates : mz_ok my_Flow_dominates mb_Flow_dominates 3 (some .boolean) 2 := ⟨mz_in (i := 721) (by decide +kernel) (by decide +kernel), mz_in (i := 110) (by decide +kernel) (by decide +kernel), ⟨by decide +kernel, by decide +kernel⟩, by decide +kernel⟩
theorem mi_Flow_dominates : mz_oi my_Flow_dominates := ⟨mz_in (i := 720) (by decide +kernel) (by decide +kernel), mz_in (i := 26) (by decide +kernel) (by decide +kernel)⟩
abbrev mb_Flow_findFrontier : ByteArray := prog_3_method_11_code
def my_Flow_findFrontier : MethodName := ⟨"ValueMill$Flow", "findFrontier", "(I)V"⟩
theorem mo_Flow_findFrontier : mz_ok my_Flow_findFrontier mb_Flow_findFrontier 5 none 1 := ⟨mz_in (i := 717) (by decide +kernel) (by decide +kernel), mz_in (i := 110) (by decide +kernel) (by decide +kernel), ⟨by decide +kernel, by decide +kernel⟩, by decide +kernel⟩
theorem mi_Flow_findFrontier : mz_oi my_Flow_findFrontier := ⟨mz_in (i := 716) (by decide +kernel) (by decide +kernel), mz_in (i := 25) (by decide +kernel) (by decide +kernel)⟩
abbrev mb_Flow_countLoop : ByteArray := prog_3_method_12_code
def my_Flow_countLoop : MethodName := ⟨"ValueMill$Flow", "countLoop", "(I)V"⟩
theorem mo_Flow_countLoop : mz_ok my_Flow_countLoop mb_Flow_countLoop 5 none 1 := ⟨mz_in (i := 725) (by decide +kernel) (by decide +kernel), mz_in (i := 110) (by decide +kernel) (by decide +kernel), ⟨by decide +kernel, by decide +kernel⟩, by decide +kernel⟩
theorem mi_Flow_countLoop : mz_oi my_Flow_countLoop := ⟨mz_in (i := 724) (by decide +kernel) (by decide +kernel), mz_in (i := 27) (by decide +kernel) (by decide +kernel)⟩
abbrev mb_Flow_lookAt : ByteArray := prog_3_method_2_code
def my_Flow_lookAt : MethodName := ⟨"ValueMill$Flow", "lookAt", "()V"⟩
theorem mo_Flow_lookAt : mz_ok my_Flow_lookAt mb_Flow_lookAt 2 none 0 := ⟨mz_in (i := 677) (by decide +kernel) (by decide +kernel), mz_in (i := 110) (by decide +kernel) (by decide +kernel), ⟨by decide +kernel, by decide +kernel⟩, by decide +kernel⟩
theorem mi_Flow_lookAt : mz_oi my_Flow_lookAt := ⟨mz_in (i := 676) (by decide +kernel) (by decide +kernel), mz_in (i := 16) (by decide +kernel) (by decide +kernel)⟩
abbrev mb_Flow_isAlive : ByteArray := prog_3_method_3_code
def my_Flow_isAlive : MethodName := ⟨"ValueMill$Flow", "isAlive", "(I)Z"⟩
theorem mo_Flow_isAlive : mz_ok my_Flow_isAlive mb_Flow_isAlive 2 (some .boolean) 1 := ⟨mz_in (i := 1095) (by decide +kernel) (by decide +kernel), mz_in (i := 110) (by decide +kernel) (by decide +kernel), ⟨by decide +kernel, by decide +kernel⟩, by decide +kernel⟩
theorem mi_Flow_isAlive : mz_oi my_Flow_isAlive := ⟨mz_in (i := 1094) (by decide +kernel) (by decide +kernel), mz_in (i := 95) (by decide +kernel) (by decide +kernel)⟩
abbrev mb_Lives_findReadsAndWrites : ByteArray := prog_5_method_3_code
def my_Lives_findReadsAndWrites : MethodName := ⟨"ValueMill$Lives", "findReadsAndWrites", "(I)V"⟩
theorem mo_Lives_findReadsAndWrites : mz_ok my_Lives_findReadsAndWrites mb_Lives_findReadsAndWrites 5 none 1 := ⟨mz_in (i := 733) (by decide +kernel) (by decide +kernel), mz_in (i := 111) (by decide +kernel) (by decide +kernel), ⟨by decide +kernel, by decide +kernel⟩, by decide +kernel⟩
theorem mi_Lives_findReadsAndWrites : mz_oi my_Lives_findReadsAndWrites := ⟨mz_in (i := 732) (by decide +kernel) (by decide +kernel), mz_in (i := 29) (by decide +kernel) (by decide +kernel)⟩
abbrev mb_Lives_liveBehind : ByteArray := prog_5_method_4_code
def my_Lives_liveBehind : MethodName := ⟨"ValueMill$Lives", "liveBehind", "(I)I"⟩
theorem mo_Lives_liveBehind : mz_ok my_Lives_liveBehind mb_Lives_liveBehind 4 (some .int) 1 := ⟨mz_in (i := 759) (by decide +kernel) (by decide +kernel), mz_in (i := 111) (by decide +kernel) (by decide +kernel), ⟨by decide +kernel, by decide +kernel⟩, by decide +kernel⟩
theorem mi_Lives_liveBehind : mz_oi my_Lives_liveBehind := ⟨mz_in (i := 758) (by decide +kernel) (by decide +kernel), mz_in (i := 35) (by decide +kernel) (by decide +kernel)⟩
abbrev mb_Lives_frontiersOf : ByteArray := prog_5_method_6_code
def my_Lives_frontiersOf : MethodName := ⟨"ValueMill$Lives", "frontiersOf", "(I)I"⟩
theorem mo_Lives_frontiersOf : mz_ok my_Lives_frontiersOf mb_Lives_frontiersOf 4 (some .int) 1 := ⟨mz_in (i := 770) (by decide +kernel) (by decide +kernel), mz_in (i := 111) (by decide +kernel) (by decide +kernel), ⟨by decide +kernel, by decide +kernel⟩, by decide +kernel⟩
theorem mi_Lives_frontiersOf : mz_oi my_Lives_frontiersOf := ⟨mz_in (i := 769) (by decide +kernel) (by decide +kernel), mz_in (i := 37) (by decide +kernel) (by decide +kernel)⟩
abbrev mb_Lives_placePhis : ByteArray := prog_5_method_5_code
def my_Lives_placePhis : MethodName := ⟨"ValueMill$Lives", "placePhis", "(I)V"⟩
theorem mo_Lives_placePhis : mz_ok my_Lives_placePhis mb_Lives_placePhis 5 none 1 := ⟨mz_in (i := 765) (by decide +kernel) (by decide +kernel), mz_in (i := 111) (by decide +kernel) (by decide +kernel), ⟨by decide +kernel, by decide +kernel⟩, by decide +kernel⟩
theorem mi_Lives_placePhis : mz_oi my_Lives_placePhis := ⟨mz_in (i := 764) (by decide +kernel) (by decide +kernel), mz_in (i := 36) (by decide +kernel) (by decide +kernel)⟩
abbrev mb_Lives_lookAt : ByteArray := prog_5_method_2_code
def my_Lives_lookAt : MethodName := ⟨"ValueMill$Lives", "lookAt", "()V"⟩
theorem mo_Lives_lookAt : mz_ok my_Lives_lookAt mb_Lives_lookAt 3 none 0 := ⟨mz_in (i := 729) (by decide +kernel) (by decide +kernel), mz_in (i := 111) (by decide +kernel) (by decide +kernel), ⟨by decide +kernel, by decide +kernel⟩, by decide +kernel⟩
theorem mi_Lives_lookAt : mz_oi my_Lives_lookAt := ⟨mz_in (i := 728) (by decide +kernel) (by decide +kernel), mz_in (i := 28) (by decide +kernel) (by decide +kernel)⟩
abbrev mb_Names_nameBefore : ByteArray := prog_8_method_3_code
def my_Names_nameBefore : MethodName := ⟨"ValueMill$Names", "nameBefore", "(II)I"⟩
theorem mo_Names_nameBefore : mz_ok my_Names_nameBefore mb_Names_nameBefore 4 (some .int) 2 := ⟨mz_in (i := 778) (by decide +kernel) (by decide +kernel), mz_in (i := 112) (by decide +kernel) (by decide +kernel), ⟨by decide +kernel, by decide +kernel⟩, by decide +kernel⟩
theorem mi_Names_nameBefore : mz_oi my_Names_nameBefore := ⟨mz_in (i := 777) (by decide +kernel) (by decide +kernel), mz_in (i := 39) (by decide +kernel) (by decide +kernel)⟩
abbrev mb_Names_nameOperations : ByteArray := prog_8_method_4_code
def my_Names_nameOperations : MethodName := ⟨"ValueMill$Names", "nameOperations", "(I)V"⟩
theorem mo_Names_nameOperations : mz_ok my_Names_nameOperations mb_Names_nameOperations 4 none 1 := ⟨mz_in (i := 786) (by decide +kernel) (by decide +kernel), mz_in (i := 112) (by decide +kernel) (by decide +kernel), ⟨by decide +kernel, by decide +kernel⟩, by decide +kernel⟩
theorem mi_Names_nameOperations : mz_oi my_Names_nameOperations := ⟨mz_in (i := 785) (by decide +kernel) (by decide +kernel), mz_in (i := 40) (by decide +kernel) (by decide +kernel)⟩
abbrev mb_Names_giveNames : ByteArray := prog_8_method_2_code
def my_Names_giveNames : MethodName := ⟨"ValueMill$Names", "giveNames", "()V"⟩
theorem mo_Names_giveNames : mz_ok my_Names_giveNames mb_Names_giveNames 4 none 0 := ⟨mz_in (i := 774) (by decide +kernel) (by decide +kernel), mz_in (i := 112) (by decide +kernel) (by decide +kernel), ⟨by decide +kernel, by decide +kernel⟩, by decide +kernel⟩
theorem mi_Names_giveNames : mz_oi my_Names_giveNames := ⟨mz_in (i := 773) (by decide +kernel) (by decide +kernel), mz_in (i := 38) (by decide +kernel) (by decide +kernel)⟩
abbrev mb_Names_along : ByteArray := prog_8_method_5_code
def my_Names_along : MethodName := ⟨"ValueMill$Names", "along", "(II)I"⟩
theorem mo_Names_along : mz_ok my_Names_along mb_Names_along 3 (some .int) 2 := ⟨mz_in (i := 826) (by decide +kernel) (by decide +kernel), mz_in (i := 112) (by decide +kernel) (by decide +kernel), ⟨by decide +kernel, by decide +kernel⟩, by decide +kernel⟩
theorem mi_Names_along : mz_oi my_Names_along := ⟨mz_in (i := 825) (by decide +kernel) (by decide +kernel), mz_in (i := 48) (by decide +kernel) (by decide +kernel)⟩
abbrev mb_Stands_isNumber : ByteArray := prog_10_method_2_code
def my_Stands_isNumber : MethodName := ⟨"ValueMill$Stands", "isNumber", "(I)Z"⟩
theorem mo_Stands_isNumber : mz_ok my_Stands_isNumber mb_Stands_isNumber 2 (some .boolean) 1 := ⟨mz_in (i := 852) (by decide +kernel) (by decide +kernel), mz_in (i := 113) (by decide +kernel) (by decide +kernel), ⟨by decide +kernel, by decide +kernel⟩, by decide +kernel⟩
theorem mi_Stands_isNumber : mz_oi my_Stands_isNumber := ⟨mz_in (i := 851) (by decide +kernel) (by decide +kernel), mz_in (i := 54) (by decide +kernel) (by decide +kernel)⟩
abbrev mb_Stands_isItself : ByteArray := prog_10_method_3_code
def my_Stands_isItself : MethodName := ⟨"ValueMill$Stands", "isItself", "(I)Z"⟩
theorem mo_Stands_isItself : mz_ok my_Stands_isItself mb_Stands_isItself 2 (some .boolean) 1 := ⟨mz_in (i := 883) (by decide +kernel) (by decide +kernel), mz_in (i := 113) (by decide +kernel) (by decide +kernel), ⟨by decide +kernel, by decide +kernel⟩, by decide +kernel⟩
theorem mi_Stands_isItself : mz_oi my_Stands_isItself := ⟨mz_in (i := 882) (by decide +kernel) (by decide +kernel), mz_in (i := 59) (by decide +kernel) (by decide +kernel)⟩
abbrev mb_Stands_nameFor : ByteArray := prog_10_method_4_code
def my_Stands_nameFor : MethodName := ⟨"ValueMill$Stands", "nameFor", "(I)I"⟩
theorem mo_Stands_nameFor : mz_ok my_Stands_nameFor mb_Stands_nameFor 2 (some .int) 1 := ⟨mz_in (i := 916) (by decide +kernel) (by decide +kernel), mz_in (i := 113) (by decide +kernel) (by decide +kernel), ⟨by decide +kernel, by decide +kernel⟩, by decide +kernel⟩
theorem mi_Stands_nameFor : mz_oi my_Stands_nameFor := ⟨mz_in (i := 915) (by decide +kernel) (by decide +kernel), mz_in (i := 65) (by decide +kernel) (by decide +kernel)⟩
abbrev mb_Stands_keepsPhi : ByteArray := prog_10_method_5_code
def my_Stands_keepsPhi : MethodName := ⟨"ValueMill$Stands", "keepsPhi", "(II)Z"⟩
theorem mo_Stands_keepsPhi : mz_ok my_Stands_keepsPhi mb_Stands_keepsPhi 3 (some .boolean) 2 := ⟨mz_in (i := 900) (by decide +kernel) (by decide +kernel), mz_in (i := 113) (by decide +kernel) (by decide +kernel), ⟨by decide +kernel, by decide +kernel⟩, by decide +kernel⟩
theorem mi_Stands_keepsPhi : mz_oi my_Stands_keepsPhi := ⟨mz_in (i := 899) (by decide +kernel) (by decide +kernel), mz_in (i := 62) (by decide +kernel) (by decide +kernel)⟩
abbrev mb_Stands_keepsOperation : ByteArray := prog_10_method_6_code
def my_Stands_keepsOperation : MethodName := ⟨"ValueMill$Stands", "keepsOperation", "(I)Z"⟩
theorem mo_Stands_keepsOperation : mz_ok my_Stands_keepsOperation mb_Stands_keepsOperation 2 (some .boolean) 1 := ⟨mz_in (i := 879) (by decide +kernel) (by decide +kernel), mz_in (i := 113) (by decide +kernel) (by decide +kernel), ⟨by decide +kernel, by decide +kernel⟩, by decide +kernel⟩
theorem mi_Stands_keepsOperation : mz_oi my_Stands_keepsOperation := ⟨mz_in (i := 878) (by decide +kernel) (by decide +kernel), mz_in (i := 58) (by decide +kernel) (by decide +kernel)⟩
abbrev mb_Stands_letBe : ByteArray := prog_10_method_17_code
def my_Stands_letBe : MethodName := ⟨"ValueMill$Stands", "letBe", "(I)V"⟩
theorem mo_Stands_letBe : mz_ok my_Stands_letBe mb_Stands_letBe 2 none 1 := ⟨mz_in (i := 800) (by decide +kernel) (by decide +kernel), mz_in (i := 113) (by decide +kernel) (by decide +kernel), ⟨by decide +kernel, by decide +kernel⟩, by decide +kernel⟩
theorem mi_Stands_letBe : mz_oi my_Stands_letBe := ⟨mz_in (i := 799) (by decide +kernel) (by decide +kernel), mz_in (i := 42) (by decide +kernel) (by decide +kernel)⟩
abbrev mb_Stands_letAllBe : ByteArray := prog_10_method_7_code
def my_Stands_letAllBe : MethodName := ⟨"ValueMill$Stands", "letAllBe", "()V"⟩
theorem mo_Stands_letAllBe : mz_ok my_Stands_letAllBe mb_Stands_letAllBe 2 none 0 := ⟨mz_in (i := 796) (by decide +kernel) (by decide +kernel), mz_in (i := 113) (by decide +kernel) (by decide +kernel), ⟨by decide +kernel, by decide +kernel⟩, by decide +kernel⟩
theorem mi_Stands_letAllBe : mz_oi my_Stands_letAllBe := ⟨mz_in (i := 795) (by decide +kernel) (by decide +kernel), mz_in (i := 41) (by decide +kernel) (by decide +kernel)⟩
abbrev mb_Stands_letBeNumber : ByteArray := prog_10_method_18_code
def my_Stands_letBeNumber : MethodName := ⟨"ValueMill$Stands", "letBeNumber", "(II)V"⟩
theorem mo_Stands_letBeNumber : mz_ok my_Stands_letBeNumber mb_Stands_letBeNumber 3 none 2 := ⟨mz_in (i := 813) (by decide +kernel) (by decide +kernel), mz_in (i := 113) (by decide +kernel) (by decide +kernel), ⟨by decide +kernel, by decide +kernel⟩, by decide +kernel⟩
theorem mi_Stands_letBeNumber : mz_oi my_Stands_letBeNumber := ⟨mz_in (i := 812) (by decide +kernel) (by decide +kernel), mz_in (i := 45) (by decide +kernel) (by decide +kernel)⟩
abbrev mb_Stands_firstKnown : ByteArray := prog_10_method_12_code
def my_Stands_firstKnown : MethodName := ⟨"ValueMill$Stands", "firstKnown", "(II)I"⟩
theorem mo_Stands_firstKnown : mz_ok my_Stands_firstKnown mb_Stands_firstKnown 4 (some .int) 2 := ⟨mz_in (i := 822) (by decide +kernel) (by decide +kernel), mz_in (i := 113) (by decide +kernel) (by decide +kernel), ⟨by decide +kernel, by decide +kernel⟩, by decide +kernel⟩
theorem mi_Stands_firstKnown : mz_oi my_Stands_firstKnown := ⟨mz_in (i := 821) (by decide +kernel) (by decide +kernel), mz_in (i := 47) (by decide +kernel) (by decide +kernel)⟩
abbrev mb_Stands_differ : ByteArray := prog_10_method_14_code
def my_Stands_differ : MethodName := ⟨"ValueMill$Stands", "differ", "(II)Z"⟩
theorem mo_Stands_differ : mz_ok my_Stands_differ mb_Stands_differ 3 (some .boolean) 2 := ⟨mz_in (i := 834) (by decide +kernel) (by decide +kernel), mz_in (i := 113) (by decide +kernel) (by decide +kernel), ⟨by decide +kernel, by decide +kernel⟩, by decide +kernel⟩
theorem mi_Stands_differ : mz_oi my_Stands_differ := ⟨mz_in (i := 833) (by decide +kernel) (by decide +kernel), mz_in (i := 50) (by decide +kernel) (by decide +kernel)⟩
abbrev mb_Stands_takesOtherThan : ByteArray := prog_10_method_13_code
def my_Stands_takesOtherThan : MethodName := ⟨"ValueMill$Stands", "takesOtherThan", "(III)Z"⟩
theorem mo_Stands_takesOtherThan : mz_ok my_Stands_takesOtherThan mb_Stands_takesOtherThan 5 (some .boolean) 3 := ⟨mz_in (i := 830) (by decide +kernel) (by decide +kernel), mz_in (i := 113) (by decide +kernel) (by decide +kernel), ⟨by decide +kernel, by decide +kernel⟩, by decide +kernel⟩
theorem mi_Stands_takesOtherThan : mz_oi my_Stands_takesOtherThan := ⟨mz_in (i := 829) (by decide +kernel) (by decide +kernel), mz_in (i := 49) (by decide +kernel) (by decide +kernel)⟩
abbrev mb_Stands_standLike : ByteArray := prog_10_method_19_code
def my_Stands_standLike : MethodName := ⟨"ValueMill$Stands", "standLike", "(II)V"⟩
theorem mo_Stands_standLike : mz_ok my_Stands_standLike mb_Stands_standLike 3 none 2 := ⟨mz_in (i := 839) (by decide +kernel) (by decide +kernel), mz_in (i := 113) (by decide +kernel) (by decide +kernel), ⟨by decide +kernel, by decide +kernel⟩, by decide +kernel⟩
theorem mi_Stands_standLike : mz_oi my_Stands_standLike := ⟨mz_in (i := 838) (by decide +kernel) (by decide +kernel), mz_in (i := 51) (by decide +kernel) (by decide +kernel)⟩
abbrev mb_Stands_guessPhi : ByteArray := prog_10_method_11_code
def my_Stands_guessPhi : MethodName := ⟨"ValueMill$Stands", "guessPhi", "(II)V"⟩
theorem mo_Stands_guessPhi : mz_ok my_Stands_guessPhi mb_Stands_guessPhi 4 none 2 := ⟨mz_in (i := 818) (by decide +kernel) (by decide +kernel), mz_in (i := 113) (by decide +kernel) (by decide +kernel), ⟨by decide +kernel, by decide +kernel⟩, by decide +kernel⟩
theorem mi_Stands_guessPhi : mz_oi my_Stands_guessPhi := ⟨mz_in (i := 817) (by decide +kernel) (by decide +kernel), mz_in (i := 46) (by decide +kernel) (by decide +kernel)⟩
abbrev mb_Stands_givesNumber : ByteArray := prog_10_method_16_code
def my_Stands_givesNumber : MethodName := ⟨"ValueMill$Stands", "givesNumber", "(I)Z"⟩
theorem mo_Stands_givesNumber : mz_ok my_Stands_givesNumber mb_Stands_givesNumber 4 (some .boolean) 1 := ⟨mz_in (i := 848) (by decide +kernel) (by decide +kernel), mz_in (i := 113) (by decide +kernel) (by decide +kernel), ⟨by decide +kernel, by decide +kernel⟩, by decide +kernel⟩
theorem mi_Stands_givesNumber : mz_oi my_Stands_givesNumber := ⟨mz_in (i := 847) (by decide +kernel) (by decide +kernel), mz_in (i := 53) (by decide +kernel) (by decide +kernel)⟩
abbrev mb_Stands_guessOperation : ByteArray := prog_10_method_15_code
def my_Stands_guessOperation : MethodName := ⟨"ValueMill$Stands", "guessOperation", "(I)V"⟩
theorem mo_Stands_guessOperation : mz_ok my_Stands_guessOperation mb_Stands_guessOperation 4 none 1 := ⟨mz_in (i := 843) (by decide +kernel) (by decide +kernel), mz_in (i := 113) (by decide +kernel) (by decide +kernel), ⟨by decide +kernel, by decide +kernel⟩, by decide +kernel⟩
theorem mi_Stands_guessOperation : mz_oi my_Stands_guessOperation := ⟨mz_in (i := 842) (by decide +kernel) (by decide +kernel), mz_in (i := 52) (by decide +kernel) (by decide +kernel)⟩
abbrev mb_Stands_guess : ByteArray := prog_10_method_9_code
def my_Stands_guess : MethodName := ⟨"ValueMill$Stands", "guess", "()V"⟩
theorem mo_Stands_guess : mz_ok my_Stands_guess mb_Stands_guess 4 none 0 := ⟨mz_in (i := 809) (by decide +kernel) (by decide +kernel), mz_in (i := 113) (by decide +kernel) (by decide +kernel), ⟨by decide +kernel, by decide +kernel⟩, by decide +kernel⟩
theorem mi_Stands_guess : mz_oi my_Stands_guess := ⟨mz_in (i := 808) (by decide +kernel) (by decide +kernel), mz_in (i := 44) (by decide +kernel) (by decide +kernel)⟩
abbrev mb_Stands_findWrongGuesses : ByteArray := prog_10_method_10_code
def my_Stands_findWrongGuesses : MethodName := ⟨"ValueMill$Stands", "findWrongGuesses", "()Z"⟩
theorem mo_Stands_findWrongGuesses : mz_ok my_Stands_findWrongGuesses mb_Stands_findWrongGuesses 6 (some .boolean) 0 := ⟨mz_in (i := 864) (by decide +kernel) (by decide +kernel), mz_in (i := 113) (by decide +kernel) (by decide +kernel), ⟨by decide +kernel, by decide +kernel⟩, by decide +kernel⟩
theorem mi_Stands_findWrongGuesses : mz_oi my_Stands_findWrongGuesses := ⟨mz_in (i := 863) (by decide +kernel) (by decide +kernel), mz_in (i := 55) (by decide +kernel) (by decide +kernel)⟩
abbrev mb_Stands_settle : ByteArray := prog_10_method_8_code
def my_Stands_settle : MethodName := ⟨"ValueMill$Stands", "settle", "()V"⟩
theorem mo_Stands_settle : mz_ok my_Stands_settle mb_Stands_settle 2 none 0 := ⟨mz_in (i := 804) (by decide +kernel) (by decide +kernel), mz_in (i := 113) (by decide +kernel) (by decide +kernel), ⟨by decide +kernel, by decide +kernel⟩, by decide +kernel⟩
theorem mi_Stands_settle : mz_oi my_Stands_settle := ⟨mz_in (i := 803) (by decide +kernel) (by decide +kernel), mz_in (i := 43) (by decide +kernel) (by decide +kernel)⟩
abbrev mb_Homes_giveEachItsOwn : ByteArray := prog_4_method_2_code
def my_Homes_giveEachItsOwn : MethodName := ⟨"ValueMill$Homes", "giveEachItsOwn", "()V"⟩
theorem mo_Homes_giveEachItsOwn : mz_ok my_Homes_giveEachItsOwn mb_Homes_giveEachItsOwn 2 none 0 := ⟨mz_in (i := 950) (by decide +kernel) (by decide +kernel), mz_in (i := 114) (by decide +kernel) (by decide +kernel), ⟨by decide +kernel, by decide +kernel⟩, by decide +kernel⟩
theorem mi_Homes_giveEachItsOwn : mz_oi my_Homes_giveEachItsOwn := ⟨mz_in (i := 949) (by decide +kernel) (by decide +kernel), mz_in (i := 72) (by decide +kernel) (by decide +kernel)⟩
abbrev mb_Homes_addCost : ByteArray := prog_4_method_7_code
def my_Homes_addCost : MethodName := ⟨"ValueMill$Homes", "addCost", "(IJ)V"⟩
theorem mo_Homes_addCost : mz_ok my_Homes_addCost mb_Homes_addCost 4 none 2 := ⟨mz_in (i := 888) (by decide +kernel) (by decide +kernel), mz_in (i := 114) (by decide +kernel) (by decide +kernel), ⟨by decide +kernel, by decide +kernel⟩, by decide +kernel⟩
theorem mi_Homes_addCost : mz_oi my_Homes_addCost := ⟨mz_in (i := 887) (by decide +kernel) (by decide +kernel), mz_in (i := 60) (by decide +kernel) (by decide +kernel)⟩
abbrev mb_Homes_addCostsOfEdges : ByteArray := prog_4_method_6_code
def my_Homes_addCostsOfEdges : MethodName := ⟨"ValueMill$Homes", "addCostsOfEdges", "(IJ)V"⟩
theorem mo_Homes_addCostsOfEdges : mz_ok my_Homes_addCostsOfEdges mb_Homes_addCostsOfEdges 7 none 2 := ⟨mz_in (i := 894) (by decide +kernel) (by decide +kernel), mz_in (i := 114) (by decide +kernel) (by decide +kernel), ⟨by decide +kernel, by decide +kernel⟩, by decide +kernel⟩
theorem mi_Homes_addCostsOfEdges : mz_oi my_Homes_addCostsOfEdges := ⟨mz_in (i := 893) (by decide +kernel) (by decide +kernel), mz_in (i := 61) (by decide +kernel) (by decide +kernel)⟩
abbrev mb_Homes_findCosts : ByteArray := prog_4_method_5_code
def my_Homes_findCosts : MethodName := ⟨"ValueMill$Homes", "findCosts", "()V"⟩
theorem mo_Homes_findCosts : mz_ok my_Homes_findCosts mb_Homes_findCosts 6 none 0 := ⟨mz_in (i := 872) (by decide +kernel) (by decide +kernel), mz_in (i := 114) (by decide +kernel) (by decide +kernel), ⟨by decide +kernel, by decide +kernel⟩, by decide +kernel⟩
theorem mi_Homes_findCosts : mz_oi my_Homes_findCosts := ⟨mz_in (i := 871) (by decide +kernel) (by decide +kernel), mz_in (i := 57) (by decide +kernel) (by decide +kernel)⟩
abbrev mb_Homes_findHolders : ByteArray := prog_4_method_13_code
def my_Homes_findHolders : MethodName := ⟨"ValueMill$Homes", "findHolders", "(I)V"⟩
theorem mo_Homes_findHolders : mz_ok my_Homes_findHolders mb_Homes_findHolders 4 none 1 := ⟨mz_in (i := 924) (by decide +kernel) (by decide +kernel), mz_in (i := 114) (by decide +kernel) (by decide +kernel), ⟨by decide +kernel, by decide +kernel⟩, by decide +kernel⟩
theorem mi_Homes_findHolders : mz_oi my_Homes_findHolders := ⟨mz_in (i := 923) (by decide +kernel) (by decide +kernel), mz_in (i := 67) (by decide +kernel) (by decide +kernel)⟩
abbrev mb_Homes_registerFor : ByteArray := prog_4_method_14_code
def my_Homes_registerFor : MethodName := ⟨"ValueMill$Homes", "registerFor", "(I)I"⟩
theorem mo_Homes_registerFor : mz_ok my_Homes_registerFor mb_Homes_registerFor 6 (some .int) 1 := ⟨mz_in (i := 929) (by decide +kernel) (by decide +kernel), mz_in (i := 114) (by decide +kernel) (by decide +kernel), ⟨by decide +kernel, by decide +kernel⟩, by decide +kernel⟩
theorem mi_Homes_registerFor : mz_oi my_Homes_registerFor := ⟨mz_in (i := 928) (by decide +kernel) (by decide +kernel), mz_in (i := 68) (by decide +kernel) (by decide +kernel)⟩
abbrev mb_Homes_putInSlot : ByteArray := prog_4_method_15_code
def my_Homes_putInSlot : MethodName := ⟨"ValueMill$Homes", "putInSlot", "(I)V"⟩
theorem mo_Homes_putInSlot : mz_ok my_Homes_putInSlot mb_Homes_putInSlot 2 none 1 := ⟨mz_in (i := 933) (by decide +kernel) (by decide +kernel), mz_in (i := 114) (by decide +kernel) (by decide +kernel), ⟨by decide +kernel, by decide +kernel⟩, by decide +kernel⟩
theorem mi_Homes_putInSlot : mz_oi my_Homes_putInSlot := ⟨mz_in (i := 932) (by decide +kernel) (by decide +kernel), mz_in (i := 69) (by decide +kernel) (by decide +kernel)⟩
abbrev mb_Homes_giveHome : ByteArray := prog_4_method_12_code
def my_Homes_giveHome : MethodName := ⟨"ValueMill$Homes", "giveHome", "(II)V"⟩
theorem mo_Homes_giveHome : mz_ok my_Homes_giveHome mb_Homes_giveHome 4 none 2 := ⟨mz_in (i := 920) (by decide +kernel) (by decide +kernel), mz_in (i := 114) (by decide +kernel) (by decide +kernel), ⟨by decide +kernel, by decide +kernel⟩, by decide +kernel⟩
theorem mi_Homes_giveHome : mz_oi my_Homes_giveHome := ⟨mz_in (i := 919) (by decide +kernel) (by decide +kernel), mz_in (i := 66) (by decide +kernel) (by decide +kernel)⟩
abbrev mb_Homes_giveHomesToPhis : ByteArray := prog_4_method_9_code
def my_Homes_giveHomesToPhis : MethodName := ⟨"ValueMill$Homes", "giveHomesToPhis", "(I)V"⟩
theorem mo_Homes_giveHomesToPhis : mz_ok my_Homes_giveHomesToPhis mb_Homes_giveHomesToPhis 3 none 1 := ⟨mz_in (i := 911) (by decide +kernel) (by decide +kernel), mz_in (i := 114) (by decide +kernel) (by decide +kernel), ⟨by decide +kernel, by decide +kernel⟩, by decide +kernel⟩
theorem mi_Homes_giveHomesToPhis : mz_oi my_Homes_giveHomesToPhis := ⟨mz_in (i := 910) (by decide +kernel) (by decide +kernel), mz_in (i := 64) (by decide +kernel) (by decide +kernel)⟩
abbrev mb_Homes_findLiveBehind : ByteArray := prog_4_method_10_code
def my_Homes_findLiveBehind : MethodName := ⟨"ValueMill$Homes", "findLiveBehind", "(I)V"⟩
theorem mo_Homes_findLiveBehind : mz_ok my_Homes_findLiveBehind mb_Homes_findLiveBehind 5 none 1 := ⟨mz_in (i := 937) (by decide +kernel) (by decide +kernel), mz_in (i := 114) (by decide +kernel) (by decide +kernel), ⟨by decide +kernel, by decide +kernel⟩, by decide +kernel⟩
theorem mi_Homes_findLiveBehind : mz_oi my_Homes_findLiveBehind := ⟨mz_in (i := 936) (by decide +kernel) (by decide +kernel), mz_in (i := 70) (by decide +kernel) (by decide +kernel)⟩
abbrev mb_Homes_giveHomeToMade : ByteArray := prog_4_method_11_code
def my_Homes_giveHomeToMade : MethodName := ⟨"ValueMill$Homes", "giveHomeToMade", "(II)V"⟩
theorem mo_Homes_giveHomeToMade : mz_ok my_Homes_giveHomeToMade mb_Homes_giveHomeToMade 3 none 2 := ⟨mz_in (i := 945) (by decide +kernel) (by decide +kernel), mz_in (i := 114) (by decide +kernel) (by decide +kernel), ⟨by decide +kernel, by decide +kernel⟩, by decide +kernel⟩
theorem mi_Homes_giveHomeToMade : mz_oi my_Homes_giveHomeToMade := ⟨mz_in (i := 944) (by decide +kernel) (by decide +kernel), mz_in (i := 71) (by decide +kernel) (by decide +kernel)⟩
abbrev mb_Homes_giveHomes : ByteArray := prog_4_method_8_code
def my_Homes_giveHomes : MethodName := ⟨"ValueMill$Homes", "giveHomes", "(I)V"⟩
theorem mo_Homes_giveHomes : mz_ok my_Homes_giveHomes mb_Homes_giveHomes 5 none 1 := ⟨mz_in (i := 906) (by decide +kernel) (by decide +kernel), mz_in (i := 114) (by decide +kernel) (by decide +kernel), ⟨by decide +kernel, by decide +kernel⟩, by decide +kernel⟩
theorem mi_Homes_giveHomes : mz_oi my_Homes_giveHomes := ⟨mz_in (i := 905) (by decide +kernel) (by decide +kernel), mz_in (i := 63) (by decide +kernel) (by decide +kernel)⟩
abbrev mb_Homes_shareRegisters : ByteArray := prog_4_method_3_code
def my_Homes_shareRegisters : MethodName := ⟨"ValueMill$Homes", "shareRegisters", "(I)V"⟩
theorem mo_Homes_shareRegisters : mz_ok my_Homes_shareRegisters mb_Homes_shareRegisters 2 none 1 := ⟨mz_in (i := 868) (by decide +kernel) (by decide +kernel), mz_in (i := 114) (by decide +kernel) (by decide +kernel), ⟨by decide +kernel, by decide +kernel⟩, by decide +kernel⟩
theorem mi_Homes_shareRegisters : mz_oi my_Homes_shareRegisters := ⟨mz_in (i := 867) (by decide +kernel) (by decide +kernel), mz_in (i := 56) (by decide +kernel) (by decide +kernel)⟩
abbrev mb_Homes_isSlot : ByteArray := prog_4_method_4_code
def my_Homes_isSlot : MethodName := ⟨"ValueMill$Homes", "isSlot", "(I)Z"⟩
theorem mo_Homes_isSlot : mz_ok my_Homes_isSlot mb_Homes_isSlot 2 (some .boolean) 1 := ⟨mz_in (i := 972) (by decide +kernel) (by decide +kernel), mz_in (i := 114) (by decide +kernel) (by decide +kernel), ⟨by decide +kernel, by decide +kernel⟩, by decide +kernel⟩
theorem mi_Homes_isSlot : mz_oi my_Homes_isSlot := ⟨mz_in (i := 971) (by decide +kernel) (by decide +kernel), mz_in (i := 77) (by decide +kernel) (by decide +kernel)⟩
abbrev mb_Code_clear : ByteArray := prog_2_method_2_code
def my_Code_clear : MethodName := ⟨"ValueMill$Code", "clear", "()V"⟩
theorem mo_Code_clear : mz_ok my_Code_clear mb_Code_clear 1 none 0 := ⟨mz_in (i := 638) (by decide +kernel) (by decide +kernel), mz_in (i := 115) (by decide +kernel) (by decide +kernel), ⟨by decide +kernel, by decide +kernel⟩, by decide +kernel⟩
theorem mi_Code_clear : mz_oi my_Code_clear := ⟨mz_in (i := 637) (by decide +kernel) (by decide +kernel), mz_in (i := 7) (by decide +kernel) (by decide +kernel)⟩
abbrev mb_Code_begin : ByteArray := prog_2_method_3_code
def my_Code_begin : MethodName := ⟨"ValueMill$Code", "begin", "(I)V"⟩
theorem mo_Code_begin : mz_ok my_Code_begin mb_Code_begin 2 none 1 := ⟨mz_in (i := 645) (by decide +kernel) (by decide +kernel), mz_in (i := 115) (by decide +kernel) (by decide +kernel), ⟨by decide +kernel, by decide +kernel⟩, by decide +kernel⟩
theorem mi_Code_begin : mz_oi my_Code_begin := ⟨mz_in (i := 644) (by decide +kernel) (by decide +kernel), mz_in (i := 8) (by decide +kernel) (by decide +kernel)⟩
abbrev mb_Code_finish : ByteArray := prog_2_method_4_code
def my_Code_finish : MethodName := ⟨"ValueMill$Code", "finish", "(I)V"⟩
theorem mo_Code_finish : mz_ok my_Code_finish mb_Code_finish 2 none 1 := ⟨mz_in (i := 665) (by decide +kernel) (by decide +kernel), mz_in (i := 115) (by decide +kernel) (by decide +kernel), ⟨by decide +kernel, by decide +kernel⟩, by decide +kernel⟩
theorem mi_Code_finish : mz_oi my_Code_finish := ⟨mz_in (i := 664) (by decide +kernel) (by decide +kernel), mz_in (i := 13) (by decide +kernel) (by decide +kernel)⟩
abbrev mb_Code_add : ByteArray := prog_2_method_5_code
def my_Code_add : MethodName := ⟨"ValueMill$Code", "add", "(IIIII)V"⟩
theorem mo_Code_add : mz_ok my_Code_add mb_Code_add 6 none 5 := ⟨mz_in (i := 661) (by decide +kernel) (by decide +kernel), mz_in (i := 115) (by decide +kernel) (by decide +kernel), ⟨by decide +kernel, by decide +kernel⟩, by decide +kernel⟩
theorem mi_Code_add : mz_oi my_Code_add := ⟨mz_in (i := 660) (by decide +kernel) (by decide +kernel), mz_in (i := 12) (by decide +kernel) (by decide +kernel)⟩
abbrev mb_Code_addMove : ByteArray := prog_2_method_6_code
def my_Code_addMove : MethodName := ⟨"ValueMill$Code", "addMove", "(IIZ)V"⟩
theorem mo_Code_addMove : mz_ok my_Code_addMove mb_Code_addMove 4 none 3 := ⟨mz_in (i := 976) (by decide +kernel) (by decide +kernel), mz_in (i := 115) (by decide +kernel) (by decide +kernel), ⟨by decide +kernel, by decide +kernel⟩, by decide +kernel⟩
theorem mi_Code_addMove : mz_oi my_Code_addMove := ⟨mz_in (i := 975) (by decide +kernel) (by decide +kernel), mz_in (i := 78) (by decide +kernel) (by decide +kernel)⟩
abbrev mb_Code_setEnd : ByteArray := prog_2_method_7_code
def my_Code_setEnd : MethodName := ⟨"ValueMill$Code", "setEnd", "(IIZ)V"⟩
theorem mo_Code_setEnd : mz_ok my_Code_setEnd mb_Code_setEnd 4 none 3 := ⟨mz_in (i := 669) (by decide +kernel) (by decide +kernel), mz_in (i := 115) (by decide +kernel) (by decide +kernel), ⟨by decide +kernel, by decide +kernel⟩, by decide +kernel⟩
theorem mi_Code_setEnd : mz_oi my_Code_setEnd := ⟨mz_in (i := 668) (by decide +kernel) (by decide +kernel), mz_in (i := 14) (by decide +kernel) (by decide +kernel)⟩
abbrev mb_Moves_add : ByteArray := prog_7_method_2_code
def my_Moves_add : MethodName := ⟨"ValueMill$Moves", "add", "(IIZ)V"⟩
theorem mo_Moves_add : mz_ok my_Moves_add mb_Moves_add 5 none 3 := ⟨mz_in (i := 1001) (by decide +kernel) (by decide +kernel), mz_in (i := 117) (by decide +kernel) (by decide +kernel), ⟨by decide +kernel, by decide +kernel⟩, by decide +kernel⟩
theorem mi_Moves_add : mz_oi my_Moves_add := ⟨mz_in (i := 1000) (by decide +kernel) (by decide +kernel), mz_in (i := 82) (by decide +kernel) (by decide +kernel)⟩
abbrev mb_Moves_isStillRead : ByteArray := prog_7_method_5_code
def my_Moves_isStillRead : MethodName := ⟨"ValueMill$Moves", "isStillRead", "(I)Z"⟩
theorem mo_Moves_isStillRead : mz_ok my_Moves_isStillRead mb_Moves_isStillRead 3 (some .boolean) 1 := ⟨mz_in (i := 1016) (by decide +kernel) (by decide +kernel), mz_in (i := 117) (by decide +kernel) (by decide +kernel), ⟨by decide +kernel, by decide +kernel⟩, by decide +kernel⟩
theorem mi_Moves_isStillRead : mz_oi my_Moves_isStillRead := ⟨mz_in (i := 1015) (by decide +kernel) (by decide +kernel), mz_in (i := 85) (by decide +kernel) (by decide +kernel)⟩
abbrev mb_Moves_firstReady : ByteArray := prog_7_method_4_code
def my_Moves_firstReady : MethodName := ⟨"ValueMill$Moves", "firstReady", "()I"⟩
theorem mo_Moves_firstReady : mz_ok my_Moves_firstReady mb_Moves_firstReady 2 (some .int) 0 := ⟨mz_in (i := 1012) (by decide +kernel) (by decide +kernel), mz_in (i := 117) (by decide +kernel) (by decide +kernel), ⟨by decide +kernel, by decide +kernel⟩, by decide +kernel⟩
theorem mi_Moves_firstReady : mz_oi my_Moves_firstReady := ⟨mz_in (i := 1011) (by decide +kernel) (by decide +kernel), mz_in (i := 84) (by decide +kernel) (by decide +kernel)⟩
abbrev mb_Moves_writeMove : ByteArray := prog_7_method_8_code
def my_Moves_writeMove : MethodName := ⟨"ValueMill$Moves", "writeMove", "(IIZ)V"⟩
theorem mo_Moves_writeMove : mz_ok my_Moves_writeMove mb_Moves_writeMove 4 none 3 := ⟨mz_in (i := 1020) (by decide +kernel) (by decide +kernel), mz_in (i := 117) (by decide +kernel) (by decide +kernel), ⟨by decide +kernel, by decide +kernel⟩, by decide +kernel⟩
theorem mi_Moves_writeMove : mz_oi my_Moves_writeMove := ⟨mz_in (i := 1019) (by decide +kernel) (by decide +kernel), mz_in (i := 86) (by decide +kernel) (by decide +kernel)⟩
abbrev mb_Moves_readFromSpare : ByteArray := prog_7_method_6_code
def my_Moves_readFromSpare : MethodName := ⟨"ValueMill$Moves", "readFromSpare", "(I)V"⟩
theorem mo_Moves_readFromSpare : mz_ok my_Moves_readFromSpare mb_Moves_readFromSpare 3 none 1 := ⟨mz_in (i := 1026) (by decide +kernel) (by decide +kernel), mz_in (i := 117) (by decide +kernel) (by decide +kernel), ⟨by decide +kernel, by decide +kernel⟩, by decide +kernel⟩
theorem mi_Moves_readFromSpare : mz_oi my_Moves_readFromSpare := ⟨mz_in (i := 1025) (by decide +kernel) (by decide +kernel), mz_in (i := 87) (by decide +kernel) (by decide +kernel)⟩
abbrev mb_Moves_takeOut : ByteArray := prog_7_method_7_code
def my_Moves_takeOut : MethodName := ⟨"ValueMill$Moves", "takeOut", "(I)V"⟩
theorem mo_Moves_takeOut : mz_ok my_Moves_takeOut mb_Moves_takeOut 2 none 1 := ⟨mz_in (i := 1030) (by decide +kernel) (by decide +kernel), mz_in (i := 117) (by decide +kernel) (by decide +kernel), ⟨by decide +kernel, by decide +kernel⟩, by decide +kernel⟩
theorem mi_Moves_takeOut : mz_oi my_Moves_takeOut := ⟨mz_in (i := 1029) (by decide +kernel) (by decide +kernel), mz_in (i := 88) (by decide +kernel) (by decide +kernel)⟩
abbrev mb_Moves_write : ByteArray := prog_7_method_3_code
def my_Moves_write : MethodName := ⟨"ValueMill$Moves", "write", "()V"⟩
theorem mo_Moves_write : mz_ok my_Moves_write mb_Moves_write 3 none 0 := ⟨mz_in (i := 1008) (by decide +kernel) (by decide +kernel), mz_in (i := 117) (by decide +kernel) (by decide +kernel), ⟨by decide +kernel, by decide +kernel⟩, by decide +kernel⟩
theorem mi_Moves_write : mz_oi my_Moves_write := ⟨mz_in (i := 1007) (by decide +kernel) (by decide +kernel), mz_in (i := 83) (by decide +kernel) (by decide +kernel)⟩
abbrev mb_Writer_plainForm : ByteArray := prog_11_method_3_code
def my_Writer_plainForm : MethodName := ⟨"ValueMill$Writer", "plainForm", "(I)I"⟩
theorem mo_Writer_plainForm : mz_ok my_Writer_plainForm mb_Writer_plainForm 2 (some .int) 1 := ⟨mz_in (i := 649) (by decide +kernel) (by decide +kernel), mz_in (i := 116) (by decide +kernel) (by decide +kernel), ⟨by decide +kernel, by decide +kernel⟩, by decide +kernel⟩
theorem mi_Writer_plainForm : mz_oi my_Writer_plainForm := ⟨mz_in (i := 648) (by decide +kernel) (by decide +kernel), mz_in (i := 9) (by decide +kernel) (by decide +kernel)⟩
abbrev mb_Writer_writeAsItIs : ByteArray := prog_11_method_2_code
def my_Writer_writeAsItIs : MethodName := ⟨"ValueMill$Writer", "writeAsItIs", "()V"⟩
theorem mo_Writer_writeAsItIs : mz_ok my_Writer_writeAsItIs mb_Writer_writeAsItIs 3 none 0 := ⟨mz_in (i := 634) (by decide +kernel) (by decide +kernel), mz_in (i := 116) (by decide +kernel) (by decide +kernel), ⟨by decide +kernel, by decide +kernel⟩, by decide +kernel⟩
theorem mi_Writer_writeAsItIs : mz_oi my_Writer_writeAsItIs := ⟨mz_in (i := 633) (by decide +kernel) (by decide +kernel), mz_in (i := 6) (by decide +kernel) (by decide +kernel)⟩
abbrev mb_Writer_bring : ByteArray := prog_11_method_7_code
def my_Writer_bring : MethodName := ⟨"ValueMill$Writer", "bring", "(II)I"⟩
theorem mo_Writer_bring : mz_ok my_Writer_bring mb_Writer_bring 5 (some .int) 2 := ⟨mz_in (i := 968) (by decide +kernel) (by decide +kernel), mz_in (i := 116) (by decide +kernel) (by decide +kernel), ⟨by decide +kernel, by decide +kernel⟩, by decide +kernel⟩
theorem mi_Writer_bring : mz_oi my_Writer_bring := ⟨mz_in (i := 967) (by decide +kernel) (by decide +kernel), mz_in (i := 76) (by decide +kernel) (by decide +kernel)⟩
abbrev mb_Writer_writeOperation : ByteArray := prog_11_method_6_code
def my_Writer_writeOperation : MethodName := ⟨"ValueMill$Writer", "writeOperation", "(I)V"⟩
theorem mo_Writer_writeOperation : mz_ok my_Writer_writeOperation mb_Writer_writeOperation 7 none 1 := ⟨mz_in (i := 963) (by decide +kernel) (by decide +kernel), mz_in (i := 116) (by decide +kernel) (by decide +kernel), ⟨by decide +kernel, by decide +kernel⟩, by decide +kernel⟩
theorem mi_Writer_writeOperation : mz_oi my_Writer_writeOperation := ⟨mz_in (i := 962) (by decide +kernel) (by decide +kernel), mz_in (i := 75) (by decide +kernel) (by decide +kernel)⟩
abbrev mb_Writer_writeEnd : ByteArray := prog_11_method_8_code
def my_Writer_writeEnd : MethodName := ⟨"ValueMill$Writer", "writeEnd", "(I)V"⟩
theorem mo_Writer_writeEnd : mz_ok my_Writer_writeEnd mb_Writer_writeEnd 3 none 1 := ⟨mz_in (i := 983) (by decide +kernel) (by decide +kernel), mz_in (i := 116) (by decide +kernel) (by decide +kernel), ⟨by decide +kernel, by decide +kernel⟩, by decide +kernel⟩
theorem mi_Writer_writeEnd : mz_oi my_Writer_writeEnd := ⟨mz_in (i := 982) (by decide +kernel) (by decide +kernel), mz_in (i := 79) (by decide +kernel) (by decide +kernel)⟩
abbrev mb_Writer_writeBlock : ByteArray := prog_11_method_5_code
def my_Writer_writeBlock : MethodName := ⟨"ValueMill$Writer", "writeBlock", "(I)V"⟩
theorem mo_Writer_writeBlock : mz_ok my_Writer_writeBlock mb_Writer_writeBlock 3 none 1 := ⟨mz_in (i := 958) (by decide +kernel) (by decide +kernel), mz_in (i := 116) (by decide +kernel) (by decide +kernel), ⟨by decide +kernel, by decide +kernel⟩, by decide +kernel⟩
theorem mi_Writer_writeBlock : mz_oi my_Writer_writeBlock := ⟨mz_in (i := 957) (by decide +kernel) (by decide +kernel), mz_in (i := 74) (by decide +kernel) (by decide +kernel)⟩
abbrev mb_Writer_addMove : ByteArray := prog_11_method_10_code
def my_Writer_addMove : MethodName := ⟨"ValueMill$Writer", "addMove", "(III)V"⟩
theorem mo_Writer_addMove : mz_ok my_Writer_addMove mb_Writer_addMove 6 none 3 := ⟨mz_in (i := 995) (by decide +kernel) (by decide +kernel), mz_in (i := 116) (by decide +kernel) (by decide +kernel), ⟨by decide +kernel, by decide +kernel⟩, by decide +kernel⟩
theorem mi_Writer_addMove : mz_oi my_Writer_addMove := ⟨mz_in (i := 994) (by decide +kernel) (by decide +kernel), mz_in (i := 81) (by decide +kernel) (by decide +kernel)⟩
abbrev mb_Writer_writeRoad : ByteArray := prog_11_method_9_code
def my_Writer_writeRoad : MethodName := ⟨"ValueMill$Writer", "writeRoad", "(II)V"⟩
theorem mo_Writer_writeRoad : mz_ok my_Writer_writeRoad mb_Writer_writeRoad 4 none 2 := ⟨mz_in (i := 989) (by decide +kernel) (by decide +kernel), mz_in (i := 116) (by decide +kernel) (by decide +kernel), ⟨by decide +kernel, by decide +kernel⟩, by decide +kernel⟩
theorem mi_Writer_writeRoad : mz_oi my_Writer_writeRoad := ⟨mz_in (i := 988) (by decide +kernel) (by decide +kernel), mz_in (i := 80) (by decide +kernel) (by decide +kernel)⟩
abbrev mb_Writer_writeNamed : ByteArray := prog_11_method_4_code
def my_Writer_writeNamed : MethodName := ⟨"ValueMill$Writer", "writeNamed", "()V"⟩
theorem mo_Writer_writeNamed : mz_ok my_Writer_writeNamed mb_Writer_writeNamed 4 none 0 := ⟨mz_in (i := 954) (by decide +kernel) (by decide +kernel), mz_in (i := 116) (by decide +kernel) (by decide +kernel), ⟨by decide +kernel, by decide +kernel⟩, by decide +kernel⟩
theorem mi_Writer_writeNamed : mz_oi my_Writer_writeNamed := ⟨mz_in (i := 953) (by decide +kernel) (by decide +kernel), mz_in (i := 73) (by decide +kernel) (by decide +kernel)⟩
abbrev mb_Machine_begin : ByteArray := prog_6_method_3_code
def my_Machine_begin : MethodName := ⟨"ValueMill$Machine", "begin", "([I)V"⟩
theorem mo_Machine_begin : mz_ok my_Machine_begin mb_Machine_begin 2 none 1 := ⟨mz_in (i := 1038) (by decide +kernel) (by decide +kernel), mz_in (i := 118) (by decide +kernel) (by decide +kernel), ⟨by decide +kernel, by decide +kernel⟩, by decide +kernel⟩
theorem mi_Machine_begin : mz_oi my_Machine_begin := ⟨mz_in (i := 1037) (by decide +kernel) (by decide +kernel), mz_in (i := 90) (by decide +kernel) (by decide +kernel)⟩
abbrev mb_Machine_callOut : ByteArray := prog_6_method_6_code
def my_Machine_callOut : MethodName := ⟨"ValueMill$Machine", "callOut", "(II)I"⟩
theorem mo_Machine_callOut : mz_ok my_Machine_callOut mb_Machine_callOut 4 (some .int) 2 := ⟨mz_in (i := 1056) (by decide +kernel) (by decide +kernel), mz_in (i := 118) (by decide +kernel) (by decide +kernel), ⟨by decide +kernel, by decide +kernel⟩, by decide +kernel⟩
theorem mi_Machine_callOut : mz_oi my_Machine_callOut := ⟨mz_in (i := 1055) (by decide +kernel) (by decide +kernel), mz_in (i := 93) (by decide +kernel) (by decide +kernel)⟩
abbrev mb_Machine_performOne : ByteArray := prog_6_method_5_code
def my_Machine_performOne : MethodName := ⟨"ValueMill$Machine", "performOne", "(LValueMill$Code;I)I"⟩
theorem mo_Machine_performOne : mz_ok my_Machine_performOne mb_Machine_performOne 7 (some .int) 2 := ⟨mz_in (i := 1050) (by decide +kernel) (by decide +kernel), mz_in (i := 118) (by decide +kernel) (by decide +kernel), ⟨by decide +kernel, by decide +kernel⟩, by decide +kernel⟩
theorem mi_Machine_performOne : mz_oi my_Machine_performOne := ⟨mz_in (i := 1049) (by decide +kernel) (by decide +kernel), mz_in (i := 92) (by decide +kernel) (by decide +kernel)⟩
abbrev mb_Machine_perform : ByteArray := prog_6_method_4_code
def my_Machine_perform : MethodName := ⟨"ValueMill$Machine", "perform", "(LValueMill$Code;I)I"⟩
theorem mo_Machine_perform : mz_ok my_Machine_perform mb_Machine_perform 5 (some .int) 2 := ⟨mz_in (i := 1046) (by decide +kernel) (by decide +kernel), mz_in (i := 118) (by decide +kernel) (by decide +kernel), ⟨by decide +kernel, by decide +kernel⟩, by decide +kernel⟩
theorem mi_Machine_perform : mz_oi my_Machine_perform := ⟨mz_in (i := 1045) (by decide +kernel) (by decide +kernel), mz_in (i := 91) (by decide +kernel) (by decide +kernel)⟩
abbrev mb_Machine_follow : ByteArray := prog_6_method_2_code
def my_Machine_follow : MethodName := ⟨"ValueMill$Machine", "follow", "(LValueMill$Code;LValueMill$Program;I)I"⟩
theorem mo_Machine_follow : mz_ok my_Machine_follow mb_Machine_follow 9 (some .int) 3 := ⟨mz_in (i := 1034) (by decide +kernel) (by decide +kernel), mz_in (i := 118) (by decide +kernel) (by decide +kernel), ⟨by decide +kernel, by decide +kernel⟩, by decide +kernel⟩
theorem mi_Machine_follow : mz_oi my_Machine_follow := ⟨mz_in (i := 1033) (by decide +kernel) (by decide +kernel), mz_in (i := 89) (by decide +kernel) (by decide +kernel)⟩
abbrev mb_Machine_told : ByteArray := prog_6_method_7_code
def my_Machine_told : MethodName := ⟨"ValueMill$Machine", "told", "(II)I"⟩
theorem mo_Machine_told : mz_ok my_Machine_told mb_Machine_told 4 (some .int) 2 := ⟨mz_in (i := 1083) (by decide +kernel) (by decide +kernel), mz_in (i := 118) (by decide +kernel) (by decide +kernel), ⟨by decide +kernel, by decide +kernel⟩, by decide +kernel⟩
theorem mi_Machine_told : mz_oi my_Machine_told := ⟨mz_in (i := 1082) (by decide +kernel) (by decide +kernel), mz_in (i := 94) (by decide +kernel) (by decide +kernel)⟩
abbrev mb_Mill_forgetWhatWasMade : ByteArray := prog_1_method_20_code
def my_Mill_forgetWhatWasMade : MethodName := ⟨"ValueMill", "forgetWhatWasMade", "()V"⟩
theorem mo_Mill_forgetWhatWasMade : mz_ok my_Mill_forgetWhatWasMade mb_Mill_forgetWhatWasMade 1 none 0 := ⟨mz_in (i := 577) (by decide +kernel) (by decide +kernel), mz_in (i := 108) (by decide +kernel) (by decide +kernel), ⟨by decide +kernel, by decide +kernel⟩, by decide +kernel⟩
theorem mi_Mill_forgetWhatWasMade : mz_oi my_Mill_forgetWhatWasMade := ⟨mz_in (i := 576) (by decide +kernel) (by decide +kernel), mz_in (i := 0) (by decide +kernel) (by decide +kernel)⟩
abbrev mb_Mill_block : ByteArray := prog_1_method_2_code
def my_Mill_block : MethodName := ⟨"ValueMill", "block", "()I"⟩
theorem mo_Mill_block : mz_ok my_Mill_block mb_Mill_block 1 (some .int) 0 := ⟨mz_in (i := 573) (by decide +kernel) (by decide +kernel), mz_in (i := 108) (by decide +kernel) (by decide +kernel), ⟨by decide +kernel, by decide +kernel⟩, by decide +kernel⟩
theorem mi_Mill_block : mz_oi my_Mill_block := ⟨mz_in (i := 571) (by decide +kernel) (by decide +kernel), mz_in (i := 572) (by decide +kernel) (by decide +kernel)⟩
abbrev mb_Mill_op : ByteArray := prog_1_method_3_code
def my_Mill_op : MethodName := ⟨"ValueMill", "op", "(IIIII)Z"⟩
theorem mo_Mill_op : mz_ok my_Mill_op mb_Mill_op 6 (some .boolean) 5 := ⟨mz_in (i := 581) (by decide +kernel) (by decide +kernel), mz_in (i := 108) (by decide +kernel) (by decide +kernel), ⟨by decide +kernel, by decide +kernel⟩, by decide +kernel⟩
theorem mi_Mill_op : mz_oi my_Mill_op := ⟨mz_in (i := 579) (by decide +kernel) (by decide +kernel), mz_in (i := 580) (by decide +kernel) (by decide +kernel)⟩
abbrev mb_Mill_jump : ByteArray := prog_1_method_4_code
def my_Mill_jump : MethodName := ⟨"ValueMill", "jump", "(II)Z"⟩
theorem mo_Mill_jump : mz_ok my_Mill_jump mb_Mill_jump 3 (some .boolean) 2 := ⟨mz_in (i := 599) (by decide +kernel) (by decide +kernel), mz_in (i := 108) (by decide +kernel) (by decide +kernel), ⟨by decide +kernel, by decide +kernel⟩, by decide +kernel⟩
theorem mi_Mill_jump : mz_oi my_Mill_jump := ⟨mz_in (i := 597) (by decide +kernel) (by decide +kernel), mz_in (i := 598) (by decide +kernel) (by decide +kernel)⟩
abbrev mb_Mill_branch : ByteArray := prog_1_method_5_code
def my_Mill_branch : MethodName := ⟨"ValueMill", "branch", "(IIII)Z"⟩
theorem mo_Mill_branch : mz_ok my_Mill_branch mb_Mill_branch 5 (some .boolean) 4 := ⟨mz_in (i := 611) (by decide +kernel) (by decide +kernel), mz_in (i := 108) (by decide +kernel) (by decide +kernel), ⟨by decide +kernel, by decide +kernel⟩, by decide +kernel⟩
theorem mi_Mill_branch : mz_oi my_Mill_branch := ⟨mz_in (i := 609) (by decide +kernel) (by decide +kernel), mz_in (i := 610) (by decide +kernel) (by decide +kernel)⟩
abbrev mb_Mill_ret : ByteArray := prog_1_method_6_code
def my_Mill_ret : MethodName := ⟨"ValueMill", "ret", "(II)Z"⟩
theorem mo_Mill_ret : mz_ok my_Mill_ret mb_Mill_ret 3 (some .boolean) 2 := ⟨mz_in (i := 615) (by decide +kernel) (by decide +kernel), mz_in (i := 108) (by decide +kernel) (by decide +kernel), ⟨by decide +kernel, by decide +kernel⟩, by decide +kernel⟩
theorem mi_Mill_ret : mz_oi my_Mill_ret := ⟨mz_in (i := 613) (by decide +kernel) (by decide +kernel), mz_in (i := 614) (by decide +kernel) (by decide +kernel)⟩
abbrev mb_Mill_memory : ByteArray := prog_1_method_7_code
def my_Mill_memory : MethodName := ⟨"ValueMill", "memory", "(II)Z"⟩
theorem mo_Mill_memory : mz_ok my_Mill_memory mb_Mill_memory 3 (some .boolean) 2 := ⟨mz_in (i := 619) (by decide +kernel) (by decide +kernel), mz_in (i := 108) (by decide +kernel) (by decide +kernel), ⟨by decide +kernel, by decide +kernel⟩, by decide +kernel⟩
theorem mi_Mill_memory : mz_oi my_Mill_memory := ⟨mz_in (i := 617) (by decide +kernel) (by decide +kernel), mz_in (i := 618) (by decide +kernel) (by decide +kernel)⟩
abbrev mb_Mill_look : ByteArray := prog_1_method_21_code
def my_Mill_look : MethodName := ⟨"ValueMill", "look", "()V"⟩
theorem mo_Mill_look : mz_ok my_Mill_look mb_Mill_look 1 none 0 := ⟨mz_in (i := 673) (by decide +kernel) (by decide +kernel), mz_in (i := 108) (by decide +kernel) (by decide +kernel), ⟨by decide +kernel, by decide +kernel⟩, by decide +kernel⟩
theorem mi_Mill_look : mz_oi my_Mill_look := ⟨mz_in (i := 672) (by decide +kernel) (by decide +kernel), mz_in (i := 15) (by decide +kernel) (by decide +kernel)⟩
abbrev mb_Mill_makeCode : ByteArray := prog_1_method_22_code
def my_Mill_makeCode : MethodName := ⟨"ValueMill", "makeCode", "(II)V"⟩
theorem mo_Mill_makeCode : mz_ok my_Mill_makeCode mb_Mill_makeCode 3 none 2 := ⟨mz_in (i := 630) (by decide +kernel) (by decide +kernel), mz_in (i := 108) (by decide +kernel) (by decide +kernel), ⟨by decide +kernel, by decide +kernel⟩, by decide +kernel⟩
theorem mi_Mill_makeCode : mz_oi my_Mill_makeCode := ⟨mz_in (i := 629) (by decide +kernel) (by decide +kernel), mz_in (i := 5) (by decide +kernel) (by decide +kernel)⟩
abbrev mb_Mill_run : ByteArray := prog_1_method_8_code
def my_Mill_run : MethodName := ⟨"ValueMill", "run", "(III)I"⟩
theorem mo_Mill_run : mz_ok my_Mill_run mb_Mill_run 4 (some .int) 3 := ⟨mz_in (i := 626) (by decide +kernel) (by decide +kernel), mz_in (i := 108) (by decide +kernel) (by decide +kernel), ⟨by decide +kernel, by decide +kernel⟩, by decide +kernel⟩
theorem mi_Mill_run : mz_oi my_Mill_run := ⟨mz_in (i := 624) (by decide +kernel) (by decide +kernel), mz_in (i := 625) (by decide +kernel) (by decide +kernel)⟩
abbrev mb_Mill_value : ByteArray := prog_1_method_9_code
def my_Mill_value : MethodName := ⟨"ValueMill", "value", "()I"⟩
theorem mo_Mill_value : mz_ok my_Mill_value mb_Mill_value 1 (some .int) 0 := ⟨mz_in (i := 1063) (by decide +kernel) (by decide +kernel), mz_in (i := 108) (by decide +kernel) (by decide +kernel), ⟨by decide +kernel, by decide +kernel⟩, by decide +kernel⟩
theorem mi_Mill_value : mz_oi my_Mill_value := ⟨mz_in (i := 1061) (by decide +kernel) (by decide +kernel), mz_in (i := 1062) (by decide +kernel) (by decide +kernel)⟩
abbrev mb_Mill_entered : ByteArray := prog_1_method_10_code
def my_Mill_entered : MethodName := ⟨"ValueMill", "entered", "()I"⟩
theorem mo_Mill_entered : mz_ok my_Mill_entered mb_Mill_entered 1 (some .int) 0 := ⟨mz_in (i := 1067) (by decide +kernel) (by decide +kernel), mz_in (i := 108) (by decide +kernel) (by decide +kernel), ⟨by decide +kernel, by decide +kernel⟩, by decide +kernel⟩
theorem mi_Mill_entered : mz_oi my_Mill_entered := ⟨mz_in (i := 1065) (by decide +kernel) (by decide +kernel), mz_in (i := 1066) (by decide +kernel) (by decide +kernel)⟩
abbrev mb_Mill_word : ByteArray := prog_1_method_11_code
def my_Mill_word : MethodName := ⟨"ValueMill", "word", "(I)I"⟩
theorem mo_Mill_word : mz_ok my_Mill_word mb_Mill_word 2 (some .int) 1 := ⟨mz_in (i := 1071) (by decide +kernel) (by decide +kernel), mz_in (i := 108) (by decide +kernel) (by decide +kernel), ⟨by decide +kernel, by decide +kernel⟩, by decide +kernel⟩
theorem mi_Mill_word : mz_oi my_Mill_word := ⟨mz_in (i := 1069) (by decide +kernel) (by decide +kernel), mz_in (i := 1070) (by decide +kernel) (by decide +kernel)⟩
abbrev mb_Mill_calls : ByteArray := prog_1_method_12_code
def my_Mill_calls : MethodName := ⟨"ValueMill", "calls", "()I"⟩
theorem mo_Mill_calls : mz_ok my_Mill_calls mb_Mill_calls 1 (some .int) 0 := ⟨mz_in (i := 1075) (by decide +kernel) (by decide +kernel), mz_in (i := 108) (by decide +kernel) (by decide +kernel), ⟨by decide +kernel, by decide +kernel⟩, by decide +kernel⟩
theorem mi_Mill_calls : mz_oi my_Mill_calls := ⟨mz_in (i := 1073) (by decide +kernel) (by decide +kernel), mz_in (i := 1074) (by decide +kernel) (by decide +kernel)⟩
abbrev mb_Mill_call : ByteArray := prog_1_method_13_code
def my_Mill_call : MethodName := ⟨"ValueMill", "call", "(II)I"⟩
theorem mo_Mill_call : mz_ok my_Mill_call mb_Mill_call 3 (some .int) 2 := ⟨mz_in (i := 1079) (by decide +kernel) (by decide +kernel), mz_in (i := 108) (by decide +kernel) (by decide +kernel), ⟨by decide +kernel, by decide +kernel⟩, by decide +kernel⟩
theorem mi_Mill_call : mz_oi my_Mill_call := ⟨mz_in (i := 1077) (by decide +kernel) (by decide +kernel), mz_in (i := 1078) (by decide +kernel) (by decide +kernel)⟩
abbrev mb_Mill_order : ByteArray := prog_1_method_14_code
def my_Mill_order : MethodName := ⟨"ValueMill", "order", "(I)I"⟩
theorem mo_Mill_order : mz_ok my_Mill_order mb_Mill_order 2 (some .int) 1 := ⟨mz_in (i := 1087) (by decide +kernel) (by decide +kernel), mz_in (i := 108) (by decide +kernel) (by decide +kernel), ⟨by decide +kernel, by decide +kernel⟩, by decide +kernel⟩
theorem mi_Mill_order : mz_oi my_Mill_order := ⟨mz_in (i := 1085) (by decide +kernel) (by decide +kernel), mz_in (i := 1086) (by decide +kernel) (by decide +kernel)⟩
abbrev mb_Mill_nearest : ByteArray := prog_1_method_15_code
def my_Mill_nearest : MethodName := ⟨"ValueMill", "nearest", "(I)I"⟩
theorem mo_Mill_nearest : mz_ok my_Mill_nearest mb_Mill_nearest 2 (some .int) 1 := ⟨mz_in (i := 1091) (by decide +kernel) (by decide +kernel), mz_in (i := 108) (by decide +kernel) (by decide +kernel), ⟨by decide +kernel, by decide +kernel⟩, by decide +kernel⟩
theorem mi_Mill_nearest : mz_oi my_Mill_nearest := ⟨mz_in (i := 1089) (by decide +kernel) (by decide +kernel), mz_in (i := 1090) (by decide +kernel) (by decide +kernel)⟩
abbrev mb_Mill_frontier : ByteArray := prog_1_method_16_code
def my_Mill_frontier : MethodName := ⟨"ValueMill", "frontier", "(II)Z"⟩
theorem mo_Mill_frontier : mz_ok my_Mill_frontier mb_Mill_frontier 3 (some .boolean) 2 := ⟨mz_in (i := 1100) (by decide +kernel) (by decide +kernel), mz_in (i := 108) (by decide +kernel) (by decide +kernel), ⟨by decide +kernel, by decide +kernel⟩, by decide +kernel⟩
theorem mi_Mill_frontier : mz_oi my_Mill_frontier := ⟨mz_in (i := 1098) (by decide +kernel) (by decide +kernel), mz_in (i := 1099) (by decide +kernel) (by decide +kernel)⟩
abbrev mb_Mill_live : ByteArray := prog_1_method_17_code
def my_Mill_live : MethodName := ⟨"ValueMill", "live", "(II)Z"⟩
theorem mo_Mill_live : mz_ok my_Mill_live mb_Mill_live 3 (some .boolean) 2 := ⟨mz_in (i := 1105) (by decide +kernel) (by decide +kernel), mz_in (i := 108) (by decide +kernel) (by decide +kernel), ⟨by decide +kernel, by decide +kernel⟩, by decide +kernel⟩
theorem mi_Mill_live : mz_oi my_Mill_live := ⟨mz_in (i := 1103) (by decide +kernel) (by decide +kernel), mz_in (i := 1104) (by decide +kernel) (by decide +kernel)⟩
abbrev mb_Mill_phi : ByteArray := prog_1_method_18_code
def my_Mill_phi : MethodName := ⟨"ValueMill", "phi", "(II)Z"⟩
theorem mo_Mill_phi : mz_ok my_Mill_phi mb_Mill_phi 3 (some .boolean) 2 := ⟨mz_in (i := 1109) (by decide +kernel) (by decide +kernel), mz_in (i := 108) (by decide +kernel) (by decide +kernel), ⟨by decide +kernel, by decide +kernel⟩, by decide +kernel⟩
theorem mi_Mill_phi : mz_oi my_Mill_phi := ⟨mz_in (i := 1107) (by decide +kernel) (by decide +kernel), mz_in (i := 1108) (by decide +kernel) (by decide +kernel)⟩
abbrev mb_Mill_depth : ByteArray := prog_1_method_19_code
def my_Mill_depth : MethodName := ⟨"ValueMill", "depth", "(I)I"⟩
theorem mo_Mill_depth : mz_ok my_Mill_depth mb_Mill_depth 2 (some .int) 1 := ⟨mz_in (i := 1113) (by decide +kernel) (by decide +kernel), mz_in (i := 108) (by decide +kernel) (by decide +kernel), ⟨by decide +kernel, by decide +kernel⟩, by decide +kernel⟩
theorem mi_Mill_depth : mz_oi my_Mill_depth := ⟨mz_in (i := 1111) (by decide +kernel) (by decide +kernel), mz_in (i := 1112) (by decide +kernel) (by decide +kernel)⟩
abbrev mb_Ref_isBlock : ByteArray := prog_13_method_3_code
def my_Ref_isBlock : MethodName := ⟨"ValueMillModel", "isBlock", "(I)Z"⟩
theorem mo_Ref_isBlock : mz_ok my_Ref_isBlock mb_Ref_isBlock 2 (some .boolean) 1 := ⟨mz_in (i := 1186) (by decide +kernel) (by decide +kernel), mz_in (i := 119) (by decide +kernel) (by decide +kernel), ⟨by decide +kernel, by decide +kernel⟩, by decide +kernel⟩
theorem mi_Ref_isBlock : mz_oi my_Ref_isBlock := ⟨mz_in (i := 1185) (by decide +kernel) (by decide +kernel), mz_in (i := 96) (by decide +kernel) (by decide +kernel)⟩
abbrev mb_Ref_isTemp : ByteArray := prog_13_method_4_code
def my_Ref_isTemp : MethodName := ⟨"ValueMillModel", "isTemp", "(I)Z"⟩
theorem mo_Ref_isTemp : mz_ok my_Ref_isTemp mb_Ref_isTemp 1 (some .boolean) 1 := ⟨mz_in (i := 1192) (by decide +kernel) (by decide +kernel), mz_in (i := 119) (by decide +kernel) (by decide +kernel), ⟨by decide +kernel, by decide +kernel⟩, by decide +kernel⟩
theorem mt_Ref_isTemp : Cond.static my_Ref_isTemp ∈ mz_TB := mz_in (i := 1191) (by decide +kernel) (by decide +kernel)
abbrev mb_Ref_block : ByteArray := prog_13_method_5_code
def my_Ref_block : MethodName := ⟨"ValueMillModel", "block", "()I"⟩
theorem mo_Ref_block : mz_ok my_Ref_block mb_Ref_block 1 (some .int) 0 := ⟨mz_in (i := 1178) (by decide +kernel) (by decide +kernel), mz_in (i := 119) (by decide +kernel) (by decide +kernel), ⟨by decide +kernel, by decide +kernel⟩, by decide +kernel⟩
theorem mi_Ref_block : mz_oi my_Ref_block := ⟨mz_in (i := 1176) (by decide +kernel) (by decide +kernel), mz_in (i := 1177) (by decide +kernel) (by decide +kernel)⟩
abbrev mb_Ref_isOp : ByteArray := prog_13_method_6_code
def my_Ref_isOp : MethodName := ⟨"ValueMillModel", "isOp", "(IIII)Z"⟩
theorem mo_Ref_isOp : mz_ok my_Ref_isOp mb_Ref_isOp 4 (some .boolean) 4 := ⟨mz_in (i := 1189) (by decide +kernel) (by decide +kernel), mz_in (i := 119) (by decide +kernel) (by decide +kernel), ⟨by decide +kernel, by decide +kernel⟩, by decide +kernel⟩
theorem mt_Ref_isOp : Cond.static my_Ref_isOp ∈ mz_TB := mz_in (i := 1188) (by decide +kernel) (by decide +kernel)
abbrev mb_Ref_op : ByteArray := prog_13_method_7_code
def my_Ref_op : MethodName := ⟨"ValueMillModel", "op", "(IIIII)Z"⟩
theorem mo_Ref_op : mz_ok my_Ref_op mb_Ref_op 7 (some .boolean) 5 := ⟨mz_in (i := 1182) (by decide +kernel) (by decide +kernel), mz_in (i := 119) (by decide +kernel) (by decide +kernel), ⟨by decide +kernel, by decide +kernel⟩, by decide +kernel⟩
theorem mi_Ref_op : mz_oi my_Ref_op := ⟨mz_in (i := 1180) (by decide +kernel) (by decide +kernel), mz_in (i := 1181) (by decide +kernel) (by decide +kernel)⟩
abbrev mb_Ref_jump : ByteArray := prog_13_method_8_code
def my_Ref_jump : MethodName := ⟨"ValueMillModel", "jump", "(II)Z"⟩
theorem mo_Ref_jump : mz_ok my_Ref_jump mb_Ref_jump 3 (some .boolean) 2 := ⟨mz_in (i := 1196) (by decide +kernel) (by decide +kernel), mz_in (i := 119) (by decide +kernel) (by decide +kernel), ⟨by decide +kernel, by decide +kernel⟩, by decide +kernel⟩
theorem mi_Ref_jump : mz_oi my_Ref_jump := ⟨mz_in (i := 1194) (by decide +kernel) (by decide +kernel), mz_in (i := 1195) (by decide +kernel) (by decide +kernel)⟩
abbrev mb_Ref_branch : ByteArray := prog_13_method_9_code
def my_Ref_branch : MethodName := ⟨"ValueMillModel", "branch", "(IIII)Z"⟩
theorem mo_Ref_branch : mz_ok my_Ref_branch mb_Ref_branch 5 (some .boolean) 4 := ⟨mz_in (i := 1200) (by decide +kernel) (by decide +kernel), mz_in (i := 119) (by decide +kernel) (by decide +kernel), ⟨by decide +kernel, by decide +kernel⟩, by decide +kernel⟩
theorem mi_Ref_branch : mz_oi my_Ref_branch := ⟨mz_in (i := 1198) (by decide +kernel) (by decide +kernel), mz_in (i := 1199) (by decide +kernel) (by decide +kernel)⟩
abbrev mb_Ref_ret : ByteArray := prog_13_method_10_code
def my_Ref_ret : MethodName := ⟨"ValueMillModel", "ret", "(II)Z"⟩
theorem mo_Ref_ret : mz_ok my_Ref_ret mb_Ref_ret 3 (some .boolean) 2 := ⟨mz_in (i := 1204) (by decide +kernel) (by decide +kernel), mz_in (i := 119) (by decide +kernel) (by decide +kernel), ⟨by decide +kernel, by decide +kernel⟩, by decide +kernel⟩
theorem mi_Ref_ret : mz_oi my_Ref_ret := ⟨mz_in (i := 1202) (by decide +kernel) (by decide +kernel), mz_in (i := 1203) (by decide +kernel) (by decide +kernel)⟩
abbrev mb_Ref_memory : ByteArray := prog_13_method_11_code
def my_Ref_memory : MethodName := ⟨"ValueMillModel", "memory", "(II)Z"⟩
theorem mo_Ref_memory : mz_ok my_Ref_memory mb_Ref_memory 3 (some .boolean) 2 := ⟨mz_in (i := 1208) (by decide +kernel) (by decide +kernel), mz_in (i := 119) (by decide +kernel) (by decide +kernel), ⟨by decide +kernel, by decide +kernel⟩, by decide +kernel⟩
theorem mi_Ref_memory : mz_oi my_Ref_memory := ⟨mz_in (i := 1206) (by decide +kernel) (by decide +kernel), mz_in (i := 1207) (by decide +kernel) (by decide +kernel)⟩
abbrev mb_Ref_isWord : ByteArray := prog_13_method_12_code
def my_Ref_isWord : MethodName := ⟨"ValueMillModel", "isWord", "(I)Z"⟩
theorem mo_Ref_isWord : mz_ok my_Ref_isWord mb_Ref_isWord 1 (some .boolean) 1 := ⟨mz_in (i := 1227) (by decide +kernel) (by decide +kernel), mz_in (i := 119) (by decide +kernel) (by decide +kernel), ⟨by decide +kernel, by decide +kernel⟩, by decide +kernel⟩
theorem mt_Ref_isWord : Cond.static my_Ref_isWord ∈ mz_TB := mz_in (i := 1226) (by decide +kernel) (by decide +kernel)
abbrev mb_Ref_call3 : ByteArray := prog_13_method_13_code
def my_Ref_call3 : MethodName := ⟨"ValueMillModel", "call", "(III)V"⟩
theorem mo_Ref_call3 : mz_ok my_Ref_call3 mb_Ref_call3 5 none 3 := ⟨mz_in (i := 1231) (by decide +kernel) (by decide +kernel), mz_in (i := 119) (by decide +kernel) (by decide +kernel), ⟨by decide +kernel, by decide +kernel⟩, by decide +kernel⟩
theorem mi_Ref_call3 : mz_oi my_Ref_call3 := ⟨mz_in (i := 1230) (by decide +kernel) (by decide +kernel), mz_in (i := 98) (by decide +kernel) (by decide +kernel)⟩
abbrev mb_Ref_isSlip : ByteArray := prog_13_method_14_code
def my_Ref_isSlip : MethodName := ⟨"ValueMillModel", "isSlip", "(II)Z"⟩
theorem mo_Ref_isSlip : mz_ok my_Ref_isSlip mb_Ref_isSlip 2 (some .boolean) 2 := ⟨mz_in (i := 1219) (by decide +kernel) (by decide +kernel), mz_in (i := 119) (by decide +kernel) (by decide +kernel), ⟨by decide +kernel, by decide +kernel⟩, by decide +kernel⟩
theorem mt_Ref_isSlip : Cond.static my_Ref_isSlip ∈ mz_TB := mz_in (i := 1218) (by decide +kernel) (by decide +kernel)
abbrev mb_Ref_reckon : ByteArray := prog_13_method_15_code
def my_Ref_reckon : MethodName := ⟨"ValueMillModel", "reckon", "(III)I"⟩
theorem mo_Ref_reckon : mz_ok my_Ref_reckon mb_Ref_reckon 3 (some .int) 3 := ⟨mz_in (i := 1223) (by decide +kernel) (by decide +kernel), mz_in (i := 119) (by decide +kernel) (by decide +kernel), ⟨by decide +kernel, by decide +kernel⟩, by decide +kernel⟩
theorem mt_Ref_reckon : Cond.static my_Ref_reckon ∈ mz_TB := mz_in (i := 1222) (by decide +kernel) (by decide +kernel)
abbrev mb_Ref_step : ByteArray := prog_13_method_16_code
def my_Ref_step : MethodName := ⟨"ValueMillModel", "step", "(I)I"⟩
theorem mo_Ref_step : mz_ok my_Ref_step mb_Ref_step 6 (some .int) 1 := ⟨mz_in (i := 1216) (by decide +kernel) (by decide +kernel), mz_in (i := 119) (by decide +kernel) (by decide +kernel), ⟨by decide +kernel, by decide +kernel⟩, by decide +kernel⟩
theorem mi_Ref_step : mz_oi my_Ref_step := ⟨mz_in (i := 1215) (by decide +kernel) (by decide +kernel), mz_in (i := 97) (by decide +kernel) (by decide +kernel)⟩
abbrev mb_Ref_run : ByteArray := prog_13_method_17_code
def my_Ref_run : MethodName := ⟨"ValueMillModel", "run", "(III)I"⟩
theorem mo_Ref_run : mz_ok my_Ref_run mb_Ref_run 7 (some .int) 3 := ⟨mz_in (i := 1212) (by decide +kernel) (by decide +kernel), mz_in (i := 119) (by decide +kernel) (by decide +kernel), ⟨by decide +kernel, by decide +kernel⟩, by decide +kernel⟩
theorem mi_Ref_run : mz_oi my_Ref_run := ⟨mz_in (i := 1210) (by decide +kernel) (by decide +kernel), mz_in (i := 1211) (by decide +kernel) (by decide +kernel)⟩
abbrev mb_Ref_value : ByteArray := prog_13_method_18_code
def my_Ref_value : MethodName := ⟨"ValueMillModel", "value", "()I"⟩
theorem mo_Ref_value : mz_ok my_Ref_value mb_Ref_value 1 (some .int) 0 := ⟨mz_in (i := 1235) (by decide +kernel) (by decide +kernel), mz_in (i := 119) (by decide +kernel) (by decide +kernel), ⟨by decide +kernel, by decide +kernel⟩, by decide +kernel⟩
theorem mi_Ref_value : mz_oi my_Ref_value := ⟨mz_in (i := 1233) (by decide +kernel) (by decide +kernel), mz_in (i := 1234) (by decide +kernel) (by decide +kernel)⟩
abbrev mb_Ref_entered : ByteArray := prog_13_method_19_code
def my_Ref_entered : MethodName := ⟨"ValueMillModel", "entered", "()I"⟩
theorem mo_Ref_entered : mz_ok my_Ref_entered mb_Ref_entered 1 (some .int) 0 := ⟨mz_in (i := 1239) (by decide +kernel) (by decide +kernel), mz_in (i := 119) (by decide +kernel) (by decide +kernel), ⟨by decide +kernel, by decide +kernel⟩, by decide +kernel⟩
theorem mi_Ref_entered : mz_oi my_Ref_entered := ⟨mz_in (i := 1237) (by decide +kernel) (by decide +kernel), mz_in (i := 1238) (by decide +kernel) (by decide +kernel)⟩
abbrev mb_Ref_word : ByteArray := prog_13_method_20_code
def my_Ref_word : MethodName := ⟨"ValueMillModel", "word", "(I)I"⟩
theorem mo_Ref_word : mz_ok my_Ref_word mb_Ref_word 2 (some .int) 1 := ⟨mz_in (i := 1243) (by decide +kernel) (by decide +kernel), mz_in (i := 119) (by decide +kernel) (by decide +kernel), ⟨by decide +kernel, by decide +kernel⟩, by decide +kernel⟩
theorem mi_Ref_word : mz_oi my_Ref_word := ⟨mz_in (i := 1241) (by decide +kernel) (by decide +kernel), mz_in (i := 1242) (by decide +kernel) (by decide +kernel)⟩
abbrev mb_Ref_calls : ByteArray := prog_13_method_21_code
def my_Ref_calls : MethodName := ⟨"ValueMillModel", "calls", "()I"⟩
theorem mo_Ref_calls : mz_ok my_Ref_calls mb_Ref_calls 1 (some .int) 0 := ⟨mz_in (i := 1247) (by decide +kernel) (by decide +kernel), mz_in (i := 119) (by decide +kernel) (by decide +kernel), ⟨by decide +kernel, by decide +kernel⟩, by decide +kernel⟩
theorem mi_Ref_calls : mz_oi my_Ref_calls := ⟨mz_in (i := 1245) (by decide +kernel) (by decide +kernel), mz_in (i := 1246) (by decide +kernel) (by decide +kernel)⟩
abbrev mb_Ref_call2 : ByteArray := prog_13_method_22_code
def my_Ref_call2 : MethodName := ⟨"ValueMillModel", "call", "(II)I"⟩
theorem mo_Ref_call2 : mz_ok my_Ref_call2 mb_Ref_call2 3 (some .int) 2 := ⟨mz_in (i := 1251) (by decide +kernel) (by decide +kernel), mz_in (i := 119) (by decide +kernel) (by decide +kernel), ⟨by decide +kernel, by decide +kernel⟩, by decide +kernel⟩
theorem mi_Ref_call2 : mz_oi my_Ref_call2 := ⟨mz_in (i := 1249) (by decide +kernel) (by decide +kernel), mz_in (i := 1250) (by decide +kernel) (by decide +kernel)⟩
abbrev mb_Ref_hasEdge : ByteArray := prog_13_method_23_code
def my_Ref_hasEdge : MethodName := ⟨"ValueMillModel", "hasEdge", "(II)Z"⟩
theorem mo_Ref_hasEdge : mz_ok my_Ref_hasEdge mb_Ref_hasEdge 3 (some .boolean) 2 := ⟨mz_in (i := 1279) (by decide +kernel) (by decide +kernel), mz_in (i := 119) (by decide +kernel) (by decide +kernel), ⟨by decide +kernel, by decide +kernel⟩, by decide +kernel⟩
theorem mi_Ref_hasEdge : mz_oi my_Ref_hasEdge := ⟨mz_in (i := 1278) (by decide +kernel) (by decide +kernel), mz_in (i := 103) (by decide +kernel) (by decide +kernel)⟩
abbrev mb_Ref_reach : ByteArray := prog_13_method_24_code
def my_Ref_reach : MethodName := ⟨"ValueMillModel", "reach", "(II)I"⟩
theorem mo_Ref_reach : mz_ok my_Ref_reach mb_Ref_reach 7 (some .int) 2 := ⟨mz_in (i := 1275) (by decide +kernel) (by decide +kernel), mz_in (i := 119) (by decide +kernel) (by decide +kernel), ⟨by decide +kernel, by decide +kernel⟩, by decide +kernel⟩
theorem mi_Ref_reach : mz_oi my_Ref_reach := ⟨mz_in (i := 1274) (by decide +kernel) (by decide +kernel), mz_in (i := 102) (by decide +kernel) (by decide +kernel)⟩
abbrev mb_Ref_isAlive : ByteArray := prog_13_method_25_code
def my_Ref_isAlive : MethodName := ⟨"ValueMillModel", "isAlive", "(I)Z"⟩
theorem mo_Ref_isAlive : mz_ok my_Ref_isAlive mb_Ref_isAlive 2 (some .boolean) 1 := ⟨mz_in (i := 1271) (by decide +kernel) (by decide +kernel), mz_in (i := 119) (by decide +kernel) (by decide +kernel), ⟨by decide +kernel, by decide +kernel⟩, by decide +kernel⟩
theorem mi_Ref_isAlive : mz_oi my_Ref_isAlive := ⟨mz_in (i := 1270) (by decide +kernel) (by decide +kernel), mz_in (i := 101) (by decide +kernel) (by decide +kernel)⟩
abbrev mb_Ref_note : ByteArray := prog_13_method_26_code
def my_Ref_note : MethodName := ⟨"ValueMillModel", "note", "()I"⟩
theorem mo_Ref_note : mz_ok my_Ref_note mb_Ref_note 7 (some .int) 0 := ⟨mz_in (i := 1259) (by decide +kernel) (by decide +kernel), mz_in (i := 119) (by decide +kernel) (by decide +kernel), ⟨by decide +kernel, by decide +kernel⟩, by decide +kernel⟩
theorem mi_Ref_note : mz_oi my_Ref_note := ⟨mz_in (i := 1258) (by decide +kernel) (by decide +kernel), mz_in (i := 99) (by decide +kernel) (by decide +kernel)⟩
abbrev mb_Ref_order : ByteArray := prog_13_method_27_code
def my_Ref_order : MethodName := ⟨"ValueMillModel", "order", "(I)I"⟩
theorem mo_Ref_order : mz_ok my_Ref_order mb_Ref_order 3 (some .int) 1 := ⟨mz_in (i := 1255) (by decide +kernel) (by decide +kernel), mz_in (i := 119) (by decide +kernel) (by decide +kernel), ⟨by decide +kernel, by decide +kernel⟩, by decide +kernel⟩
theorem mi_Ref_order : mz_oi my_Ref_order := ⟨mz_in (i := 1253) (by decide +kernel) (by decide +kernel), mz_in (i := 1254) (by decide +kernel) (by decide +kernel)⟩
abbrev mb_Ref_dominates : ByteArray := prog_13_method_28_code
def my_Ref_dominates : MethodName := ⟨"ValueMillModel", "dominates", "(II)Z"⟩
theorem mo_Ref_dominates : mz_ok my_Ref_dominates mb_Ref_dominates 3 (some .boolean) 2 := ⟨mz_in (i := 1267) (by decide +kernel) (by decide +kernel), mz_in (i := 119) (by decide +kernel) (by decide +kernel), ⟨by decide +kernel, by decide +kernel⟩, by decide +kernel⟩
theorem mi_Ref_dominates : mz_oi my_Ref_dominates := ⟨mz_in (i := 1266) (by decide +kernel) (by decide +kernel), mz_in (i := 100) (by decide +kernel) (by decide +kernel)⟩
abbrev mb_Ref_nearest : ByteArray := prog_13_method_29_code
def my_Ref_nearest : MethodName := ⟨"ValueMillModel", "nearest", "(I)I"⟩
theorem mo_Ref_nearest : mz_ok my_Ref_nearest mb_Ref_nearest 5 (some .int) 1 := ⟨mz_in (i := 1263) (by decide +kernel) (by decide +kernel), mz_in (i := 119) (by decide +kernel) (by decide +kernel), ⟨by decide +kernel, by decide +kernel⟩, by decide +kernel⟩
theorem mi_Ref_nearest : mz_oi my_Ref_nearest := ⟨mz_in (i := 1261) (by decide +kernel) (by decide +kernel), mz_in (i := 1262) (by decide +kernel) (by decide +kernel)⟩
abbrev mb_Ref_frontier : ByteArray := prog_13_method_30_code
def my_Ref_frontier : MethodName := ⟨"ValueMillModel", "frontier", "(II)Z"⟩
theorem mo_Ref_frontier : mz_ok my_Ref_frontier mb_Ref_frontier 5 (some .boolean) 2 := ⟨mz_in (i := 1283) (by decide +kernel) (by decide +kernel), mz_in (i := 119) (by decide +kernel) (by decide +kernel), ⟨by decide +kernel, by decide +kernel⟩, by decide +kernel⟩
theorem mi_Ref_frontier : mz_oi my_Ref_frontier := ⟨mz_in (i := 1281) (by decide +kernel) (by decide +kernel), mz_in (i := 1282) (by decide +kernel) (by decide +kernel)⟩
abbrev mb_Ref_uses : ByteArray := prog_13_method_31_code
def my_Ref_uses : MethodName := ⟨"ValueMillModel", "uses", "(IIII)Z"⟩
theorem mo_Ref_uses : mz_ok my_Ref_uses mb_Ref_uses 6 (some .boolean) 4 := ⟨mz_in (i := 1294) (by decide +kernel) (by decide +kernel), mz_in (i := 119) (by decide +kernel) (by decide +kernel), ⟨by decide +kernel, by decide +kernel⟩, by decide +kernel⟩
theorem mt_Ref_uses : Cond.static my_Ref_uses ∈ mz_TB := mz_in (i := 1293) (by decide +kernel) (by decide +kernel)
abbrev mb_Ref_fate : ByteArray := prog_13_method_32_code
def my_Ref_fate : MethodName := ⟨"ValueMillModel", "fate", "(II)I"⟩
theorem mo_Ref_fate : mz_ok my_Ref_fate mb_Ref_fate 5 (some .int) 2 := ⟨mz_in (i := 1291) (by decide +kernel) (by decide +kernel), mz_in (i := 119) (by decide +kernel) (by decide +kernel), ⟨by decide +kernel, by decide +kernel⟩, by decide +kernel⟩
theorem mi_Ref_fate : mz_oi my_Ref_fate := ⟨mz_in (i := 1290) (by decide +kernel) (by decide +kernel), mz_in (i := 104) (by decide +kernel) (by decide +kernel)⟩
abbrev mb_Ref_isSet : ByteArray := prog_13_method_33_code
def my_Ref_isSet : MethodName := ⟨"ValueMillModel", "isSet", "(II)Z"⟩
theorem mo_Ref_isSet : mz_ok my_Ref_isSet mb_Ref_isSet 5 (some .boolean) 2 := ⟨mz_in (i := 1303) (by decide +kernel) (by decide +kernel), mz_in (i := 119) (by decide +kernel) (by decide +kernel), ⟨by decide +kernel, by decide +kernel⟩, by decide +kernel⟩
theorem mi_Ref_isSet : mz_oi my_Ref_isSet := ⟨mz_in (i := 1302) (by decide +kernel) (by decide +kernel), mz_in (i := 105) (by decide +kernel) (by decide +kernel)⟩
abbrev mb_Ref_live : ByteArray := prog_13_method_34_code
def my_Ref_live : MethodName := ⟨"ValueMillModel", "live", "(II)Z"⟩
theorem mo_Ref_live : mz_ok my_Ref_live mb_Ref_live 8 (some .boolean) 2 := ⟨mz_in (i := 1287) (by decide +kernel) (by decide +kernel), mz_in (i := 119) (by decide +kernel) (by decide +kernel), ⟨by decide +kernel, by decide +kernel⟩, by decide +kernel⟩
theorem mi_Ref_live : mz_oi my_Ref_live := ⟨mz_in (i := 1285) (by decide +kernel) (by decide +kernel), mz_in (i := 1286) (by decide +kernel) (by decide +kernel)⟩
abbrev mb_Ref_phi : ByteArray := prog_13_method_35_code
def my_Ref_phi : MethodName := ⟨"ValueMillModel", "phi", "(II)Z"⟩
theorem mo_Ref_phi : mz_ok my_Ref_phi mb_Ref_phi 8 (some .boolean) 2 := ⟨mz_in (i := 1298) (by decide +kernel) (by decide +kernel), mz_in (i := 119) (by decide +kernel) (by decide +kernel), ⟨by decide +kernel, by decide +kernel⟩, by decide +kernel⟩
theorem mi_Ref_phi : mz_oi my_Ref_phi := ⟨mz_in (i := 1296) (by decide +kernel) (by decide +kernel), mz_in (i := 1297) (by decide +kernel) (by decide +kernel)⟩
abbrev mb_Ref_isInLoop : ByteArray := prog_13_method_37_code
def my_Ref_isInLoop : MethodName := ⟨"ValueMillModel", "isInLoop", "(II)Z"⟩
theorem mo_Ref_isInLoop : mz_ok my_Ref_isInLoop mb_Ref_isInLoop 5 (some .boolean) 2 := ⟨mz_in (i := 1312) (by decide +kernel) (by decide +kernel), mz_in (i := 119) (by decide +kernel) (by decide +kernel), ⟨by decide +kernel, by decide +kernel⟩, by decide +kernel⟩
theorem mi_Ref_isInLoop : mz_oi my_Ref_isInLoop := ⟨mz_in (i := 1311) (by decide +kernel) (by decide +kernel), mz_in (i := 106) (by decide +kernel) (by decide +kernel)⟩
abbrev mb_Ref_depth : ByteArray := prog_13_method_36_code
def my_Ref_depth : MethodName := ⟨"ValueMillModel", "depth", "(I)I"⟩
theorem mo_Ref_depth : mz_ok my_Ref_depth mb_Ref_depth 4 (some .int) 1 := ⟨mz_in (i := 1308) (by decide +kernel) (by decide +kernel), mz_in (i := 119) (by decide +kernel) (by decide +kernel), ⟨by decide +kernel, by decide +kernel⟩, by decide +kernel⟩
theorem mi_Ref_depth : mz_oi my_Ref_depth := ⟨mz_in (i := 1306) (by decide +kernel) (by decide +kernel), mz_in (i := 1307) (by decide +kernel) (by decide +kernel)⟩
abbrev mb_Arrays_fillI : ByteArray := prog_15_method_103_code
def my_Arrays_fillI : MethodName := ⟨"java/util/Arrays", "fill", "([II)V"⟩
theorem mo_Arrays_fillI : mz_ok my_Arrays_fillI mb_Arrays_fillI 4 none 2 := ⟨mz_in (i := 641) (by decide +kernel) (by decide +kernel), mz_in (i := 120) (by decide +kernel) (by decide +kernel), ⟨by decide +kernel, by decide +kernel⟩, by decide +kernel⟩
theorem mt_Arrays_fillI : Cond.static my_Arrays_fillI ∈ mz_TB := mz_in (i := 640) (by decide +kernel) (by decide +kernel)
abbrev mb_Arrays_fillJ : ByteArray := prog_15_method_101_code
def my_Arrays_fillJ : MethodName := ⟨"java/util/Arrays", "fill", "([JJ)V"⟩
theorem mo_Arrays_fillJ : mz_ok my_Arrays_fillJ mb_Arrays_fillJ 5 none 2 := ⟨mz_in (i := 875) (by decide +kernel) (by decide +kernel), mz_in (i := 120) (by decide +kernel) (by decide +kernel), ⟨by decide +kernel, by decide +kernel⟩, by decide +kernel⟩
theorem mt_Arrays_fillJ : Cond.static my_Arrays_fillJ ∈ mz_TB := mz_in (i := 874) (by decide +kernel) (by decide +kernel)
theorem mk_bipush_6 : (Int8.ofInt 6).toInt32 = 6 := by decide
theorem mk_bipush_7 : (Int8.ofInt 7).toInt32 = 7 := by decide
theorem mk_bipush_8 : (Int8.ofInt 8).toInt32 = 8 := by decide
theorem mk_bipush_9 : (Int8.ofInt 9).toInt32 = 9 := by decide
theorem mk_bipush_10 : (Int8.ofInt 10).toInt32 = 10 := by decide
theorem mk_bipush_12 : (Int8.ofInt 12).toInt32 = 12 := by decide
theorem mk_bipush_16 : (Int8.ofInt 16).toInt32 = 16 := by decide
theorem mk_bipush_17 : (Int8.ofInt 17).toInt32 = 17 := by decide
theorem mk_bipush_18 : (Int8.ofInt 18).toInt32 = 18 := by decide
theorem mk_bipush_20 : (Int8.ofInt 20).toInt32 = 20 := by decide
theorem mk_bipush_31 : (Int8.ofInt 31).toInt32 = 31 := by decide
theorem mk_bipush_32 : (Int8.ofInt 32).toInt32 = 32 := by decide
theorem mk_bipush_48 : (Int8.ofInt 48).toInt32 = 48 := by decide
theorem mk_bipush_100 : (Int8.ofInt 100).toInt32 = 100 := by decide
theorem mk_bipush_101 : (Int8.ofInt 101).toInt32 = 101 := by decide
theorem mk_iconst_m1 : Int32.ofInt (-1) = (-1) := by decide
theorem mk_iconst_0 : Int32.ofInt 0 = 0 := by decide
theorem mk_iconst_1 : Int32.ofInt 1 = 1 := by decide
theorem mk_iconst_2 : Int32.ofInt 2 = 2 := by decide
theorem mk_iconst_3 : Int32.ofInt 3 = 3 := by decide
theorem mk_iconst_4 : Int32.ofInt 4 = 4 := by decide
theorem mk_iconst_5 : Int32.ofInt 5 = 5 := by decide
theorem mk_sipush_200 : (Int16.ofInt 200).toInt32 = 200 := by decide
theorem mk_sipush_221 : (Int16.ofInt 221).toInt32 = 221 := by decide
theorem mk_sipush_229 : (Int16.ofInt 229).toInt32 = 229 := by decide
theorem mk_sipush_230 : (Int16.ofInt 230).toInt32 = 230 := by decide
theorem mk_sipush_500 : (Int16.ofInt 500).toInt32 = 500 := by decide
theorem mk_sipush_1090 : (Int16.ofInt 1090).toInt32 = 1090 := by decide
theorem ml_29 : (Jvm.Cond.fieldLink "ValueMill$Program" (9 : Nat) "ValueMill$Program" "kind" "[I") ∈ mz_TB := mz_in (i := 136) (by decide +kernel) (by decide +kernel)
theorem ml_30 : (Jvm.Cond.fieldLinkNest "ValueMill$Writer" (63 : Nat) "ValueMill$Program" "kind" "[I" "ValueMill") ∈ mz_NW := mz_inN (i := 137) (by decide +kernel) (by decide +kernel)
theorem ml_31 : (Jvm.Cond.fieldLinkNest "ValueMill$Stands" (126 : Nat) "ValueMill$Program" "kind" "[I" "ValueMill") ∈ mz_NW := mz_inN (i := 138) (by decide +kernel) (by decide +kernel)
theorem ml_32 : (Jvm.Cond.fieldLink "ValueMill$Program" (15 : Nat) "ValueMill$Program" "d" "[I") ∈ mz_TB := mz_in (i := 139) (by decide +kernel) (by decide +kernel)
theorem ml_33 : (Jvm.Cond.fieldLinkNest "ValueMill$Writer" (66 : Nat) "ValueMill$Program" "d" "[I" "ValueMill") ∈ mz_NW := mz_inN (i := 140) (by decide +kernel) (by decide +kernel)
theorem ml_34 : (Jvm.Cond.fieldLinkNest "ValueMill$Names" (88 : Nat) "ValueMill$Program" "d" "[I" "ValueMill") ∈ mz_NW := mz_inN (i := 141) (by decide +kernel) (by decide +kernel)
theorem ml_35 : (Jvm.Cond.fieldLinkNest "ValueMill$Homes" (186 : Nat) "ValueMill$Program" "d" "[I" "ValueMill") ∈ mz_NW := mz_inN (i := 142) (by decide +kernel) (by decide +kernel)
theorem ml_36 : (Jvm.Cond.fieldLink "ValueMill$Program" (18 : Nat) "ValueMill$Program" "a" "[I") ∈ mz_TB := mz_in (i := 143) (by decide +kernel) (by decide +kernel)
theorem ml_37 : (Jvm.Cond.fieldLinkNest "ValueMill$Writer" (69 : Nat) "ValueMill$Program" "a" "[I" "ValueMill") ∈ mz_NW := mz_inN (i := 144) (by decide +kernel) (by decide +kernel)
theorem ml_38 : (Jvm.Cond.fieldLinkNest "ValueMill$Names" (80 : Nat) "ValueMill$Program" "a" "[I" "ValueMill") ∈ mz_NW := mz_inN (i := 145) (by decide +kernel) (by decide +kernel)
theorem ml_39 : (Jvm.Cond.fieldLinkNest "ValueMill$Stands" (129 : Nat) "ValueMill$Program" "a" "[I" "ValueMill") ∈ mz_NW := mz_inN (i := 146) (by decide +kernel) (by decide +kernel)
theorem ml_40 : (Jvm.Cond.fieldLink "ValueMill$Program" (21 : Nat) "ValueMill$Program" "b" "[I") ∈ mz_TB := mz_in (i := 147) (by decide +kernel) (by decide +kernel)
theorem ml_41 : (Jvm.Cond.fieldLinkNest "ValueMill$Writer" (72 : Nat) "ValueMill$Program" "b" "[I" "ValueMill") ∈ mz_NW := mz_inN (i := 148) (by decide +kernel) (by decide +kernel)
theorem ml_42 : (Jvm.Cond.fieldLinkNest "ValueMill$Names" (84 : Nat) "ValueMill$Program" "b" "[I" "ValueMill") ∈ mz_NW := mz_inN (i := 149) (by decide +kernel) (by decide +kernel)
theorem ml_43 : (Jvm.Cond.fieldLink "ValueMill$Program" (24 : Nat) "ValueMill$Program" "length" "[I") ∈ mz_TB := mz_in (i := 150) (by decide +kernel) (by decide +kernel)
theorem ml_44 : (Jvm.Cond.fieldLinkNest "ValueMill$Writer" (59 : Nat) "ValueMill$Program" "length" "[I" "ValueMill") ∈ mz_NW := mz_inN (i := 151) (by decide +kernel) (by decide +kernel)
theorem ml_45 : (Jvm.Cond.fieldLinkNest "ValueMill" (101 : Nat) "ValueMill$Program" "length" "[I" "ValueMill") ∈ mz_NW := mz_inN (i := 152) (by decide +kernel) (by decide +kernel)
theorem ml_46 : (Jvm.Cond.fieldLinkNest "ValueMill$Lives" (49 : Nat) "ValueMill$Program" "length" "[I" "ValueMill") ∈ mz_NW := mz_inN (i := 153) (by decide +kernel) (by decide +kernel)
theorem ml_47 : (Jvm.Cond.fieldLinkNest "ValueMill$Names" (73 : Nat) "ValueMill$Program" "length" "[I" "ValueMill") ∈ mz_NW := mz_inN (i := 154) (by decide +kernel) (by decide +kernel)
theorem ml_48 : (Jvm.Cond.fieldLinkNest "ValueMill$Homes" (83 : Nat) "ValueMill$Program" "length" "[I" "ValueMill") ∈ mz_NW := mz_inN (i := 155) (by decide +kernel) (by decide +kernel)
theorem ml_49 : (Jvm.Cond.fieldLinkNest "ValueMill$Stands" (96 : Nat) "ValueMill$Program" "length" "[I" "ValueMill") ∈ mz_NW := mz_inN (i := 156) (by decide +kernel) (by decide +kernel)
theorem ml_50 : (Jvm.Cond.fieldLink "ValueMill$Program" (27 : Nat) "ValueMill$Program" "end" "[I") ∈ mz_TB := mz_in (i := 157) (by decide +kernel) (by decide +kernel)
theorem ml_51 : (Jvm.Cond.fieldLinkNest "ValueMill$Machine" (47 : Nat) "ValueMill$Program" "end" "[I" "ValueMill") ∈ mz_NW := mz_inN (i := 158) (by decide +kernel) (by decide +kernel)
theorem ml_52 : (Jvm.Cond.fieldLink "ValueMill$Program" (30 : Nat) "ValueMill$Program" "endTemp" "[I") ∈ mz_TB := mz_in (i := 159) (by decide +kernel) (by decide +kernel)
theorem ml_53 : (Jvm.Cond.fieldLinkNest "ValueMill$Names" (53 : Nat) "ValueMill$Program" "endTemp" "[I" "ValueMill") ∈ mz_NW := mz_inN (i := 160) (by decide +kernel) (by decide +kernel)
theorem ml_54 : (Jvm.Cond.fieldLinkNest "ValueMill$Writer" (86 : Nat) "ValueMill$Program" "endTemp" "[I" "ValueMill") ∈ mz_NW := mz_inN (i := 161) (by decide +kernel) (by decide +kernel)
theorem ml_55 : (Jvm.Cond.fieldLink "ValueMill$Program" (33 : Nat) "ValueMill$Program" "first" "[I") ∈ mz_TB := mz_in (i := 162) (by decide +kernel) (by decide +kernel)
theorem ml_56 : (Jvm.Cond.fieldLink "ValueMill$Program" (36 : Nat) "ValueMill$Program" "second" "[I") ∈ mz_TB := mz_in (i := 163) (by decide +kernel) (by decide +kernel)
theorem ml_58 : (Jvm.Cond.fieldLinkNest "ValueMill$Machine" (21 : Nat) "ValueMill$Program" "told" "[I" "ValueMill") ∈ mz_NW := mz_inN (i := 165) (by decide +kernel) (by decide +kernel)
theorem ml_59 : (Jvm.Cond.fieldLinkNest "ValueMill" (126 : Nat) "ValueMill$Program" "told" "[I" "ValueMill") ∈ mz_NW := mz_inN (i := 166) (by decide +kernel) (by decide +kernel)
theorem ml_60 : (Jvm.Cond.fieldLinkNest "ValueMill" (91 : Nat) "ValueMill$Program" "blocks" "I" "ValueMill") ∈ mz_NW := mz_inN (i := 167) (by decide +kernel) (by decide +kernel)
theorem ml_61 : (Jvm.Cond.fieldLink "ValueMill$Program" (42 : Nat) "ValueMill$Program" "blocks" "I") ∈ mz_TB := mz_in (i := 168) (by decide +kernel) (by decide +kernel)
theorem ml_62 : (Jvm.Cond.fieldLinkNest "ValueMill$Lives" (32 : Nat) "ValueMill$Program" "blocks" "I" "ValueMill") ∈ mz_NW := mz_inN (i := 169) (by decide +kernel) (by decide +kernel)
theorem ml_63 : (Jvm.Cond.fieldLinkNest "ValueMill$Writer" (49 : Nat) "ValueMill$Program" "blocks" "I" "ValueMill") ∈ mz_NW := mz_inN (i := 170) (by decide +kernel) (by decide +kernel)
theorem ml_64 : (Jvm.Cond.fieldLinkNest "ValueMill$Flow" (46 : Nat) "ValueMill$Program" "blocks" "I" "ValueMill") ∈ mz_NW := mz_inN (i := 171) (by decide +kernel) (by decide +kernel)
theorem ml_65 : (Jvm.Cond.fieldLinkNest "ValueMill$Stands" (112 : Nat) "ValueMill$Program" "blocks" "I" "ValueMill") ∈ mz_NW := mz_inN (i := 172) (by decide +kernel) (by decide +kernel)
theorem ml_96 : (Jvm.Cond.fieldLink "ValueMill$Flow" (33 : Nat) "ValueMill$Flow" "program" "LValueMill$Program;") ∈ mz_TB := mz_in (i := 203) (by decide +kernel) (by decide +kernel)
theorem ml_97 : (Jvm.Cond.fieldLink "ValueMill$Flow" (9 : Nat) "ValueMill$Flow" "next" "[I") ∈ mz_TB := mz_in (i := 204) (by decide +kernel) (by decide +kernel)
theorem ml_98 : (Jvm.Cond.fieldLink "ValueMill$Flow" (15 : Nat) "ValueMill$Flow" "previous" "[I") ∈ mz_TB := mz_in (i := 205) (by decide +kernel) (by decide +kernel)
theorem ml_99 : (Jvm.Cond.fieldLinkNest "ValueMill$Stands" (115 : Nat) "ValueMill$Flow" "previous" "[I" "ValueMill") ∈ mz_NW := mz_inN (i := 206) (by decide +kernel) (by decide +kernel)
theorem ml_100 : (Jvm.Cond.fieldLink "ValueMill$Flow" (18 : Nat) "ValueMill$Flow" "order" "[I") ∈ mz_TB := mz_in (i := 207) (by decide +kernel) (by decide +kernel)
theorem ml_101 : (Jvm.Cond.fieldLinkNest "ValueMill$Names" (42 : Nat) "ValueMill$Flow" "order" "[I" "ValueMill") ∈ mz_NW := mz_inN (i := 208) (by decide +kernel) (by decide +kernel)
theorem ml_102 : (Jvm.Cond.fieldLinkNest "ValueMill$Writer" (105 : Nat) "ValueMill$Flow" "order" "[I" "ValueMill") ∈ mz_NW := mz_inN (i := 209) (by decide +kernel) (by decide +kernel)
theorem ml_103 : (Jvm.Cond.fieldLinkNest "ValueMill$Homes" (77 : Nat) "ValueMill$Flow" "order" "[I" "ValueMill") ∈ mz_NW := mz_inN (i := 210) (by decide +kernel) (by decide +kernel)
theorem ml_104 : (Jvm.Cond.fieldLinkNest "ValueMill$Stands" (90 : Nat) "ValueMill$Flow" "order" "[I" "ValueMill") ∈ mz_NW := mz_inN (i := 211) (by decide +kernel) (by decide +kernel)
theorem ml_105 : (Jvm.Cond.fieldLinkNest "ValueMill" (158 : Nat) "ValueMill$Flow" "order" "[I" "ValueMill") ∈ mz_NW := mz_inN (i := 212) (by decide +kernel) (by decide +kernel)
theorem ml_106 : (Jvm.Cond.fieldLink "ValueMill$Flow" (21 : Nat) "ValueMill$Flow" "dominators" "[I") ∈ mz_TB := mz_in (i := 213) (by decide +kernel) (by decide +kernel)
theorem ml_107 : (Jvm.Cond.fieldLink "ValueMill$Flow" (24 : Nat) "ValueMill$Flow" "nearest" "[I") ∈ mz_TB := mz_in (i := 214) (by decide +kernel) (by decide +kernel)
theorem ml_108 : (Jvm.Cond.fieldLinkNest "ValueMill$Names" (70 : Nat) "ValueMill$Flow" "nearest" "[I" "ValueMill") ∈ mz_NW := mz_inN (i := 215) (by decide +kernel) (by decide +kernel)
theorem ml_109 : (Jvm.Cond.fieldLinkNest "ValueMill" (164 : Nat) "ValueMill$Flow" "nearest" "[I" "ValueMill") ∈ mz_NW := mz_inN (i := 216) (by decide +kernel) (by decide +kernel)
theorem ml_110 : (Jvm.Cond.fieldLink "ValueMill$Flow" (27 : Nat) "ValueMill$Flow" "frontier" "[I") ∈ mz_TB := mz_in (i := 217) (by decide +kernel) (by decide +kernel)
theorem ml_111 : (Jvm.Cond.fieldLinkNest "ValueMill$Lives" (80 : Nat) "ValueMill$Flow" "frontier" "[I" "ValueMill") ∈ mz_NW := mz_inN (i := 218) (by decide +kernel) (by decide +kernel)
theorem ml_112 : (Jvm.Cond.fieldLinkNest "ValueMill" (167 : Nat) "ValueMill$Flow" "frontier" "[I" "ValueMill") ∈ mz_NW := mz_inN (i := 219) (by decide +kernel) (by decide +kernel)
theorem ml_113 : (Jvm.Cond.fieldLink "ValueMill$Flow" (30 : Nat) "ValueMill$Flow" "depth" "[I") ∈ mz_TB := mz_in (i := 220) (by decide +kernel) (by decide +kernel)
theorem ml_114 : (Jvm.Cond.fieldLinkNest "ValueMill$Homes" (80 : Nat) "ValueMill$Flow" "depth" "[I" "ValueMill") ∈ mz_NW := mz_inN (i := 221) (by decide +kernel) (by decide +kernel)
theorem ml_115 : (Jvm.Cond.fieldLinkNest "ValueMill" (180 : Nat) "ValueMill$Flow" "depth" "[I" "ValueMill") ∈ mz_NW := mz_inN (i := 222) (by decide +kernel) (by decide +kernel)
theorem ml_116 : (Jvm.Cond.fieldLink "ValueMill$Flow" (72 : Nat) "ValueMill$Flow" "alive" "I") ∈ mz_TB := mz_in (i := 223) (by decide +kernel) (by decide +kernel)
theorem ml_117 : (Jvm.Cond.fieldLinkNest "ValueMill$Lives" (68 : Nat) "ValueMill$Flow" "alive" "I" "ValueMill") ∈ mz_NW := mz_inN (i := 224) (by decide +kernel) (by decide +kernel)
theorem ml_118 : (Jvm.Cond.fieldLink "ValueMill$Flow" (90 : Nat) "ValueMill$Flow" "gone" "I") ∈ mz_TB := mz_in (i := 225) (by decide +kernel) (by decide +kernel)
theorem ml_119 : (Jvm.Cond.fieldLinkNest "ValueMill$Names" (36 : Nat) "ValueMill$Flow" "count" "I" "ValueMill") ∈ mz_NW := mz_inN (i := 226) (by decide +kernel) (by decide +kernel)
theorem ml_120 : (Jvm.Cond.fieldLinkNest "ValueMill$Writer" (100 : Nat) "ValueMill$Flow" "count" "I" "ValueMill") ∈ mz_NW := mz_inN (i := 227) (by decide +kernel) (by decide +kernel)
theorem ml_121 : (Jvm.Cond.fieldLinkNest "ValueMill$Homes" (72 : Nat) "ValueMill$Flow" "count" "I" "ValueMill") ∈ mz_NW := mz_inN (i := 228) (by decide +kernel) (by decide +kernel)
theorem ml_122 : (Jvm.Cond.fieldLink "ValueMill$Flow" (93 : Nat) "ValueMill$Flow" "count" "I") ∈ mz_TB := mz_in (i := 229) (by decide +kernel) (by decide +kernel)
theorem ml_123 : (Jvm.Cond.fieldLinkNest "ValueMill$Stands" (84 : Nat) "ValueMill$Flow" "count" "I" "ValueMill") ∈ mz_NW := mz_inN (i := 230) (by decide +kernel) (by decide +kernel)
theorem ml_124 : (Jvm.Cond.fieldLinkNest "ValueMill" (155 : Nat) "ValueMill$Flow" "count" "I" "ValueMill") ∈ mz_NW := mz_inN (i := 231) (by decide +kernel) (by decide +kernel)
theorem ml_154 : (Jvm.Cond.fieldLink "ValueMill$Lives" (24 : Nat) "ValueMill$Lives" "program" "LValueMill$Program;") ∈ mz_TB := mz_in (i := 261) (by decide +kernel) (by decide +kernel)
theorem ml_155 : (Jvm.Cond.fieldLink "ValueMill$Lives" (28 : Nat) "ValueMill$Lives" "flow" "LValueMill$Flow;") ∈ mz_TB := mz_in (i := 262) (by decide +kernel) (by decide +kernel)
theorem ml_156 : (Jvm.Cond.fieldLink "ValueMill$Lives" (9 : Nat) "ValueMill$Lives" "reads" "[I") ∈ mz_TB := mz_in (i := 263) (by decide +kernel) (by decide +kernel)
theorem ml_157 : (Jvm.Cond.fieldLink "ValueMill$Lives" (15 : Nat) "ValueMill$Lives" "writes" "[I") ∈ mz_TB := mz_in (i := 264) (by decide +kernel) (by decide +kernel)
theorem ml_158 : (Jvm.Cond.fieldLink "ValueMill$Lives" (18 : Nat) "ValueMill$Lives" "live" "[I") ∈ mz_TB := mz_in (i := 265) (by decide +kernel) (by decide +kernel)
theorem ml_159 : (Jvm.Cond.fieldLinkNest "ValueMill$Homes" (164 : Nat) "ValueMill$Lives" "live" "[I" "ValueMill") ∈ mz_NW := mz_inN (i := 266) (by decide +kernel) (by decide +kernel)
theorem ml_160 : (Jvm.Cond.fieldLinkNest "ValueMill" (174 : Nat) "ValueMill$Lives" "live" "[I" "ValueMill") ∈ mz_NW := mz_inN (i := 267) (by decide +kernel) (by decide +kernel)
theorem ml_161 : (Jvm.Cond.fieldLink "ValueMill$Lives" (21 : Nat) "ValueMill$Lives" "phis" "[I") ∈ mz_TB := mz_in (i := 268) (by decide +kernel) (by decide +kernel)
theorem ml_162 : (Jvm.Cond.fieldLinkNest "ValueMill$Names" (58 : Nat) "ValueMill$Lives" "phis" "[I" "ValueMill") ∈ mz_NW := mz_inN (i := 269) (by decide +kernel) (by decide +kernel)
theorem ml_163 : (Jvm.Cond.fieldLinkNest "ValueMill$Stands" (37 : Nat) "ValueMill$Lives" "phis" "[I" "ValueMill") ∈ mz_NW := mz_inN (i := 270) (by decide +kernel) (by decide +kernel)
theorem ml_164 : (Jvm.Cond.fieldLinkNest "ValueMill" (177 : Nat) "ValueMill$Lives" "phis" "[I" "ValueMill") ∈ mz_NW := mz_inN (i := 271) (by decide +kernel) (by decide +kernel)
theorem ml_184 : (Jvm.Cond.fieldLink "ValueMill$Names" (24 : Nat) "ValueMill$Names" "program" "LValueMill$Program;") ∈ mz_TB := mz_in (i := 291) (by decide +kernel) (by decide +kernel)
theorem ml_185 : (Jvm.Cond.fieldLink "ValueMill$Names" (28 : Nat) "ValueMill$Names" "flow" "LValueMill$Flow;") ∈ mz_TB := mz_in (i := 292) (by decide +kernel) (by decide +kernel)
theorem ml_186 : (Jvm.Cond.fieldLink "ValueMill$Names" (32 : Nat) "ValueMill$Names" "lives" "LValueMill$Lives;") ∈ mz_TB := mz_in (i := 293) (by decide +kernel) (by decide +kernel)
theorem ml_187 : (Jvm.Cond.fieldLink "ValueMill$Names" (9 : Nat) "ValueMill$Names" "a" "[I") ∈ mz_TB := mz_in (i := 294) (by decide +kernel) (by decide +kernel)
theorem ml_188 : (Jvm.Cond.fieldLinkNest "ValueMill$Homes" (98 : Nat) "ValueMill$Names" "a" "[I" "ValueMill") ∈ mz_NW := mz_inN (i := 295) (by decide +kernel) (by decide +kernel)
theorem ml_189 : (Jvm.Cond.fieldLinkNest "ValueMill$Writer" (129 : Nat) "ValueMill$Names" "a" "[I" "ValueMill") ∈ mz_NW := mz_inN (i := 296) (by decide +kernel) (by decide +kernel)
theorem ml_190 : (Jvm.Cond.fieldLinkNest "ValueMill$Stands" (132 : Nat) "ValueMill$Names" "a" "[I" "ValueMill") ∈ mz_NW := mz_inN (i := 297) (by decide +kernel) (by decide +kernel)
theorem ml_191 : (Jvm.Cond.fieldLink "ValueMill$Names" (15 : Nat) "ValueMill$Names" "b" "[I") ∈ mz_TB := mz_in (i := 298) (by decide +kernel) (by decide +kernel)
theorem ml_192 : (Jvm.Cond.fieldLinkNest "ValueMill$Homes" (107 : Nat) "ValueMill$Names" "b" "[I" "ValueMill") ∈ mz_NW := mz_inN (i := 299) (by decide +kernel) (by decide +kernel)
theorem ml_193 : (Jvm.Cond.fieldLinkNest "ValueMill$Writer" (144 : Nat) "ValueMill$Names" "b" "[I" "ValueMill") ∈ mz_NW := mz_inN (i := 300) (by decide +kernel) (by decide +kernel)
theorem ml_194 : (Jvm.Cond.fieldLinkNest "ValueMill$Stands" (136 : Nat) "ValueMill$Names" "b" "[I" "ValueMill") ∈ mz_NW := mz_inN (i := 301) (by decide +kernel) (by decide +kernel)
theorem ml_195 : (Jvm.Cond.fieldLink "ValueMill$Names" (18 : Nat) "ValueMill$Names" "end" "[I") ∈ mz_TB := mz_in (i := 302) (by decide +kernel) (by decide +kernel)
theorem ml_196 : (Jvm.Cond.fieldLinkNest "ValueMill$Homes" (113 : Nat) "ValueMill$Names" "end" "[I" "ValueMill") ∈ mz_NW := mz_inN (i := 303) (by decide +kernel) (by decide +kernel)
theorem ml_197 : (Jvm.Cond.fieldLinkNest "ValueMill$Writer" (166 : Nat) "ValueMill$Names" "end" "[I" "ValueMill") ∈ mz_NW := mz_inN (i := 304) (by decide +kernel) (by decide +kernel)
theorem ml_198 : (Jvm.Cond.fieldLink "ValueMill$Names" (21 : Nat) "ValueMill$Names" "behind" "[I") ∈ mz_TB := mz_in (i := 305) (by decide +kernel) (by decide +kernel)
theorem ml_220 : (Jvm.Cond.fieldLink "ValueMill$Stands" (21 : Nat) "ValueMill$Stands" "program" "LValueMill$Program;") ∈ mz_TB := mz_in (i := 327) (by decide +kernel) (by decide +kernel)
theorem ml_221 : (Jvm.Cond.fieldLink "ValueMill$Stands" (25 : Nat) "ValueMill$Stands" "flow" "LValueMill$Flow;") ∈ mz_TB := mz_in (i := 328) (by decide +kernel) (by decide +kernel)
theorem ml_222 : (Jvm.Cond.fieldLink "ValueMill$Stands" (29 : Nat) "ValueMill$Stands" "lives" "LValueMill$Lives;") ∈ mz_TB := mz_in (i := 329) (by decide +kernel) (by decide +kernel)
theorem ml_223 : (Jvm.Cond.fieldLink "ValueMill$Stands" (33 : Nat) "ValueMill$Stands" "names" "LValueMill$Names;") ∈ mz_TB := mz_in (i := 330) (by decide +kernel) (by decide +kernel)
theorem ml_224 : (Jvm.Cond.fieldLink "ValueMill$Stands" (9 : Nat) "ValueMill$Stands" "how" "[I") ∈ mz_TB := mz_in (i := 331) (by decide +kernel) (by decide +kernel)
theorem ml_225 : (Jvm.Cond.fieldLink "ValueMill$Stands" (15 : Nat) "ValueMill$Stands" "what" "[I") ∈ mz_TB := mz_in (i := 332) (by decide +kernel) (by decide +kernel)
theorem ml_226 : (Jvm.Cond.fieldLinkNest "ValueMill$Writer" (160 : Nat) "ValueMill$Stands" "what" "[I" "ValueMill") ∈ mz_NW := mz_inN (i := 333) (by decide +kernel) (by decide +kernel)
theorem ml_227 : (Jvm.Cond.fieldLinkNest "ValueMill$Homes" (139 : Nat) "ValueMill$Stands" "what" "[I" "ValueMill") ∈ mz_NW := mz_inN (i := 334) (by decide +kernel) (by decide +kernel)
theorem ml_228 : (Jvm.Cond.fieldLink "ValueMill$Stands" (18 : Nat) "ValueMill$Stands" "phisOfTheirOwn" "[I") ∈ mz_TB := mz_in (i := 335) (by decide +kernel) (by decide +kernel)
theorem ml_250 : (Jvm.Cond.fieldLink "ValueMill$Homes" (28 : Nat) "ValueMill$Homes" "program" "LValueMill$Program;") ∈ mz_TB := mz_in (i := 357) (by decide +kernel) (by decide +kernel)
theorem ml_251 : (Jvm.Cond.fieldLink "ValueMill$Homes" (32 : Nat) "ValueMill$Homes" "flow" "LValueMill$Flow;") ∈ mz_TB := mz_in (i := 358) (by decide +kernel) (by decide +kernel)
theorem ml_252 : (Jvm.Cond.fieldLink "ValueMill$Homes" (36 : Nat) "ValueMill$Homes" "lives" "LValueMill$Lives;") ∈ mz_TB := mz_in (i := 359) (by decide +kernel) (by decide +kernel)
theorem ml_253 : (Jvm.Cond.fieldLink "ValueMill$Homes" (40 : Nat) "ValueMill$Homes" "names" "LValueMill$Names;") ∈ mz_TB := mz_in (i := 360) (by decide +kernel) (by decide +kernel)
theorem ml_254 : (Jvm.Cond.fieldLink "ValueMill$Homes" (44 : Nat) "ValueMill$Homes" "stands" "LValueMill$Stands;") ∈ mz_TB := mz_in (i := 361) (by decide +kernel) (by decide +kernel)
theorem ml_255 : (Jvm.Cond.fieldLink "ValueMill$Homes" (9 : Nat) "ValueMill$Homes" "home" "[I") ∈ mz_TB := mz_in (i := 362) (by decide +kernel) (by decide +kernel)
theorem ml_256 : (Jvm.Cond.fieldLinkNest "ValueMill$Writer" (148 : Nat) "ValueMill$Homes" "home" "[I" "ValueMill") ∈ mz_NW := mz_inN (i := 363) (by decide +kernel) (by decide +kernel)
theorem ml_257 : (Jvm.Cond.fieldLink "ValueMill$Homes" (15 : Nat) "ValueMill$Homes" "cost" "[J") ∈ mz_TB := mz_in (i := 364) (by decide +kernel) (by decide +kernel)
theorem ml_258 : (Jvm.Cond.fieldLink "ValueMill$Homes" (19 : Nat) "ValueMill$Homes" "current" "[I") ∈ mz_TB := mz_in (i := 365) (by decide +kernel) (by decide +kernel)
theorem ml_259 : (Jvm.Cond.fieldLink "ValueMill$Homes" (22 : Nat) "ValueMill$Homes" "holder" "[I") ∈ mz_TB := mz_in (i := 366) (by decide +kernel) (by decide +kernel)
theorem ml_260 : (Jvm.Cond.fieldLink "ValueMill$Homes" (25 : Nat) "ValueMill$Homes" "liveBehind" "[I") ∈ mz_TB := mz_in (i := 367) (by decide +kernel) (by decide +kernel)
theorem ml_261 : (Jvm.Cond.fieldLink "ValueMill$Homes" (48 : Nat) "ValueMill$Homes" "firstSlot" "I") ∈ mz_TB := mz_in (i := 368) (by decide +kernel) (by decide +kernel)
theorem ml_262 : (Jvm.Cond.fieldLink "ValueMill$Homes" (52 : Nat) "ValueMill$Homes" "scratch" "I") ∈ mz_TB := mz_in (i := 369) (by decide +kernel) (by decide +kernel)
theorem ml_263 : (Jvm.Cond.fieldLinkNest "ValueMill$Writer" (135 : Nat) "ValueMill$Homes" "scratch" "I" "ValueMill") ∈ mz_NW := mz_inN (i := 370) (by decide +kernel) (by decide +kernel)
theorem ml_264 : (Jvm.Cond.fieldLinkNest "ValueMill$Moves" (58 : Nat) "ValueMill$Homes" "scratch" "I" "ValueMill") ∈ mz_NW := mz_inN (i := 371) (by decide +kernel) (by decide +kernel)
theorem ml_265 : (Jvm.Cond.fieldLink "ValueMill$Homes" (142 : Nat) "ValueMill$Homes" "shared" "I") ∈ mz_TB := mz_in (i := 372) (by decide +kernel) (by decide +kernel)
theorem ml_266 : (Jvm.Cond.fieldLink "ValueMill$Homes" (62 : Nat) "ValueMill$Homes" "usesSlots" "Z") ∈ mz_TB := mz_in (i := 373) (by decide +kernel) (by decide +kernel)
theorem ml_303 : (Jvm.Cond.fieldLink "ValueMill$Code" (9 : Nat) "ValueMill$Code" "from" "[I") ∈ mz_TB := mz_in (i := 410) (by decide +kernel) (by decide +kernel)
theorem ml_304 : (Jvm.Cond.fieldLinkNest "ValueMill$Machine" (73 : Nat) "ValueMill$Code" "from" "[I" "ValueMill") ∈ mz_NW := mz_inN (i := 411) (by decide +kernel) (by decide +kernel)
theorem ml_305 : (Jvm.Cond.fieldLink "ValueMill$Code" (15 : Nat) "ValueMill$Code" "to" "[I") ∈ mz_TB := mz_in (i := 412) (by decide +kernel) (by decide +kernel)
theorem ml_306 : (Jvm.Cond.fieldLinkNest "ValueMill$Machine" (76 : Nat) "ValueMill$Code" "to" "[I" "ValueMill") ∈ mz_NW := mz_inN (i := 413) (by decide +kernel) (by decide +kernel)
theorem ml_307 : (Jvm.Cond.fieldLink "ValueMill$Code" (18 : Nat) "ValueMill$Code" "kind" "[I") ∈ mz_TB := mz_in (i := 414) (by decide +kernel) (by decide +kernel)
theorem ml_308 : (Jvm.Cond.fieldLinkNest "ValueMill$Machine" (82 : Nat) "ValueMill$Code" "kind" "[I" "ValueMill") ∈ mz_NW := mz_inN (i := 415) (by decide +kernel) (by decide +kernel)
theorem ml_309 : (Jvm.Cond.fieldLink "ValueMill$Code" (21 : Nat) "ValueMill$Code" "d" "[I") ∈ mz_TB := mz_in (i := 416) (by decide +kernel) (by decide +kernel)
theorem ml_310 : (Jvm.Cond.fieldLinkNest "ValueMill$Machine" (85 : Nat) "ValueMill$Code" "d" "[I" "ValueMill") ∈ mz_NW := mz_inN (i := 417) (by decide +kernel) (by decide +kernel)
theorem ml_311 : (Jvm.Cond.fieldLink "ValueMill$Code" (24 : Nat) "ValueMill$Code" "a" "[I") ∈ mz_TB := mz_in (i := 418) (by decide +kernel) (by decide +kernel)
theorem ml_312 : (Jvm.Cond.fieldLinkNest "ValueMill$Machine" (91 : Nat) "ValueMill$Code" "a" "[I" "ValueMill") ∈ mz_NW := mz_inN (i := 419) (by decide +kernel) (by decide +kernel)
theorem ml_313 : (Jvm.Cond.fieldLink "ValueMill$Code" (27 : Nat) "ValueMill$Code" "b" "[I") ∈ mz_TB := mz_in (i := 420) (by decide +kernel) (by decide +kernel)
theorem ml_314 : (Jvm.Cond.fieldLinkNest "ValueMill$Machine" (94 : Nat) "ValueMill$Code" "b" "[I" "ValueMill") ∈ mz_NW := mz_inN (i := 421) (by decide +kernel) (by decide +kernel)
theorem ml_315 : (Jvm.Cond.fieldLink "ValueMill$Code" (30 : Nat) "ValueMill$Code" "form" "[I") ∈ mz_TB := mz_in (i := 422) (by decide +kernel) (by decide +kernel)
theorem ml_316 : (Jvm.Cond.fieldLinkNest "ValueMill$Machine" (88 : Nat) "ValueMill$Code" "form" "[I" "ValueMill") ∈ mz_NW := mz_inN (i := 423) (by decide +kernel) (by decide +kernel)
theorem ml_317 : (Jvm.Cond.fieldLink "ValueMill$Code" (33 : Nat) "ValueMill$Code" "end" "[I") ∈ mz_TB := mz_in (i := 424) (by decide +kernel) (by decide +kernel)
theorem ml_318 : (Jvm.Cond.fieldLinkNest "ValueMill$Machine" (44 : Nat) "ValueMill$Code" "end" "[I" "ValueMill") ∈ mz_NW := mz_inN (i := 425) (by decide +kernel) (by decide +kernel)
theorem ml_319 : (Jvm.Cond.fieldLink "ValueMill$Code" (36 : Nat) "ValueMill$Code" "endIsNumber" "[Z") ∈ mz_TB := mz_in (i := 426) (by decide +kernel) (by decide +kernel)
theorem ml_320 : (Jvm.Cond.fieldLinkNest "ValueMill$Machine" (38 : Nat) "ValueMill$Code" "endIsNumber" "[Z" "ValueMill") ∈ mz_NW := mz_inN (i := 427) (by decide +kernel) (by decide +kernel)
theorem ml_321 : (Jvm.Cond.fieldLink "ValueMill$Code" (40 : Nat) "ValueMill$Code" "length" "I") ∈ mz_TB := mz_in (i := 428) (by decide +kernel) (by decide +kernel)
theorem ml_356 : (Jvm.Cond.fieldLink "ValueMill$Moves" (22 : Nat) "ValueMill$Moves" "homes" "LValueMill$Homes;") ∈ mz_TB := mz_in (i := 463) (by decide +kernel) (by decide +kernel)
theorem ml_357 : (Jvm.Cond.fieldLink "ValueMill$Moves" (26 : Nat) "ValueMill$Moves" "code" "LValueMill$Code;") ∈ mz_TB := mz_in (i := 464) (by decide +kernel) (by decide +kernel)
theorem ml_358 : (Jvm.Cond.fieldLink "ValueMill$Moves" (9 : Nat) "ValueMill$Moves" "target" "[I") ∈ mz_TB := mz_in (i := 465) (by decide +kernel) (by decide +kernel)
theorem ml_359 : (Jvm.Cond.fieldLink "ValueMill$Moves" (15 : Nat) "ValueMill$Moves" "source" "[I") ∈ mz_TB := mz_in (i := 466) (by decide +kernel) (by decide +kernel)
theorem ml_360 : (Jvm.Cond.fieldLink "ValueMill$Moves" (18 : Nat) "ValueMill$Moves" "isNumber" "[Z") ∈ mz_TB := mz_in (i := 467) (by decide +kernel) (by decide +kernel)
theorem ml_361 : (Jvm.Cond.fieldLink "ValueMill$Moves" (30 : Nat) "ValueMill$Moves" "count" "I") ∈ mz_TB := mz_in (i := 468) (by decide +kernel) (by decide +kernel)
theorem ml_375 : (Jvm.Cond.fieldLink "ValueMill$Writer" (9 : Nat) "ValueMill$Writer" "program" "LValueMill$Program;") ∈ mz_TB := mz_in (i := 482) (by decide +kernel) (by decide +kernel)
theorem ml_376 : (Jvm.Cond.fieldLink "ValueMill$Writer" (15 : Nat) "ValueMill$Writer" "flow" "LValueMill$Flow;") ∈ mz_TB := mz_in (i := 483) (by decide +kernel) (by decide +kernel)
theorem ml_377 : (Jvm.Cond.fieldLink "ValueMill$Writer" (19 : Nat) "ValueMill$Writer" "names" "LValueMill$Names;") ∈ mz_TB := mz_in (i := 484) (by decide +kernel) (by decide +kernel)
theorem ml_378 : (Jvm.Cond.fieldLink "ValueMill$Writer" (23 : Nat) "ValueMill$Writer" "stands" "LValueMill$Stands;") ∈ mz_TB := mz_in (i := 485) (by decide +kernel) (by decide +kernel)
theorem ml_379 : (Jvm.Cond.fieldLink "ValueMill$Writer" (27 : Nat) "ValueMill$Writer" "homes" "LValueMill$Homes;") ∈ mz_TB := mz_in (i := 486) (by decide +kernel) (by decide +kernel)
theorem ml_380 : (Jvm.Cond.fieldLink "ValueMill$Writer" (31 : Nat) "ValueMill$Writer" "code" "LValueMill$Code;") ∈ mz_TB := mz_in (i := 487) (by decide +kernel) (by decide +kernel)
theorem ml_381 : (Jvm.Cond.fieldLink "ValueMill$Writer" (40 : Nat) "ValueMill$Writer" "moves" "LValueMill$Moves;") ∈ mz_TB := mz_in (i := 488) (by decide +kernel) (by decide +kernel)
theorem ml_403 : (Jvm.Cond.fieldLink "ValueMill$Machine" (9 : Nat) "ValueMill$Machine" "cells" "[I") ∈ mz_TB := mz_in (i := 510) (by decide +kernel) (by decide +kernel)
theorem ml_404 : (Jvm.Cond.fieldLink "ValueMill$Machine" (15 : Nat) "ValueMill$Machine" "words" "[I") ∈ mz_TB := mz_in (i := 511) (by decide +kernel) (by decide +kernel)
theorem ml_405 : (Jvm.Cond.fieldLinkNest "ValueMill" (143 : Nat) "ValueMill$Machine" "words" "[I" "ValueMill") ∈ mz_NW := mz_inN (i := 512) (by decide +kernel) (by decide +kernel)
theorem ml_406 : (Jvm.Cond.fieldLink "ValueMill$Machine" (18 : Nat) "ValueMill$Machine" "log" "[I") ∈ mz_TB := mz_in (i := 513) (by decide +kernel) (by decide +kernel)
theorem ml_407 : (Jvm.Cond.fieldLink "ValueMill$Machine" (48 : Nat) "ValueMill$Machine" "returned" "I") ∈ mz_TB := mz_in (i := 514) (by decide +kernel) (by decide +kernel)
theorem ml_408 : (Jvm.Cond.fieldLinkNest "ValueMill" (137 : Nat) "ValueMill$Machine" "returned" "I" "ValueMill") ∈ mz_NW := mz_inN (i := 515) (by decide +kernel) (by decide +kernel)
theorem ml_409 : (Jvm.Cond.fieldLink "ValueMill$Machine" (30 : Nat) "ValueMill$Machine" "blocksEntered" "I") ∈ mz_TB := mz_in (i := 516) (by decide +kernel) (by decide +kernel)
theorem ml_410 : (Jvm.Cond.fieldLinkNest "ValueMill" (140 : Nat) "ValueMill$Machine" "blocksEntered" "I" "ValueMill") ∈ mz_NW := mz_inN (i := 517) (by decide +kernel) (by decide +kernel)
theorem ml_411 : (Jvm.Cond.fieldLink "ValueMill$Machine" (70 : Nat) "ValueMill$Machine" "callsMade" "I") ∈ mz_TB := mz_in (i := 518) (by decide +kernel) (by decide +kernel)
theorem ml_412 : (Jvm.Cond.fieldLinkNest "ValueMill" (146 : Nat) "ValueMill$Machine" "callsMade" "I" "ValueMill") ∈ mz_NW := mz_inN (i := 519) (by decide +kernel) (by decide +kernel)
theorem ml_426 : (Jvm.Cond.fieldLink "ValueMill" (12 : Nat) "ValueMill" "program" "LValueMill$Program;") ∈ mz_TB := mz_in (i := 533) (by decide +kernel) (by decide +kernel)
theorem ml_427 : (Jvm.Cond.fieldLink "ValueMill" (21 : Nat) "ValueMill" "flow" "LValueMill$Flow;") ∈ mz_TB := mz_in (i := 534) (by decide +kernel) (by decide +kernel)
theorem ml_428 : (Jvm.Cond.fieldLink "ValueMill" (30 : Nat) "ValueMill" "lives" "LValueMill$Lives;") ∈ mz_TB := mz_in (i := 535) (by decide +kernel) (by decide +kernel)
theorem ml_429 : (Jvm.Cond.fieldLink "ValueMill" (39 : Nat) "ValueMill" "names" "LValueMill$Names;") ∈ mz_TB := mz_in (i := 536) (by decide +kernel) (by decide +kernel)
theorem ml_430 : (Jvm.Cond.fieldLink "ValueMill" (48 : Nat) "ValueMill" "stands" "LValueMill$Stands;") ∈ mz_TB := mz_in (i := 537) (by decide +kernel) (by decide +kernel)
theorem ml_431 : (Jvm.Cond.fieldLink "ValueMill" (57 : Nat) "ValueMill" "homes" "LValueMill$Homes;") ∈ mz_TB := mz_in (i := 538) (by decide +kernel) (by decide +kernel)
theorem ml_432 : (Jvm.Cond.fieldLink "ValueMill" (64 : Nat) "ValueMill" "code" "LValueMill$Code;") ∈ mz_TB := mz_in (i := 539) (by decide +kernel) (by decide +kernel)
theorem ml_433 : (Jvm.Cond.fieldLink "ValueMill" (73 : Nat) "ValueMill" "writer" "LValueMill$Writer;") ∈ mz_TB := mz_in (i := 540) (by decide +kernel) (by decide +kernel)
theorem ml_434 : (Jvm.Cond.fieldLink "ValueMill" (80 : Nat) "ValueMill" "machine" "LValueMill$Machine;") ∈ mz_TB := mz_in (i := 541) (by decide +kernel) (by decide +kernel)
theorem ml_435 : (Jvm.Cond.fieldLink "ValueMill" (183 : Nat) "ValueMill" "looked" "Z") ∈ mz_TB := mz_in (i := 542) (by decide +kernel) (by decide +kernel)
theorem ml_436 : (Jvm.Cond.fieldLink "ValueMill" (84 : Nat) "ValueMill" "madeStage" "I") ∈ mz_TB := mz_in (i := 543) (by decide +kernel) (by decide +kernel)
theorem ml_437 : (Jvm.Cond.fieldLink "ValueMill" (88 : Nat) "ValueMill" "madeRegisters" "I") ∈ mz_TB := mz_in (i := 544) (by decide +kernel) (by decide +kernel)
theorem ml_467 : (Jvm.Cond.methodLink "ValueMill" (94 : Nat) ({ cls := "ValueMill", name := "forgetWhatWasMade", desc := "()V" } : Jvm.MethodName)) ∈ mz_TB := mz_in (i := 574) (by decide +kernel) (by decide +kernel)
theorem ml_475 : (Jvm.Cond.methodLinkNest "ValueMill" (97 : Nat) ({ cls := "ValueMill$Program", name := "hasBlock", desc := "(I)Z" } : Jvm.MethodName) "ValueMill") ∈ mz_NW := mz_inN (i := 582) (by decide +kernel) (by decide +kernel)
theorem ml_479 : (Jvm.Cond.methodLink "ValueMill" (105 : Nat) ({ cls := "ValueMill", name := "isSuch", desc := "(IIII)Z" } : Jvm.MethodName)) ∈ mz_TB := mz_in (i := 586) (by decide +kernel) (by decide +kernel)
theorem ml_482 : (Jvm.Cond.methodLink "ValueMill" (120 : Nat) ({ cls := "ValueMill", name := "isTemp", desc := "(I)Z" } : Jvm.MethodName)) ∈ mz_TB := mz_in (i := 589) (by decide +kernel) (by decide +kernel)
theorem ml_485 : (Jvm.Cond.methodLinkNest "ValueMill" (109 : Nat) ({ cls := "ValueMill$Program", name := "addOperation", desc := "(IIIII)V" } : Jvm.MethodName) "ValueMill") ∈ mz_NW := mz_inN (i := 592) (by decide +kernel) (by decide +kernel)
theorem ml_493 : (Jvm.Cond.methodLinkNest "ValueMill" (113 : Nat) ({ cls := "ValueMill$Program", name := "setEnd", desc := "(III)V" } : Jvm.MethodName) "ValueMill") ∈ mz_NW := mz_inN (i := 600) (by decide +kernel) (by decide +kernel)
theorem ml_497 : (Jvm.Cond.methodLinkNest "ValueMill" (117 : Nat) ({ cls := "ValueMill$Program", name := "setEdges", desc := "(III)V" } : Jvm.MethodName) "ValueMill") ∈ mz_NW := mz_inN (i := 604) (by decide +kernel) (by decide +kernel)
theorem ml_513 : (Jvm.Cond.methodLink "ValueMill" (123 : Nat) ({ cls := "ValueMill", name := "isWord", desc := "(I)Z" } : Jvm.MethodName)) ∈ mz_TB := mz_in (i := 620) (by decide +kernel) (by decide +kernel)
theorem ml_520 : (Jvm.Cond.methodLink "ValueMill" (129 : Nat) ({ cls := "ValueMill", name := "makeCode", desc := "(II)V" } : Jvm.MethodName)) ∈ mz_TB := mz_in (i := 627) (by decide +kernel) (by decide +kernel)
theorem ml_524 : (Jvm.Cond.methodLinkNest "ValueMill" (191 : Nat) ({ cls := "ValueMill$Writer", name := "writeAsItIs", desc := "()V" } : Jvm.MethodName) "ValueMill") ∈ mz_NW := mz_inN (i := 631) (by decide +kernel) (by decide +kernel)
theorem ml_528 : (Jvm.Cond.methodLinkNest "ValueMill$Writer" (44 : Nat) ({ cls := "ValueMill$Code", name := "clear", desc := "()V" } : Jvm.MethodName) "ValueMill") ∈ mz_NW := mz_inN (i := 635) (by decide +kernel) (by decide +kernel)
theorem ml_532 : (Jvm.Cond.methodLink "ValueMill$Code" (44 : Nat) ({ cls := "java/util/Arrays", name := "fill", desc := "([II)V" } : Jvm.MethodName)) ∈ mz_TB := mz_in (i := 639) (by decide +kernel) (by decide +kernel)
theorem ml_535 : (Jvm.Cond.methodLinkNest "ValueMill$Writer" (55 : Nat) ({ cls := "ValueMill$Code", name := "begin", desc := "(I)V" } : Jvm.MethodName) "ValueMill") ∈ mz_NW := mz_inN (i := 642) (by decide +kernel) (by decide +kernel)
theorem ml_539 : (Jvm.Cond.methodLink "ValueMill$Writer" (75 : Nat) ({ cls := "ValueMill$Writer", name := "plainForm", desc := "(I)I" } : Jvm.MethodName)) ∈ mz_TB := mz_in (i := 646) (by decide +kernel) (by decide +kernel)
theorem ml_543 : (Jvm.Cond.methodLinkNest "ValueMill$Writer" (93 : Nat) ({ cls := "ValueMill$Program", name := "takesA", desc := "(I)Z" } : Jvm.MethodName) "ValueMill") ∈ mz_NW := mz_inN (i := 650) (by decide +kernel) (by decide +kernel)
theorem ml_547 : (Jvm.Cond.methodLinkNest "ValueMill$Writer" (97 : Nat) ({ cls := "ValueMill$Program", name := "takesB", desc := "(I)Z" } : Jvm.MethodName) "ValueMill") ∈ mz_NW := mz_inN (i := 654) (by decide +kernel) (by decide +kernel)
theorem ml_551 : (Jvm.Cond.methodLinkNest "ValueMill$Writer" (79 : Nat) ({ cls := "ValueMill$Code", name := "add", desc := "(IIIII)V" } : Jvm.MethodName) "ValueMill") ∈ mz_NW := mz_inN (i := 658) (by decide +kernel) (by decide +kernel)
theorem ml_555 : (Jvm.Cond.methodLinkNest "ValueMill$Writer" (83 : Nat) ({ cls := "ValueMill$Code", name := "finish", desc := "(I)V" } : Jvm.MethodName) "ValueMill") ∈ mz_NW := mz_inN (i := 662) (by decide +kernel) (by decide +kernel)
theorem ml_559 : (Jvm.Cond.methodLinkNest "ValueMill$Writer" (89 : Nat) ({ cls := "ValueMill$Code", name := "setEnd", desc := "(IIZ)V" } : Jvm.MethodName) "ValueMill") ∈ mz_NW := mz_inN (i := 666) (by decide +kernel) (by decide +kernel)
theorem ml_563 : (Jvm.Cond.methodLink "ValueMill" (152 : Nat) ({ cls := "ValueMill", name := "look", desc := "()V" } : Jvm.MethodName)) ∈ mz_TB := mz_in (i := 670) (by decide +kernel) (by decide +kernel)
theorem ml_567 : (Jvm.Cond.methodLinkNest "ValueMill" (187 : Nat) ({ cls := "ValueMill$Flow", name := "lookAt", desc := "()V" } : Jvm.MethodName) "ValueMill") ∈ mz_NW := mz_inN (i := 674) (by decide +kernel) (by decide +kernel)
theorem ml_571 : (Jvm.Cond.methodLink "ValueMill$Flow" (37 : Nat) ({ cls := "ValueMill$Flow", name := "findEdges", desc := "()V" } : Jvm.MethodName)) ∈ mz_TB := mz_in (i := 678) (by decide +kernel) (by decide +kernel)
theorem ml_575 : (Jvm.Cond.methodLinkNest "ValueMill$Flow" (79 : Nat) ({ cls := "ValueMill$Program", name := "edges", desc := "(I)I" } : Jvm.MethodName) "ValueMill") ∈ mz_NW := mz_inN (i := 682) (by decide +kernel) (by decide +kernel)
theorem ml_579 : (Jvm.Cond.methodLinkNest "ValueMill$Flow" (83 : Nat) ({ cls := "ValueMill$Program", name := "target", desc := "(II)I" } : Jvm.MethodName) "ValueMill") ∈ mz_NW := mz_inN (i := 686) (by decide +kernel) (by decide +kernel)
theorem ml_583 : (Jvm.Cond.methodLink "ValueMill$Flow" (87 : Nat) ({ cls := "ValueMill$Flow", name := "reachedFrom", desc := "(II)I" } : Jvm.MethodName)) ∈ mz_TB := mz_in (i := 690) (by decide +kernel) (by decide +kernel)
theorem ml_587 : (Jvm.Cond.methodLinkNest "ValueMill$Flow" (75 : Nat) ({ cls := "ValueMill", name := "isIn", desc := "(II)Z" } : Jvm.MethodName) "ValueMill") ∈ mz_NW := mz_inN (i := 694) (by decide +kernel) (by decide +kernel)
theorem ml_590 : (Jvm.Cond.methodLink "ValueMill$Flow" (59 : Nat) ({ cls := "java/util/Arrays", name := "fill", desc := "([II)V" } : Jvm.MethodName)) ∈ mz_TB := mz_in (i := 697) (by decide +kernel) (by decide +kernel)
theorem ml_591 : (Jvm.Cond.methodLink "ValueMill$Flow" (40 : Nat) ({ cls := "ValueMill$Flow", name := "findOrder", desc := "()V" } : Jvm.MethodName)) ∈ mz_TB := mz_in (i := 698) (by decide +kernel) (by decide +kernel)
theorem ml_595 : (Jvm.Cond.methodLink "ValueMill$Flow" (96 : Nat) ({ cls := "ValueMill$Flow", name := "goThrough", desc := "(II)V" } : Jvm.MethodName)) ∈ mz_TB := mz_in (i := 702) (by decide +kernel) (by decide +kernel)
theorem ml_599 : (Jvm.Cond.methodLink "ValueMill$Flow" (43 : Nat) ({ cls := "ValueMill$Flow", name := "findDominators", desc := "()V" } : Jvm.MethodName)) ∈ mz_TB := mz_in (i := 706) (by decide +kernel) (by decide +kernel)
theorem ml_603 : (Jvm.Cond.methodLink "ValueMill$Flow" (52 : Nat) ({ cls := "ValueMill$Flow", name := "findNearest", desc := "(I)V" } : Jvm.MethodName)) ∈ mz_TB := mz_in (i := 710) (by decide +kernel) (by decide +kernel)
theorem ml_607 : (Jvm.Cond.methodLink "ValueMill$Flow" (56 : Nat) ({ cls := "ValueMill$Flow", name := "findFrontier", desc := "(I)V" } : Jvm.MethodName)) ∈ mz_TB := mz_in (i := 714) (by decide +kernel) (by decide +kernel)
theorem ml_611 : (Jvm.Cond.methodLink "ValueMill$Flow" (100 : Nat) ({ cls := "ValueMill$Flow", name := "dominates", desc := "(II)Z" } : Jvm.MethodName)) ∈ mz_TB := mz_in (i := 718) (by decide +kernel) (by decide +kernel)
theorem ml_615 : (Jvm.Cond.methodLink "ValueMill$Flow" (65 : Nat) ({ cls := "ValueMill$Flow", name := "countLoop", desc := "(I)V" } : Jvm.MethodName)) ∈ mz_TB := mz_in (i := 722) (by decide +kernel) (by decide +kernel)
theorem ml_619 : (Jvm.Cond.methodLinkNest "ValueMill" (190 : Nat) ({ cls := "ValueMill$Lives", name := "lookAt", desc := "()V" } : Jvm.MethodName) "ValueMill") ∈ mz_NW := mz_inN (i := 726) (by decide +kernel) (by decide +kernel)
theorem ml_623 : (Jvm.Cond.methodLink "ValueMill$Lives" (38 : Nat) ({ cls := "ValueMill$Lives", name := "findReadsAndWrites", desc := "(I)V" } : Jvm.MethodName)) ∈ mz_TB := mz_in (i := 730) (by decide +kernel) (by decide +kernel)
theorem ml_627 : (Jvm.Cond.methodLinkNest "ValueMill$Lives" (52 : Nat) ({ cls := "ValueMill$Program", name := "usedSet", desc := "(I)I" } : Jvm.MethodName) "ValueMill") ∈ mz_NW := mz_inN (i := 734) (by decide +kernel) (by decide +kernel)
theorem ml_631 : (Jvm.Cond.methodLink "ValueMill$Program" (46 : Nat) ({ cls := "ValueMill$Program", name := "takesA", desc := "(I)Z" } : Jvm.MethodName)) ∈ mz_TB := mz_in (i := 738) (by decide +kernel) (by decide +kernel)
theorem ml_632 : (Jvm.Cond.methodLink "ValueMill$Program" (50 : Nat) ({ cls := "ValueMill$Program", name := "takesB", desc := "(I)Z" } : Jvm.MethodName)) ∈ mz_TB := mz_in (i := 739) (by decide +kernel) (by decide +kernel)
theorem ml_633 : (Jvm.Cond.methodLinkNest "ValueMill$Lives" (55 : Nat) ({ cls := "ValueMill$Program", name := "madeSet", desc := "(I)I" } : Jvm.MethodName) "ValueMill") ∈ mz_NW := mz_inN (i := 740) (by decide +kernel) (by decide +kernel)
theorem ml_637 : (Jvm.Cond.methodLink "ValueMill$Program" (53 : Nat) ({ cls := "ValueMill$Program", name := "makesValue", desc := "(I)Z" } : Jvm.MethodName)) ∈ mz_TB := mz_in (i := 744) (by decide +kernel) (by decide +kernel)
theorem ml_641 : (Jvm.Cond.methodLinkNest "ValueMill$Lives" (58 : Nat) ({ cls := "ValueMill$Program", name := "usedAtEndSet", desc := "(I)I" } : Jvm.MethodName) "ValueMill") ∈ mz_NW := mz_inN (i := 748) (by decide +kernel) (by decide +kernel)
theorem ml_645 : (Jvm.Cond.methodLink "ValueMill$Program" (56 : Nat) ({ cls := "ValueMill$Program", name := "endTakesTemp", desc := "(I)Z" } : Jvm.MethodName)) ∈ mz_TB := mz_in (i := 752) (by decide +kernel) (by decide +kernel)
theorem ml_649 : (Jvm.Cond.methodLink "ValueMill$Lives" (42 : Nat) ({ cls := "ValueMill$Lives", name := "liveBehind", desc := "(I)I" } : Jvm.MethodName)) ∈ mz_TB := mz_in (i := 756) (by decide +kernel) (by decide +kernel)
theorem ml_653 : (Jvm.Cond.methodLinkNest "ValueMill$Lives" (61 : Nat) ({ cls := "ValueMill$Program", name := "edges", desc := "(I)I" } : Jvm.MethodName) "ValueMill") ∈ mz_NW := mz_inN (i := 760) (by decide +kernel) (by decide +kernel)
theorem ml_654 : (Jvm.Cond.methodLinkNest "ValueMill$Lives" (64 : Nat) ({ cls := "ValueMill$Program", name := "target", desc := "(II)I" } : Jvm.MethodName) "ValueMill") ∈ mz_NW := mz_inN (i := 761) (by decide +kernel) (by decide +kernel)
theorem ml_655 : (Jvm.Cond.methodLink "ValueMill$Lives" (46 : Nat) ({ cls := "ValueMill$Lives", name := "placePhis", desc := "(I)V" } : Jvm.MethodName)) ∈ mz_TB := mz_in (i := 762) (by decide +kernel) (by decide +kernel)
theorem ml_659 : (Jvm.Cond.methodLinkNest "ValueMill$Lives" (73 : Nat) ({ cls := "ValueMill", name := "isIn", desc := "(II)Z" } : Jvm.MethodName) "ValueMill") ∈ mz_NW := mz_inN (i := 766) (by decide +kernel) (by decide +kernel)
theorem ml_660 : (Jvm.Cond.methodLink "ValueMill$Lives" (77 : Nat) ({ cls := "ValueMill$Lives", name := "frontiersOf", desc := "(I)I" } : Jvm.MethodName)) ∈ mz_TB := mz_in (i := 767) (by decide +kernel) (by decide +kernel)
theorem ml_664 : (Jvm.Cond.methodLinkNest "ValueMill" (194 : Nat) ({ cls := "ValueMill$Names", name := "giveNames", desc := "()V" } : Jvm.MethodName) "ValueMill") ∈ mz_NW := mz_inN (i := 771) (by decide +kernel) (by decide +kernel)
theorem ml_668 : (Jvm.Cond.methodLink "ValueMill$Names" (45 : Nat) ({ cls := "ValueMill$Names", name := "nameBefore", desc := "(II)I" } : Jvm.MethodName)) ∈ mz_TB := mz_in (i := 775) (by decide +kernel) (by decide +kernel)
theorem ml_672 : (Jvm.Cond.methodLinkNest "ValueMill$Names" (63 : Nat) ({ cls := "ValueMill", name := "isIn", desc := "(II)Z" } : Jvm.MethodName) "ValueMill") ∈ mz_NW := mz_inN (i := 779) (by decide +kernel) (by decide +kernel)
theorem ml_673 : (Jvm.Cond.methodLinkNest "ValueMill$Names" (67 : Nat) ({ cls := "ValueMill", name := "phiName", desc := "(II)I" } : Jvm.MethodName) "ValueMill") ∈ mz_NW := mz_inN (i := 780) (by decide +kernel) (by decide +kernel)
theorem ml_676 : (Jvm.Cond.methodLink "ValueMill$Names" (49 : Nat) ({ cls := "ValueMill$Names", name := "nameOperations", desc := "(I)V" } : Jvm.MethodName)) ∈ mz_TB := mz_in (i := 783) (by decide +kernel) (by decide +kernel)
theorem ml_680 : (Jvm.Cond.methodLinkNest "ValueMill$Names" (76 : Nat) ({ cls := "ValueMill$Program", name := "takesA", desc := "(I)Z" } : Jvm.MethodName) "ValueMill") ∈ mz_NW := mz_inN (i := 787) (by decide +kernel) (by decide +kernel)
theorem ml_681 : (Jvm.Cond.methodLinkNest "ValueMill$Names" (81 : Nat) ({ cls := "ValueMill$Program", name := "takesB", desc := "(I)Z" } : Jvm.MethodName) "ValueMill") ∈ mz_NW := mz_inN (i := 788) (by decide +kernel) (by decide +kernel)
theorem ml_682 : (Jvm.Cond.methodLinkNest "ValueMill$Names" (85 : Nat) ({ cls := "ValueMill$Program", name := "makesValue", desc := "(I)Z" } : Jvm.MethodName) "ValueMill") ∈ mz_NW := mz_inN (i := 789) (by decide +kernel) (by decide +kernel)
theorem ml_683 : (Jvm.Cond.methodLinkNest "ValueMill$Names" (91 : Nat) ({ cls := "ValueMill", name := "madeName", desc := "(I)I" } : Jvm.MethodName) "ValueMill") ∈ mz_NW := mz_inN (i := 790) (by decide +kernel) (by decide +kernel)
theorem ml_686 : (Jvm.Cond.methodLinkNest "ValueMill" (197 : Nat) ({ cls := "ValueMill$Stands", name := "letAllBe", desc := "()V" } : Jvm.MethodName) "ValueMill") ∈ mz_NW := mz_inN (i := 793) (by decide +kernel) (by decide +kernel)
theorem ml_690 : (Jvm.Cond.methodLink "ValueMill$Stands" (63 : Nat) ({ cls := "ValueMill$Stands", name := "letBe", desc := "(I)V" } : Jvm.MethodName)) ∈ mz_TB := mz_in (i := 797) (by decide +kernel) (by decide +kernel)
theorem ml_694 : (Jvm.Cond.methodLinkNest "ValueMill" (200 : Nat) ({ cls := "ValueMill$Stands", name := "settle", desc := "()V" } : Jvm.MethodName) "ValueMill") ∈ mz_NW := mz_inN (i := 801) (by decide +kernel) (by decide +kernel)
theorem ml_698 : (Jvm.Cond.methodLink "ValueMill$Stands" (67 : Nat) ({ cls := "java/util/Arrays", name := "fill", desc := "([II)V" } : Jvm.MethodName)) ∈ mz_TB := mz_in (i := 805) (by decide +kernel) (by decide +kernel)
theorem ml_699 : (Jvm.Cond.methodLink "ValueMill$Stands" (73 : Nat) ({ cls := "ValueMill$Stands", name := "guess", desc := "()V" } : Jvm.MethodName)) ∈ mz_TB := mz_in (i := 806) (by decide +kernel) (by decide +kernel)
theorem ml_703 : (Jvm.Cond.methodLink "ValueMill$Stands" (80 : Nat) ({ cls := "ValueMill$Stands", name := "letBeNumber", desc := "(II)V" } : Jvm.MethodName)) ∈ mz_TB := mz_in (i := 810) (by decide +kernel) (by decide +kernel)
theorem ml_707 : (Jvm.Cond.methodLinkNest "ValueMill$Stands" (42 : Nat) ({ cls := "ValueMill", name := "isIn", desc := "(II)Z" } : Jvm.MethodName) "ValueMill") ∈ mz_NW := mz_inN (i := 814) (by decide +kernel) (by decide +kernel)
theorem ml_708 : (Jvm.Cond.methodLink "ValueMill$Stands" (93 : Nat) ({ cls := "ValueMill$Stands", name := "guessPhi", desc := "(II)V" } : Jvm.MethodName)) ∈ mz_TB := mz_in (i := 815) (by decide +kernel) (by decide +kernel)
theorem ml_712 : (Jvm.Cond.methodLink "ValueMill$Stands" (106 : Nat) ({ cls := "ValueMill$Stands", name := "firstKnown", desc := "(II)I" } : Jvm.MethodName)) ∈ mz_TB := mz_in (i := 819) (by decide +kernel) (by decide +kernel)
theorem ml_716 : (Jvm.Cond.methodLinkNest "ValueMill$Stands" (118 : Nat) ({ cls := "ValueMill$Names", name := "along", desc := "(II)I" } : Jvm.MethodName) "ValueMill") ∈ mz_NW := mz_inN (i := 823) (by decide +kernel) (by decide +kernel)
theorem ml_720 : (Jvm.Cond.methodLink "ValueMill$Stands" (102 : Nat) ({ cls := "ValueMill$Stands", name := "takesOtherThan", desc := "(III)Z" } : Jvm.MethodName)) ∈ mz_TB := mz_in (i := 827) (by decide +kernel) (by decide +kernel)
theorem ml_724 : (Jvm.Cond.methodLink "ValueMill$Stands" (123 : Nat) ({ cls := "ValueMill$Stands", name := "differ", desc := "(II)Z" } : Jvm.MethodName)) ∈ mz_TB := mz_in (i := 831) (by decide +kernel) (by decide +kernel)
theorem ml_728 : (Jvm.Cond.methodLinkNest "ValueMill$Stands" (46 : Nat) ({ cls := "ValueMill", name := "phiName", desc := "(II)I" } : Jvm.MethodName) "ValueMill") ∈ mz_NW := mz_inN (i := 835) (by decide +kernel) (by decide +kernel)
theorem ml_729 : (Jvm.Cond.methodLink "ValueMill$Stands" (109 : Nat) ({ cls := "ValueMill$Stands", name := "standLike", desc := "(II)V" } : Jvm.MethodName)) ∈ mz_TB := mz_in (i := 836) (by decide +kernel) (by decide +kernel)
theorem ml_733 : (Jvm.Cond.methodLink "ValueMill$Stands" (99 : Nat) ({ cls := "ValueMill$Stands", name := "guessOperation", desc := "(I)V" } : Jvm.MethodName)) ∈ mz_TB := mz_in (i := 840) (by decide +kernel) (by decide +kernel)
theorem ml_737 : (Jvm.Cond.methodLinkNest "ValueMill$Stands" (59 : Nat) ({ cls := "ValueMill", name := "madeName", desc := "(I)I" } : Jvm.MethodName) "ValueMill") ∈ mz_NW := mz_inN (i := 844) (by decide +kernel) (by decide +kernel)
theorem ml_738 : (Jvm.Cond.methodLink "ValueMill$Stands" (133 : Nat) ({ cls := "ValueMill$Stands", name := "givesNumber", desc := "(I)Z" } : Jvm.MethodName)) ∈ mz_TB := mz_in (i := 845) (by decide +kernel) (by decide +kernel)
theorem ml_742 : (Jvm.Cond.methodLink "ValueMill$Stands" (143 : Nat) ({ cls := "ValueMill$Stands", name := "isNumber", desc := "(I)Z" } : Jvm.MethodName)) ∈ mz_TB := mz_in (i := 849) (by decide +kernel) (by decide +kernel)
theorem ml_746 : (Jvm.Cond.methodLinkNest "ValueMill$Stands" (146 : Nat) ({ cls := "ValueMill", name := "failsToDivide", desc := "(III)Z" } : Jvm.MethodName) "ValueMill") ∈ mz_NW := mz_inN (i := 853) (by decide +kernel) (by decide +kernel)
theorem ml_749 : (Jvm.Cond.constant "ValueMill" (215 : Nat) (-2147483648 : Int32)) ∈ mz_TB := mz_in (i := 856) (by decide +kernel) (by decide +kernel)
theorem ml_750 : (Jvm.Cond.methodLinkNest "ValueMill$Stands" (139 : Nat) ({ cls := "ValueMill", name := "reckon", desc := "(III)I" } : Jvm.MethodName) "ValueMill") ∈ mz_NW := mz_inN (i := 857) (by decide +kernel) (by decide +kernel)
theorem ml_753 : (Jvm.Cond.methodLinkNest "ValueMill$Stands" (54 : Nat) ({ cls := "ValueMill$Program", name := "makesValue", desc := "(I)Z" } : Jvm.MethodName) "ValueMill") ∈ mz_NW := mz_inN (i := 860) (by decide +kernel) (by decide +kernel)
theorem ml_754 : (Jvm.Cond.methodLink "ValueMill$Stands" (76 : Nat) ({ cls := "ValueMill$Stands", name := "findWrongGuesses", desc := "()Z" } : Jvm.MethodName)) ∈ mz_TB := mz_in (i := 861) (by decide +kernel) (by decide +kernel)
theorem ml_758 : (Jvm.Cond.methodLinkNest "ValueMill" (203 : Nat) ({ cls := "ValueMill$Homes", name := "shareRegisters", desc := "(I)V" } : Jvm.MethodName) "ValueMill") ∈ mz_NW := mz_inN (i := 865) (by decide +kernel) (by decide +kernel)
theorem ml_762 : (Jvm.Cond.methodLink "ValueMill$Homes" (55 : Nat) ({ cls := "ValueMill$Homes", name := "findCosts", desc := "()V" } : Jvm.MethodName)) ∈ mz_TB := mz_in (i := 869) (by decide +kernel) (by decide +kernel)
theorem ml_766 : (Jvm.Cond.methodLink "ValueMill$Homes" (66 : Nat) ({ cls := "java/util/Arrays", name := "fill", desc := "([JJ)V" } : Jvm.MethodName)) ∈ mz_TB := mz_in (i := 873) (by decide +kernel) (by decide +kernel)
theorem ml_769 : (Jvm.Cond.methodLinkNest "ValueMill$Homes" (88 : Nat) ({ cls := "ValueMill$Stands", name := "keepsOperation", desc := "(I)Z" } : Jvm.MethodName) "ValueMill") ∈ mz_NW := mz_inN (i := 876) (by decide +kernel) (by decide +kernel)
theorem ml_773 : (Jvm.Cond.methodLink "ValueMill$Stands" (50 : Nat) ({ cls := "ValueMill$Stands", name := "isItself", desc := "(I)Z" } : Jvm.MethodName)) ∈ mz_TB := mz_in (i := 880) (by decide +kernel) (by decide +kernel)
theorem ml_777 : (Jvm.Cond.methodLinkNest "ValueMill$Homes" (94 : Nat) ({ cls := "ValueMill", name := "madeName", desc := "(I)I" } : Jvm.MethodName) "ValueMill") ∈ mz_NW := mz_inN (i := 884) (by decide +kernel) (by decide +kernel)
theorem ml_778 : (Jvm.Cond.methodLink "ValueMill$Homes" (103 : Nat) ({ cls := "ValueMill$Homes", name := "addCost", desc := "(IJ)V" } : Jvm.MethodName)) ∈ mz_TB := mz_in (i := 885) (by decide +kernel) (by decide +kernel)
theorem ml_782 : (Jvm.Cond.methodLinkNest "ValueMill$Homes" (136 : Nat) ({ cls := "ValueMill$Stands", name := "isNumber", desc := "(I)Z" } : Jvm.MethodName) "ValueMill") ∈ mz_NW := mz_inN (i := 889) (by decide +kernel) (by decide +kernel)
theorem ml_783 : (Jvm.Cond.methodLinkNest "ValueMill$Homes" (110 : Nat) ({ cls := "ValueMill$Program", name := "endTakesTemp", desc := "(I)Z" } : Jvm.MethodName) "ValueMill") ∈ mz_NW := mz_inN (i := 890) (by decide +kernel) (by decide +kernel)
theorem ml_784 : (Jvm.Cond.methodLink "ValueMill$Homes" (116 : Nat) ({ cls := "ValueMill$Homes", name := "addCostsOfEdges", desc := "(IJ)V" } : Jvm.MethodName)) ∈ mz_TB := mz_in (i := 891) (by decide +kernel) (by decide +kernel)
theorem ml_788 : (Jvm.Cond.methodLinkNest "ValueMill$Homes" (119 : Nat) ({ cls := "ValueMill$Program", name := "edges", desc := "(I)I" } : Jvm.MethodName) "ValueMill") ∈ mz_NW := mz_inN (i := 895) (by decide +kernel) (by decide +kernel)
theorem ml_789 : (Jvm.Cond.methodLinkNest "ValueMill$Homes" (122 : Nat) ({ cls := "ValueMill$Program", name := "target", desc := "(II)I" } : Jvm.MethodName) "ValueMill") ∈ mz_NW := mz_inN (i := 896) (by decide +kernel) (by decide +kernel)
theorem ml_790 : (Jvm.Cond.methodLinkNest "ValueMill$Homes" (126 : Nat) ({ cls := "ValueMill$Stands", name := "keepsPhi", desc := "(II)Z" } : Jvm.MethodName) "ValueMill") ∈ mz_NW := mz_inN (i := 897) (by decide +kernel) (by decide +kernel)
theorem ml_794 : (Jvm.Cond.methodLinkNest "ValueMill$Homes" (130 : Nat) ({ cls := "ValueMill", name := "phiName", desc := "(II)I" } : Jvm.MethodName) "ValueMill") ∈ mz_NW := mz_inN (i := 901) (by decide +kernel) (by decide +kernel)
theorem ml_795 : (Jvm.Cond.methodLinkNest "ValueMill$Homes" (133 : Nat) ({ cls := "ValueMill$Names", name := "along", desc := "(II)I" } : Jvm.MethodName) "ValueMill") ∈ mz_NW := mz_inN (i := 902) (by decide +kernel) (by decide +kernel)
theorem ml_796 : (Jvm.Cond.methodLink "ValueMill$Homes" (58 : Nat) ({ cls := "ValueMill$Homes", name := "giveHomes", desc := "(I)V" } : Jvm.MethodName)) ∈ mz_TB := mz_in (i := 903) (by decide +kernel) (by decide +kernel)
theorem ml_800 : (Jvm.Cond.methodLink "ValueMill$Homes" (145 : Nat) ({ cls := "java/util/Arrays", name := "fill", desc := "([II)V" } : Jvm.MethodName)) ∈ mz_TB := mz_in (i := 907) (by decide +kernel) (by decide +kernel)
theorem ml_801 : (Jvm.Cond.methodLink "ValueMill$Homes" (148 : Nat) ({ cls := "ValueMill$Homes", name := "giveHomesToPhis", desc := "(I)V" } : Jvm.MethodName)) ∈ mz_TB := mz_in (i := 908) (by decide +kernel) (by decide +kernel)
theorem ml_805 : (Jvm.Cond.methodLinkNest "ValueMill$Homes" (158 : Nat) ({ cls := "ValueMill$Names", name := "nameBefore", desc := "(II)I" } : Jvm.MethodName) "ValueMill") ∈ mz_NW := mz_inN (i := 912) (by decide +kernel) (by decide +kernel)
theorem ml_806 : (Jvm.Cond.methodLinkNest "ValueMill$Homes" (161 : Nat) ({ cls := "ValueMill$Stands", name := "nameFor", desc := "(I)I" } : Jvm.MethodName) "ValueMill") ∈ mz_NW := mz_inN (i := 913) (by decide +kernel) (by decide +kernel)
theorem ml_810 : (Jvm.Cond.methodLink "ValueMill$Homes" (169 : Nat) ({ cls := "ValueMill$Homes", name := "giveHome", desc := "(II)V" } : Jvm.MethodName)) ∈ mz_TB := mz_in (i := 917) (by decide +kernel) (by decide +kernel)
theorem ml_814 : (Jvm.Cond.methodLink "ValueMill$Homes" (189 : Nat) ({ cls := "ValueMill$Homes", name := "findHolders", desc := "(I)V" } : Jvm.MethodName)) ∈ mz_TB := mz_in (i := 921) (by decide +kernel) (by decide +kernel)
theorem ml_818 : (Jvm.Cond.methodLinkNest "ValueMill$Homes" (198 : Nat) ({ cls := "ValueMill", name := "isIn", desc := "(II)Z" } : Jvm.MethodName) "ValueMill") ∈ mz_NW := mz_inN (i := 925) (by decide +kernel) (by decide +kernel)
theorem ml_819 : (Jvm.Cond.methodLink "ValueMill$Homes" (192 : Nat) ({ cls := "ValueMill$Homes", name := "registerFor", desc := "(I)I" } : Jvm.MethodName)) ∈ mz_TB := mz_in (i := 926) (by decide +kernel) (by decide +kernel)
theorem ml_823 : (Jvm.Cond.methodLink "ValueMill$Homes" (195 : Nat) ({ cls := "ValueMill$Homes", name := "putInSlot", desc := "(I)V" } : Jvm.MethodName)) ∈ mz_TB := mz_in (i := 930) (by decide +kernel) (by decide +kernel)
theorem ml_827 : (Jvm.Cond.methodLink "ValueMill$Homes" (151 : Nat) ({ cls := "ValueMill$Homes", name := "findLiveBehind", desc := "(I)V" } : Jvm.MethodName)) ∈ mz_TB := mz_in (i := 934) (by decide +kernel) (by decide +kernel)
theorem ml_831 : (Jvm.Cond.methodLinkNest "ValueMill$Homes" (172 : Nat) ({ cls := "ValueMill$Lives", name := "liveBehind", desc := "(I)I" } : Jvm.MethodName) "ValueMill") ∈ mz_NW := mz_inN (i := 938) (by decide +kernel) (by decide +kernel)
theorem ml_832 : (Jvm.Cond.methodLinkNest "ValueMill$Homes" (174 : Nat) ({ cls := "ValueMill$Program", name := "usedAtEndSet", desc := "(I)I" } : Jvm.MethodName) "ValueMill") ∈ mz_NW := mz_inN (i := 939) (by decide +kernel) (by decide +kernel)
theorem ml_833 : (Jvm.Cond.methodLinkNest "ValueMill$Homes" (177 : Nat) ({ cls := "ValueMill$Program", name := "madeSet", desc := "(I)I" } : Jvm.MethodName) "ValueMill") ∈ mz_NW := mz_inN (i := 940) (by decide +kernel) (by decide +kernel)
theorem ml_834 : (Jvm.Cond.methodLinkNest "ValueMill$Homes" (180 : Nat) ({ cls := "ValueMill$Program", name := "usedSet", desc := "(I)I" } : Jvm.MethodName) "ValueMill") ∈ mz_NW := mz_inN (i := 941) (by decide +kernel) (by decide +kernel)
theorem ml_835 : (Jvm.Cond.methodLink "ValueMill$Homes" (154 : Nat) ({ cls := "ValueMill$Homes", name := "giveHomeToMade", desc := "(II)V" } : Jvm.MethodName)) ∈ mz_TB := mz_in (i := 942) (by decide +kernel) (by decide +kernel)
theorem ml_839 : (Jvm.Cond.methodLinkNest "ValueMill$Homes" (183 : Nat) ({ cls := "ValueMill$Program", name := "makesValue", desc := "(I)Z" } : Jvm.MethodName) "ValueMill") ∈ mz_NW := mz_inN (i := 946) (by decide +kernel) (by decide +kernel)
theorem ml_840 : (Jvm.Cond.methodLinkNest "ValueMill" (207 : Nat) ({ cls := "ValueMill$Homes", name := "giveEachItsOwn", desc := "()V" } : Jvm.MethodName) "ValueMill") ∈ mz_NW := mz_inN (i := 947) (by decide +kernel) (by decide +kernel)
theorem ml_844 : (Jvm.Cond.methodLinkNest "ValueMill" (210 : Nat) ({ cls := "ValueMill$Writer", name := "writeNamed", desc := "()V" } : Jvm.MethodName) "ValueMill") ∈ mz_NW := mz_inN (i := 951) (by decide +kernel) (by decide +kernel)
theorem ml_848 : (Jvm.Cond.methodLink "ValueMill$Writer" (108 : Nat) ({ cls := "ValueMill$Writer", name := "writeBlock", desc := "(I)V" } : Jvm.MethodName)) ∈ mz_TB := mz_in (i := 955) (by decide +kernel) (by decide +kernel)
theorem ml_852 : (Jvm.Cond.methodLinkNest "ValueMill$Writer" (118 : Nat) ({ cls := "ValueMill$Stands", name := "keepsOperation", desc := "(I)Z" } : Jvm.MethodName) "ValueMill") ∈ mz_NW := mz_inN (i := 959) (by decide +kernel) (by decide +kernel)
theorem ml_853 : (Jvm.Cond.methodLink "ValueMill$Writer" (123 : Nat) ({ cls := "ValueMill$Writer", name := "writeOperation", desc := "(I)V" } : Jvm.MethodName)) ∈ mz_TB := mz_in (i := 960) (by decide +kernel) (by decide +kernel)
theorem ml_857 : (Jvm.Cond.methodLinkNest "ValueMill$Writer" (132 : Nat) ({ cls := "ValueMill$Stands", name := "isNumber", desc := "(I)Z" } : Jvm.MethodName) "ValueMill") ∈ mz_NW := mz_inN (i := 964) (by decide +kernel) (by decide +kernel)
theorem ml_858 : (Jvm.Cond.methodLink "ValueMill$Writer" (140 : Nat) ({ cls := "ValueMill$Writer", name := "bring", desc := "(II)I" } : Jvm.MethodName)) ∈ mz_TB := mz_in (i := 965) (by decide +kernel) (by decide +kernel)
theorem ml_862 : (Jvm.Cond.methodLinkNest "ValueMill$Writer" (154 : Nat) ({ cls := "ValueMill$Homes", name := "isSlot", desc := "(I)Z" } : Jvm.MethodName) "ValueMill") ∈ mz_NW := mz_inN (i := 969) (by decide +kernel) (by decide +kernel)
theorem ml_866 : (Jvm.Cond.methodLinkNest "ValueMill$Writer" (157 : Nat) ({ cls := "ValueMill$Code", name := "addMove", desc := "(IIZ)V" } : Jvm.MethodName) "ValueMill") ∈ mz_NW := mz_inN (i := 973) (by decide +kernel) (by decide +kernel)
theorem ml_870 : (Jvm.Cond.methodLink "ValueMill$Code" (50 : Nat) ({ cls := "ValueMill$Code", name := "add", desc := "(IIIII)V" } : Jvm.MethodName)) ∈ mz_TB := mz_in (i := 977) (by decide +kernel) (by decide +kernel)
theorem ml_871 : (Jvm.Cond.methodLinkNest "ValueMill$Writer" (145 : Nat) ({ cls := "ValueMill$Program", name := "makesValue", desc := "(I)Z" } : Jvm.MethodName) "ValueMill") ∈ mz_NW := mz_inN (i := 978) (by decide +kernel) (by decide +kernel)
theorem ml_872 : (Jvm.Cond.methodLinkNest "ValueMill$Writer" (151 : Nat) ({ cls := "ValueMill", name := "madeName", desc := "(I)I" } : Jvm.MethodName) "ValueMill") ∈ mz_NW := mz_inN (i := 979) (by decide +kernel) (by decide +kernel)
theorem ml_873 : (Jvm.Cond.methodLink "ValueMill$Writer" (126 : Nat) ({ cls := "ValueMill$Writer", name := "writeEnd", desc := "(I)V" } : Jvm.MethodName)) ∈ mz_TB := mz_in (i := 980) (by decide +kernel) (by decide +kernel)
theorem ml_877 : (Jvm.Cond.methodLinkNest "ValueMill$Writer" (163 : Nat) ({ cls := "ValueMill$Program", name := "endTakesTemp", desc := "(I)Z" } : Jvm.MethodName) "ValueMill") ∈ mz_NW := mz_inN (i := 984) (by decide +kernel) (by decide +kernel)
theorem ml_878 : (Jvm.Cond.methodLinkNest "ValueMill$Writer" (111 : Nat) ({ cls := "ValueMill$Program", name := "edges", desc := "(I)I" } : Jvm.MethodName) "ValueMill") ∈ mz_NW := mz_inN (i := 985) (by decide +kernel) (by decide +kernel)
theorem ml_879 : (Jvm.Cond.methodLink "ValueMill$Writer" (114 : Nat) ({ cls := "ValueMill$Writer", name := "writeRoad", desc := "(II)V" } : Jvm.MethodName)) ∈ mz_TB := mz_in (i := 986) (by decide +kernel) (by decide +kernel)
theorem ml_883 : (Jvm.Cond.methodLinkNest "ValueMill$Writer" (169 : Nat) ({ cls := "ValueMill$Program", name := "target", desc := "(II)I" } : Jvm.MethodName) "ValueMill") ∈ mz_NW := mz_inN (i := 990) (by decide +kernel) (by decide +kernel)
theorem ml_884 : (Jvm.Cond.methodLinkNest "ValueMill$Writer" (172 : Nat) ({ cls := "ValueMill$Names", name := "along", desc := "(II)I" } : Jvm.MethodName) "ValueMill") ∈ mz_NW := mz_inN (i := 991) (by decide +kernel) (by decide +kernel)
theorem ml_885 : (Jvm.Cond.methodLink "ValueMill$Writer" (175 : Nat) ({ cls := "ValueMill$Writer", name := "addMove", desc := "(III)V" } : Jvm.MethodName)) ∈ mz_TB := mz_in (i := 992) (by decide +kernel) (by decide +kernel)
theorem ml_889 : (Jvm.Cond.methodLinkNest "ValueMill$Writer" (184 : Nat) ({ cls := "ValueMill$Stands", name := "keepsPhi", desc := "(II)Z" } : Jvm.MethodName) "ValueMill") ∈ mz_NW := mz_inN (i := 996) (by decide +kernel) (by decide +kernel)
theorem ml_890 : (Jvm.Cond.methodLinkNest "ValueMill$Writer" (188 : Nat) ({ cls := "ValueMill", name := "phiName", desc := "(II)I" } : Jvm.MethodName) "ValueMill") ∈ mz_NW := mz_inN (i := 997) (by decide +kernel) (by decide +kernel)
theorem ml_891 : (Jvm.Cond.methodLinkNest "ValueMill$Writer" (191 : Nat) ({ cls := "ValueMill$Moves", name := "add", desc := "(IIZ)V" } : Jvm.MethodName) "ValueMill") ∈ mz_NW := mz_inN (i := 998) (by decide +kernel) (by decide +kernel)
theorem ml_895 : (Jvm.Cond.methodLinkNest "ValueMill$Writer" (178 : Nat) ({ cls := "ValueMill", name := "roadOf", desc := "(II)I" } : Jvm.MethodName) "ValueMill") ∈ mz_NW := mz_inN (i := 1002) (by decide +kernel) (by decide +kernel)
theorem ml_898 : (Jvm.Cond.methodLinkNest "ValueMill$Writer" (181 : Nat) ({ cls := "ValueMill$Moves", name := "write", desc := "()V" } : Jvm.MethodName) "ValueMill") ∈ mz_NW := mz_inN (i := 1005) (by decide +kernel) (by decide +kernel)
theorem ml_902 : (Jvm.Cond.methodLink "ValueMill$Moves" (34 : Nat) ({ cls := "ValueMill$Moves", name := "firstReady", desc := "()I" } : Jvm.MethodName)) ∈ mz_TB := mz_in (i := 1009) (by decide +kernel) (by decide +kernel)
theorem ml_906 : (Jvm.Cond.methodLink "ValueMill$Moves" (49 : Nat) ({ cls := "ValueMill$Moves", name := "isStillRead", desc := "(I)Z" } : Jvm.MethodName)) ∈ mz_TB := mz_in (i := 1013) (by decide +kernel) (by decide +kernel)
theorem ml_910 : (Jvm.Cond.methodLink "ValueMill$Moves" (38 : Nat) ({ cls := "ValueMill$Moves", name := "writeMove", desc := "(IIZ)V" } : Jvm.MethodName)) ∈ mz_TB := mz_in (i := 1017) (by decide +kernel) (by decide +kernel)
theorem ml_914 : (Jvm.Cond.methodLinkNest "ValueMill$Moves" (53 : Nat) ({ cls := "ValueMill$Homes", name := "isSlot", desc := "(I)Z" } : Jvm.MethodName) "ValueMill") ∈ mz_NW := mz_inN (i := 1021) (by decide +kernel) (by decide +kernel)
theorem ml_915 : (Jvm.Cond.methodLinkNest "ValueMill$Moves" (61 : Nat) ({ cls := "ValueMill$Code", name := "addMove", desc := "(IIZ)V" } : Jvm.MethodName) "ValueMill") ∈ mz_NW := mz_inN (i := 1022) (by decide +kernel) (by decide +kernel)
theorem ml_916 : (Jvm.Cond.methodLink "ValueMill$Moves" (42 : Nat) ({ cls := "ValueMill$Moves", name := "readFromSpare", desc := "(I)V" } : Jvm.MethodName)) ∈ mz_TB := mz_in (i := 1023) (by decide +kernel) (by decide +kernel)
theorem ml_920 : (Jvm.Cond.methodLink "ValueMill$Moves" (46 : Nat) ({ cls := "ValueMill$Moves", name := "takeOut", desc := "(I)V" } : Jvm.MethodName)) ∈ mz_TB := mz_in (i := 1027) (by decide +kernel) (by decide +kernel)
theorem ml_924 : (Jvm.Cond.methodLinkNest "ValueMill" (133 : Nat) ({ cls := "ValueMill$Machine", name := "follow", desc := "(LValueMill$Code;LValueMill$Program;I)I" } : Jvm.MethodName) "ValueMill") ∈ mz_NW := mz_inN (i := 1031) (by decide +kernel) (by decide +kernel)
theorem ml_928 : (Jvm.Cond.methodLink "ValueMill$Machine" (26 : Nat) ({ cls := "ValueMill$Machine", name := "begin", desc := "([I)V" } : Jvm.MethodName)) ∈ mz_TB := mz_in (i := 1035) (by decide +kernel) (by decide +kernel)
theorem ml_932 : (Jvm.Cond.methodLink "ValueMill$Machine" (58 : Nat) ({ cls := "java/util/Arrays", name := "fill", desc := "([II)V" } : Jvm.MethodName)) ∈ mz_TB := mz_in (i := 1039) (by decide +kernel) (by decide +kernel)
theorem ml_933 : (Jvm.Cond.methodLink "ValueMill$Machine" (64 : Nat) ({ cls := "java/lang/System", name := "arraycopy", desc := "(Ljava/lang/Object;ILjava/lang/Object;II)V" } : Jvm.MethodName)) ∈ mz_TB := mz_in (i := 1040) (by decide +kernel) (by decide +kernel)
theorem ml_936 : (Jvm.Cond.methodLink "ValueMill$Machine" (34 : Nat) ({ cls := "ValueMill$Machine", name := "perform", desc := "(LValueMill$Code;I)I" } : Jvm.MethodName)) ∈ mz_TB := mz_in (i := 1043) (by decide +kernel) (by decide +kernel)
theorem ml_940 : (Jvm.Cond.methodLink "ValueMill$Machine" (79 : Nat) ({ cls := "ValueMill$Machine", name := "performOne", desc := "(LValueMill$Code;I)I" } : Jvm.MethodName)) ∈ mz_TB := mz_in (i := 1047) (by decide +kernel) (by decide +kernel)
theorem ml_944 : (Jvm.Cond.methodLinkNest "ValueMill$Machine" (97 : Nat) ({ cls := "ValueMill", name := "failsToDivide", desc := "(III)Z" } : Jvm.MethodName) "ValueMill") ∈ mz_NW := mz_inN (i := 1051) (by decide +kernel) (by decide +kernel)
theorem ml_945 : (Jvm.Cond.methodLinkNest "ValueMill$Machine" (101 : Nat) ({ cls := "ValueMill", name := "isWord", desc := "(I)Z" } : Jvm.MethodName) "ValueMill") ∈ mz_NW := mz_inN (i := 1052) (by decide +kernel) (by decide +kernel)
theorem ml_946 : (Jvm.Cond.methodLink "ValueMill$Machine" (105 : Nat) ({ cls := "ValueMill$Machine", name := "callOut", desc := "(II)I" } : Jvm.MethodName)) ∈ mz_TB := mz_in (i := 1053) (by decide +kernel) (by decide +kernel)
theorem ml_950 : (Jvm.Cond.methodLinkNest "ValueMill$Machine" (108 : Nat) ({ cls := "ValueMill", name := "reckon", desc := "(III)I" } : Jvm.MethodName) "ValueMill") ∈ mz_NW := mz_inN (i := 1057) (by decide +kernel) (by decide +kernel)
theorem ml_951 : (Jvm.Cond.methodLinkNest "ValueMill$Machine" (51 : Nat) ({ cls := "ValueMill", name := "roadOf", desc := "(II)I" } : Jvm.MethodName) "ValueMill") ∈ mz_NW := mz_inN (i := 1058) (by decide +kernel) (by decide +kernel)
theorem ml_952 : (Jvm.Cond.methodLinkNest "ValueMill$Machine" (55 : Nat) ({ cls := "ValueMill$Program", name := "target", desc := "(II)I" } : Jvm.MethodName) "ValueMill") ∈ mz_NW := mz_inN (i := 1059) (by decide +kernel) (by decide +kernel)
theorem ml_973 : (Jvm.Cond.methodLinkNest "ValueMill" (149 : Nat) ({ cls := "ValueMill$Machine", name := "told", desc := "(II)I" } : Jvm.MethodName) "ValueMill") ∈ mz_NW := mz_inN (i := 1080) (by decide +kernel) (by decide +kernel)
theorem ml_985 : (Jvm.Cond.methodLinkNest "ValueMill" (161 : Nat) ({ cls := "ValueMill$Flow", name := "isAlive", desc := "(I)Z" } : Jvm.MethodName) "ValueMill") ∈ mz_NW := mz_inN (i := 1092) (by decide +kernel) (by decide +kernel)
theorem ml_989 : (Jvm.Cond.methodLinkNest "ValueMill$Flow" (68 : Nat) ({ cls := "ValueMill$Program", name := "hasBlock", desc := "(I)Z" } : Jvm.MethodName) "ValueMill") ∈ mz_NW := mz_inN (i := 1096) (by decide +kernel) (by decide +kernel)
theorem ml_994 : (Jvm.Cond.methodLink "ValueMill" (170 : Nat) ({ cls := "ValueMill", name := "isIn", desc := "(II)Z" } : Jvm.MethodName)) ∈ mz_TB := mz_in (i := 1101) (by decide +kernel) (by decide +kernel)
theorem ml_1013 : (Jvm.Cond.fieldLink "ValueMillModel" (49 : Nat) "ValueMillModel" "blocks" "I") ∈ mz_TB := mz_in (i := 1120) (by decide +kernel) (by decide +kernel)
theorem ml_1014 : (Jvm.Cond.fieldLink "ValueMillModel" (7 : Nat) "ValueMillModel" "counts" "[I") ∈ mz_TB := mz_in (i := 1121) (by decide +kernel) (by decide +kernel)
theorem ml_1015 : (Jvm.Cond.fieldLink "ValueMillModel" (13 : Nat) "ValueMillModel" "ops" "[I") ∈ mz_TB := mz_in (i := 1122) (by decide +kernel) (by decide +kernel)
theorem ml_1016 : (Jvm.Cond.fieldLink "ValueMillModel" (16 : Nat) "ValueMillModel" "endKind" "[I") ∈ mz_TB := mz_in (i := 1123) (by decide +kernel) (by decide +kernel)
theorem ml_1017 : (Jvm.Cond.fieldLink "ValueMillModel" (19 : Nat) "ValueMillModel" "endTemp" "[I") ∈ mz_TB := mz_in (i := 1124) (by decide +kernel) (by decide +kernel)
theorem ml_1018 : (Jvm.Cond.fieldLink "ValueMillModel" (22 : Nat) "ValueMillModel" "first" "[I") ∈ mz_TB := mz_in (i := 1125) (by decide +kernel) (by decide +kernel)
theorem ml_1019 : (Jvm.Cond.fieldLink "ValueMillModel" (25 : Nat) "ValueMillModel" "second" "[I") ∈ mz_TB := mz_in (i := 1126) (by decide +kernel) (by decide +kernel)
theorem ml_1020 : (Jvm.Cond.fieldLink "ValueMillModel" (28 : Nat) "ValueMillModel" "told" "[I") ∈ mz_TB := mz_in (i := 1127) (by decide +kernel) (by decide +kernel)
theorem ml_1021 : (Jvm.Cond.fieldLink "ValueMillModel" (85 : Nat) "ValueMillModel" "hasRun" "Z") ∈ mz_TB := mz_in (i := 1128) (by decide +kernel) (by decide +kernel)
theorem ml_1022 : (Jvm.Cond.fieldLink "ValueMillModel" (89 : Nat) "ValueMillModel" "value" "I") ∈ mz_TB := mz_in (i := 1129) (by decide +kernel) (by decide +kernel)
theorem ml_1023 : (Jvm.Cond.fieldLink "ValueMillModel" (92 : Nat) "ValueMillModel" "entered" "I") ∈ mz_TB := mz_in (i := 1130) (by decide +kernel) (by decide +kernel)
theorem ml_1024 : (Jvm.Cond.fieldLink "ValueMillModel" (31 : Nat) "ValueMillModel" "words" "[I") ∈ mz_TB := mz_in (i := 1131) (by decide +kernel) (by decide +kernel)
theorem ml_1025 : (Jvm.Cond.fieldLink "ValueMillModel" (34 : Nat) "ValueMillModel" "temps" "[I") ∈ mz_TB := mz_in (i := 1132) (by decide +kernel) (by decide +kernel)
theorem ml_1026 : (Jvm.Cond.fieldLink "ValueMillModel" (64 : Nat) "ValueMillModel" "calls" "I") ∈ mz_TB := mz_in (i := 1133) (by decide +kernel) (by decide +kernel)
theorem ml_1027 : (Jvm.Cond.fieldLink "ValueMillModel" (37 : Nat) "ValueMillModel" "callRows" "[I") ∈ mz_TB := mz_in (i := 1134) (by decide +kernel) (by decide +kernel)
theorem ml_1028 : (Jvm.Cond.fieldLink "ValueMillModel" (40 : Nat) "ValueMillModel" "noted" "[I") ∈ mz_TB := mz_in (i := 1135) (by decide +kernel) (by decide +kernel)
theorem ml_1029 : (Jvm.Cond.fieldLink "ValueMillModel" (43 : Nat) "ValueMillModel" "stack" "[I") ∈ mz_TB := mz_in (i := 1136) (by decide +kernel) (by decide +kernel)
theorem ml_1030 : (Jvm.Cond.fieldLink "ValueMillModel" (46 : Nat) "ValueMillModel" "gone" "[I") ∈ mz_TB := mz_in (i := 1137) (by decide +kernel) (by decide +kernel)
theorem ml_1076 : (Jvm.Cond.methodLink "ValueMillModel" (57 : Nat) ({ cls := "ValueMillModel", name := "isBlock", desc := "(I)Z" } : Jvm.MethodName)) ∈ mz_TB := mz_in (i := 1183) (by decide +kernel) (by decide +kernel)
theorem ml_1080 : (Jvm.Cond.methodLink "ValueMillModel" (60 : Nat) ({ cls := "ValueMillModel", name := "isOp", desc := "(IIII)Z" } : Jvm.MethodName)) ∈ mz_TB := mz_in (i := 1187) (by decide +kernel) (by decide +kernel)
theorem ml_1083 : (Jvm.Cond.methodLink "ValueMillModel" (53 : Nat) ({ cls := "ValueMillModel", name := "isTemp", desc := "(I)Z" } : Jvm.MethodName)) ∈ mz_TB := mz_in (i := 1190) (by decide +kernel) (by decide +kernel)
theorem ml_1106 : (Jvm.Cond.methodLink "ValueMillModel" (95 : Nat) ({ cls := "ValueMillModel", name := "step", desc := "(I)I" } : Jvm.MethodName)) ∈ mz_TB := mz_in (i := 1213) (by decide +kernel) (by decide +kernel)
theorem ml_1110 : (Jvm.Cond.methodLink "ValueMillModel" (70 : Nat) ({ cls := "ValueMillModel", name := "isSlip", desc := "(II)Z" } : Jvm.MethodName)) ∈ mz_TB := mz_in (i := 1217) (by decide +kernel) (by decide +kernel)
theorem ml_1113 : (Jvm.Cond.constant "ValueMillModel" (67 : Nat) (-2147483648 : Int32)) ∈ mz_TB := mz_in (i := 1220) (by decide +kernel) (by decide +kernel)
theorem ml_1114 : (Jvm.Cond.methodLink "ValueMillModel" (74 : Nat) ({ cls := "ValueMillModel", name := "reckon", desc := "(III)I" } : Jvm.MethodName)) ∈ mz_TB := mz_in (i := 1221) (by decide +kernel) (by decide +kernel)
theorem ml_1117 : (Jvm.Cond.constantLong "ValueMillModel" (68 : Nat) (4294967295 : Int64)) ∈ mz_TB := mz_in (i := 1224) (by decide +kernel) (by decide +kernel)
theorem ml_1118 : (Jvm.Cond.methodLink "ValueMillModel" (78 : Nat) ({ cls := "ValueMillModel", name := "isWord", desc := "(I)Z" } : Jvm.MethodName)) ∈ mz_TB := mz_in (i := 1225) (by decide +kernel) (by decide +kernel)
theorem ml_1121 : (Jvm.Cond.methodLink "ValueMillModel" (81 : Nat) ({ cls := "ValueMillModel", name := "call", desc := "(III)V" } : Jvm.MethodName)) ∈ mz_TB := mz_in (i := 1228) (by decide +kernel) (by decide +kernel)
theorem ml_1149 : (Jvm.Cond.methodLink "ValueMillModel" (106 : Nat) ({ cls := "ValueMillModel", name := "note", desc := "()I" } : Jvm.MethodName)) ∈ mz_TB := mz_in (i := 1256) (by decide +kernel) (by decide +kernel)
theorem ml_1157 : (Jvm.Cond.methodLink "ValueMillModel" (113 : Nat) ({ cls := "ValueMillModel", name := "dominates", desc := "(II)Z" } : Jvm.MethodName)) ∈ mz_TB := mz_in (i := 1264) (by decide +kernel) (by decide +kernel)
theorem ml_1161 : (Jvm.Cond.methodLink "ValueMillModel" (110 : Nat) ({ cls := "ValueMillModel", name := "isAlive", desc := "(I)Z" } : Jvm.MethodName)) ∈ mz_TB := mz_in (i := 1268) (by decide +kernel) (by decide +kernel)
theorem ml_1165 : (Jvm.Cond.methodLink "ValueMillModel" (102 : Nat) ({ cls := "ValueMillModel", name := "reach", desc := "(II)I" } : Jvm.MethodName)) ∈ mz_TB := mz_in (i := 1272) (by decide +kernel) (by decide +kernel)
theorem ml_1169 : (Jvm.Cond.methodLink "ValueMillModel" (99 : Nat) ({ cls := "ValueMillModel", name := "hasEdge", desc := "(II)Z" } : Jvm.MethodName)) ∈ mz_TB := mz_in (i := 1276) (by decide +kernel) (by decide +kernel)
theorem ml_1181 : (Jvm.Cond.methodLink "ValueMillModel" (119 : Nat) ({ cls := "ValueMillModel", name := "fate", desc := "(II)I" } : Jvm.MethodName)) ∈ mz_TB := mz_in (i := 1288) (by decide +kernel) (by decide +kernel)
theorem ml_1185 : (Jvm.Cond.methodLink "ValueMillModel" (116 : Nat) ({ cls := "ValueMillModel", name := "uses", desc := "(IIII)Z" } : Jvm.MethodName)) ∈ mz_TB := mz_in (i := 1292) (by decide +kernel) (by decide +kernel)
theorem ml_1192 : (Jvm.Cond.methodLink "ValueMillModel" (122 : Nat) ({ cls := "ValueMillModel", name := "live", desc := "(II)Z" } : Jvm.MethodName)) ∈ mz_TB := mz_in (i := 1299) (by decide +kernel) (by decide +kernel)
theorem ml_1193 : (Jvm.Cond.methodLink "ValueMillModel" (125 : Nat) ({ cls := "ValueMillModel", name := "isSet", desc := "(II)Z" } : Jvm.MethodName)) ∈ mz_TB := mz_in (i := 1300) (by decide +kernel) (by decide +kernel)
theorem ml_1197 : (Jvm.Cond.methodLink "ValueMillModel" (128 : Nat) ({ cls := "ValueMillModel", name := "frontier", desc := "(II)Z" } : Jvm.MethodName)) ∈ mz_TB := mz_in (i := 1304) (by decide +kernel) (by decide +kernel)
theorem ml_1202 : (Jvm.Cond.methodLink "ValueMillModel" (131 : Nat) ({ cls := "ValueMillModel", name := "isInLoop", desc := "(II)Z" } : Jvm.MethodName)) ∈ mz_TB := mz_in (i := 1309) (by decide +kernel) (by decide +kernel)
theorem mn_nat : Cond.native arraycopyName ∈ mz_TB := mz_in (i := 1042) (by decide +kernel) (by decide +kernel)
theorem mn_sta : Cond.static arraycopyName ∈ mz_TB := mz_in (i := 1041) (by decide +kernel) (by decide +kernel)
theorem mn_ini : Cond.initialized "java/lang/System" ∈ mz_TB := mz_in (i := 121) (by decide +kernel) (by decide +kernel)
theorem md_Arrays_fillI_0 : mz_d mb_Arrays_fillI 0 (.iconst 0) 1 1 := ⟨by decide +kernel, rfl⟩
theorem md_Arrays_fillI_1 : mz_d mb_Arrays_fillI 1 (.istore_n 2) 1 2 := ⟨by decide +kernel, rfl⟩
theorem md_Arrays_fillI_2 : mz_d mb_Arrays_fillI 2 (.aload_n 0) 1 3 := ⟨by decide +kernel, rfl⟩
theorem md_Arrays_fillI_3 : mz_d mb_Arrays_fillI 3 (.arraylength) 1 4 := ⟨by decide +kernel, rfl⟩
theorem md_Arrays_fillI_4 : mz_d mb_Arrays_fillI 4 (.istore_n 3) 1 5 := ⟨by decide +kernel, rfl⟩
theorem md_Arrays_fillI_5 : mz_d mb_Arrays_fillI 5 (.iload_n 2) 1 6 := ⟨by decide +kernel, rfl⟩
theorem md_Arrays_fillI_6 : mz_d mb_Arrays_fillI 6 (.iload_n 3) 1 7 := ⟨by decide +kernel, rfl⟩
theorem md_Arrays_fillI_7 : mz_d mb_Arrays_fillI 7 (.if_icmp .ge 13) 3 10 := ⟨by decide +kernel, rfl⟩
theorem md_Arrays_fillI_10 : mz_d mb_Arrays_fillI 10 (.aload_n 0) 1 11 := ⟨by decide +kernel, rfl⟩
theorem md_Arrays_fillI_11 : mz_d mb_Arrays_fillI 11 (.iload_n 2) 1 12 := ⟨by decide +kernel, rfl⟩
theorem md_Arrays_fillI_12 : mz_d mb_Arrays_fillI 12 (.iload_n 1) 1 13 := ⟨by decide +kernel, rfl⟩
theorem md_Arrays_fillI_13 : mz_d mb_Arrays_fillI 13 (.iastore) 1 14 := ⟨by decide +kernel, rfl⟩
theorem md_Arrays_fillI_14 : mz_d mb_Arrays_fillI 14 (.iinc 2 1) 3 17 := ⟨by decide +kernel, rfl⟩
theorem md_Arrays_fillI_17 : mz_d mb_Arrays_fillI 17 (.goto (-12)) 3 20 := ⟨by decide +kernel, rfl⟩
theorem md_Arrays_fillI_20 : mz_d mb_Arrays_fillI 20 (.return_) 1 21 := ⟨by decide +kernel, rfl⟩
theorem md_Arrays_fillJ_0 : mz_d mb_Arrays_fillJ 0 (.iconst 0) 1 1 := ⟨by decide +kernel, rfl⟩
theorem md_Arrays_fillJ_1 : mz_d mb_Arrays_fillJ 1 (.istore_n 3) 1 2 := ⟨by decide +kernel, rfl⟩
theorem md_Arrays_fillJ_2 : mz_d mb_Arrays_fillJ 2 (.aload_n 0) 1 3 := ⟨by decide +kernel, rfl⟩
theorem md_Arrays_fillJ_3 : mz_d mb_Arrays_fillJ 3 (.arraylength) 1 4 := ⟨by decide +kernel, rfl⟩
theorem md_Arrays_fillJ_4 : mz_d mb_Arrays_fillJ 4 (.istore 4) 2 6 := ⟨by decide +kernel, rfl⟩
theorem md_Arrays_fillJ_6 : mz_d mb_Arrays_fillJ 6 (.iload_n 3) 1 7 := ⟨by decide +kernel, rfl⟩
theorem md_Arrays_fillJ_7 : mz_d mb_Arrays_fillJ 7 (.iload 4) 2 9 := ⟨by decide +kernel, rfl⟩
theorem md_Arrays_fillJ_9 : mz_d mb_Arrays_fillJ 9 (.if_icmp .ge 13) 3 12 := ⟨by decide +kernel, rfl⟩
theorem md_Arrays_fillJ_12 : mz_d mb_Arrays_fillJ 12 (.aload_n 0) 1 13 := ⟨by decide +kernel, rfl⟩
theorem md_Arrays_fillJ_13 : mz_d mb_Arrays_fillJ 13 (.iload_n 3) 1 14 := ⟨by decide +kernel, rfl⟩
theorem md_Arrays_fillJ_14 : mz_d mb_Arrays_fillJ 14 (.lload_n 1) 1 15 := ⟨by decide +kernel, rfl⟩
theorem md_Arrays_fillJ_15 : mz_d mb_Arrays_fillJ 15 (.lastore) 1 16 := ⟨by decide +kernel, rfl⟩
theorem md_Arrays_fillJ_16 : mz_d mb_Arrays_fillJ 16 (.iinc 3 1) 3 19 := ⟨by decide +kernel, rfl⟩
theorem md_Arrays_fillJ_19 : mz_d mb_Arrays_fillJ 19 (.goto (-13)) 3 22 := ⟨by decide +kernel, rfl⟩
theorem md_Arrays_fillJ_22 : mz_d mb_Arrays_fillJ 22 (.return_) 1 23 := ⟨by decide +kernel, rfl⟩
