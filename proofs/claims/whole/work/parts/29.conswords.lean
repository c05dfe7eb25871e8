/-! BEGIN words of the constructors: printed -/
theorem mn_oin : Cond.instanceMethod Lib.objectInit ∈ mz_TB := mz_in (i := 128) (by decide +kernel) (by decide +kernel)
theorem mn_oco : Cond.code Lib.objectInit ⟨#[0xb1]⟩ 1 none ∈ mz_TB := mz_in (i := 129) (by decide +kernel) (by decide +kernel)
theorem mn_acI : Cond.arrayClass .int ∈ mz_TB := mz_in (i := 196) (by decide +kernel) (by decide +kernel)
theorem mn_acJ : Cond.arrayClass .long ∈ mz_TB := mz_in (i := 403) (by decide +kernel) (by decide +kernel)
theorem mn_acZ : Cond.arrayClass .boolean ∈ mz_TB := mz_in (i := 450) (by decide +kernel) (by decide +kernel)
abbrev mb_Program_init : ByteArray := prog_9_method_1_code
def my_Program_init : MethodName := ⟨"ValueMill$Program", "<init>", "()V"⟩
theorem mo_Program_init : mz_ok my_Program_init mb_Program_init 1 none 0 := ⟨mz_in (i := 134) (by decide +kernel) (by decide +kernel), mz_in (i := 109) (by decide +kernel) (by decide +kernel), ⟨by decide +kernel, by decide +kernel⟩, by decide +kernel⟩
theorem mh_Program_init : Cond.instanceMethod my_Program_init ∈ mz_TB := mz_in (i := 133) (by decide +kernel) (by decide +kernel)
abbrev mb_Flow_init : ByteArray := prog_3_method_1_code
def my_Flow_init : MethodName := ⟨"ValueMill$Flow", "<init>", "(LValueMill$Program;)V"⟩
theorem mo_Flow_init : mz_ok my_Flow_init mb_Flow_init 2 none 1 := ⟨mz_in (i := 201) (by decide +kernel) (by decide +kernel), mz_in (i := 110) (by decide +kernel) (by decide +kernel), ⟨by decide +kernel, by decide +kernel⟩, by decide +kernel⟩
theorem mh_Flow_init : Cond.instanceMethod my_Flow_init ∈ mz_TB := mz_in (i := 200) (by decide +kernel) (by decide +kernel)
abbrev mb_Lives_init : ByteArray := prog_5_method_1_code
def my_Lives_init : MethodName := ⟨"ValueMill$Lives", "<init>", "(LValueMill$Program;LValueMill$Flow;)V"⟩
theorem mo_Lives_init : mz_ok my_Lives_init mb_Lives_init 3 none 2 := ⟨mz_in (i := 259) (by decide +kernel) (by decide +kernel), mz_in (i := 111) (by decide +kernel) (by decide +kernel), ⟨by decide +kernel, by decide +kernel⟩, by decide +kernel⟩
theorem mh_Lives_init : Cond.instanceMethod my_Lives_init ∈ mz_TB := mz_in (i := 258) (by decide +kernel) (by decide +kernel)
abbrev mb_Names_init : ByteArray := prog_8_method_1_code
def my_Names_init : MethodName := ⟨"ValueMill$Names", "<init>", "(LValueMill$Program;LValueMill$Flow;LValueMill$Lives;)V"⟩
theorem mo_Names_init : mz_ok my_Names_init mb_Names_init 4 none 3 := ⟨mz_in (i := 289) (by decide +kernel) (by decide +kernel), mz_in (i := 112) (by decide +kernel) (by decide +kernel), ⟨by decide +kernel, by decide +kernel⟩, by decide +kernel⟩
theorem mh_Names_init : Cond.instanceMethod my_Names_init ∈ mz_TB := mz_in (i := 288) (by decide +kernel) (by decide +kernel)
abbrev mb_Stands_init : ByteArray := prog_10_method_1_code
def my_Stands_init : MethodName := ⟨"ValueMill$Stands", "<init>", "(LValueMill$Program;LValueMill$Flow;LValueMill$Lives;LValueMill$Names;)V"⟩
theorem mo_Stands_init : mz_ok my_Stands_init mb_Stands_init 5 none 4 := ⟨mz_in (i := 325) (by decide +kernel) (by decide +kernel), mz_in (i := 113) (by decide +kernel) (by decide +kernel), ⟨by decide +kernel, by decide +kernel⟩, by decide +kernel⟩
theorem mh_Stands_init : Cond.instanceMethod my_Stands_init ∈ mz_TB := mz_in (i := 324) (by decide +kernel) (by decide +kernel)
abbrev mb_Homes_init : ByteArray := prog_4_method_1_code
def my_Homes_init : MethodName := ⟨"ValueMill$Homes", "<init>", "(LValueMill$Program;LValueMill$Flow;LValueMill$Lives;LValueMill$Names;LValueMill$Stands;)V"⟩
theorem mo_Homes_init : mz_ok my_Homes_init mb_Homes_init 6 none 5 := ⟨mz_in (i := 355) (by decide +kernel) (by decide +kernel), mz_in (i := 114) (by decide +kernel) (by decide +kernel), ⟨by decide +kernel, by decide +kernel⟩, by decide +kernel⟩
theorem mh_Homes_init : Cond.instanceMethod my_Homes_init ∈ mz_TB := mz_in (i := 354) (by decide +kernel) (by decide +kernel)
abbrev mb_Code_init : ByteArray := prog_2_method_1_code
def my_Code_init : MethodName := ⟨"ValueMill$Code", "<init>", "()V"⟩
theorem mo_Code_init : mz_ok my_Code_init mb_Code_init 1 none 0 := ⟨mz_in (i := 408) (by decide +kernel) (by decide +kernel), mz_in (i := 115) (by decide +kernel) (by decide +kernel), ⟨by decide +kernel, by decide +kernel⟩, by decide +kernel⟩
theorem mh_Code_init : Cond.instanceMethod my_Code_init ∈ mz_TB := mz_in (i := 407) (by decide +kernel) (by decide +kernel)
abbrev mb_Moves_init : ByteArray := prog_7_method_1_code
def my_Moves_init : MethodName := ⟨"ValueMill$Moves", "<init>", "(LValueMill$Homes;LValueMill$Code;)V"⟩
theorem mo_Moves_init : mz_ok my_Moves_init mb_Moves_init 3 none 2 := ⟨mz_in (i := 461) (by decide +kernel) (by decide +kernel), mz_in (i := 117) (by decide +kernel) (by decide +kernel), ⟨by decide +kernel, by decide +kernel⟩, by decide +kernel⟩
theorem mh_Moves_init : Cond.instanceMethod my_Moves_init ∈ mz_TB := mz_in (i := 460) (by decide +kernel) (by decide +kernel)
abbrev mb_Writer_init : ByteArray := prog_11_method_1_code
def my_Writer_init : MethodName := ⟨"ValueMill$Writer", "<init>", "(LValueMill$Program;LValueMill$Flow;LValueMill$Names;LValueMill$Stands;LValueMill$Homes;LValueMill$Code;)V"⟩
theorem mo_Writer_init : mz_ok my_Writer_init mb_Writer_init 7 none 6 := ⟨mz_in (i := 455) (by decide +kernel) (by decide +kernel), mz_in (i := 116) (by decide +kernel) (by decide +kernel), ⟨by decide +kernel, by decide +kernel⟩, by decide +kernel⟩
theorem mh_Writer_init : Cond.instanceMethod my_Writer_init ∈ mz_TB := mz_in (i := 454) (by decide +kernel) (by decide +kernel)
abbrev mb_Machine_init : ByteArray := prog_6_method_1_code
def my_Machine_init : MethodName := ⟨"ValueMill$Machine", "<init>", "()V"⟩
theorem mo_Machine_init : mz_ok my_Machine_init mb_Machine_init 1 none 0 := ⟨mz_in (i := 508) (by decide +kernel) (by decide +kernel), mz_in (i := 118) (by decide +kernel) (by decide +kernel), ⟨by decide +kernel, by decide +kernel⟩, by decide +kernel⟩
theorem mh_Machine_init : Cond.instanceMethod my_Machine_init ∈ mz_TB := mz_in (i := 507) (by decide +kernel) (by decide +kernel)
abbrev mb_Mill_init : ByteArray := prog_1_method_1_code
def my_Mill_init : MethodName := ⟨"ValueMill", "<init>", "()V"⟩
theorem mo_Mill_init : mz_ok my_Mill_init mb_Mill_init 1 none 0 := ⟨mz_in (i := 126) (by decide +kernel) (by decide +kernel), mz_in (i := 108) (by decide +kernel) (by decide +kernel), ⟨by decide +kernel, by decide +kernel⟩, by decide +kernel⟩
theorem mh_Mill_init : Cond.instanceMethod my_Mill_init ∈ mz_TB := mz_in (i := 125) (by decide +kernel) (by decide +kernel)
abbrev mb_Ref_init : ByteArray := prog_13_method_1_code
def my_Ref_init : MethodName := ⟨"ValueMillModel", "<init>", "()V"⟩
theorem mo_Ref_init : mz_ok my_Ref_init mb_Ref_init 1 none 0 := ⟨mz_in (i := 1118) (by decide +kernel) (by decide +kernel), mz_in (i := 119) (by decide +kernel) (by decide +kernel), ⟨by decide +kernel, by decide +kernel⟩, by decide +kernel⟩
theorem mh_Ref_init : Cond.instanceMethod my_Ref_init ∈ mz_TB := mz_in (i := 1117) (by decide +kernel) (by decide +kernel)
theorem mk_bipush_30 : (Int8.ofInt 30).toInt32 = 30 := by decide
theorem mk_bipush_120 : (Int8.ofInt 120).toInt32 = 120 := by decide
theorem mk_sipush_480 : (Int16.ofInt 480).toInt32 = 480 := by decide
theorem mk_sipush_600 : (Int16.ofInt 600).toInt32 = 600 := by decide
theorem ml_2 : (Jvm.Cond.initialized "ValueMill$Program") ∈ mz_TB := mz_in (i := 109) (by decide +kernel) (by decide +kernel)
theorem ml_3 : (Jvm.Cond.initialized "ValueMill$Flow") ∈ mz_TB := mz_in (i := 110) (by decide +kernel) (by decide +kernel)
theorem ml_4 : (Jvm.Cond.initialized "ValueMill$Lives") ∈ mz_TB := mz_in (i := 111) (by decide +kernel) (by decide +kernel)
theorem ml_5 : (Jvm.Cond.initialized "ValueMill$Names") ∈ mz_TB := mz_in (i := 112) (by decide +kernel) (by decide +kernel)
theorem ml_6 : (Jvm.Cond.initialized "ValueMill$Stands") ∈ mz_TB := mz_in (i := 113) (by decide +kernel) (by decide +kernel)
theorem ml_7 : (Jvm.Cond.initialized "ValueMill$Homes") ∈ mz_TB := mz_in (i := 114) (by decide +kernel) (by decide +kernel)
theorem ml_8 : (Jvm.Cond.initialized "ValueMill$Code") ∈ mz_TB := mz_in (i := 115) (by decide +kernel) (by decide +kernel)
theorem ml_9 : (Jvm.Cond.initialized "ValueMill$Writer") ∈ mz_TB := mz_in (i := 116) (by decide +kernel) (by decide +kernel)
theorem ml_10 : (Jvm.Cond.initialized "ValueMill$Moves") ∈ mz_TB := mz_in (i := 117) (by decide +kernel) (by decide +kernel)
theorem ml_11 : (Jvm.Cond.initialized "ValueMill$Machine") ∈ mz_TB := mz_in (i := 118) (by decide +kernel) (by decide +kernel)
theorem ml_20 : (Jvm.Cond.methodLink "ValueMill" (3 : Nat) ({ cls := "java/lang/Object", name := "<init>", desc := "()V" } : Jvm.MethodName)) ∈ mz_TB := mz_in (i := 127) (by decide +kernel) (by decide +kernel)
theorem ml_23 : (Jvm.Cond.classLink "ValueMill" (9 : Nat) "ValueMill$Program") ∈ mz_TB := mz_in (i := 130) (by decide +kernel) (by decide +kernel)
theorem ml_24 : (Jvm.Cond.instantiable "ValueMill$Program" (11 : Nat)) ∈ mz_TB := mz_in (i := 131) (by decide +kernel) (by decide +kernel)
theorem ml_25 : (Jvm.Cond.methodLinkNest "ValueMill" (11 : Nat) ({ cls := "ValueMill$Program", name := "<init>", desc := "()V" } : Jvm.MethodName) "ValueMill") ∈ mz_NW := mz_inN (i := 132) (by decide +kernel) (by decide +kernel)
theorem ml_28 : (Jvm.Cond.methodLink "ValueMill$Program" (3 : Nat) ({ cls := "java/lang/Object", name := "<init>", desc := "()V" } : Jvm.MethodName)) ∈ mz_TB := mz_in (i := 135) (by decide +kernel) (by decide +kernel)
theorem ml_57 : (Jvm.Cond.fieldLink "ValueMill$Program" (39 : Nat) "ValueMill$Program" "told" "[I") ∈ mz_TB := mz_in (i := 164) (by decide +kernel) (by decide +kernel)
theorem ml_90 : (Jvm.Cond.classLink "ValueMill" (16 : Nat) "ValueMill$Flow") ∈ mz_TB := mz_in (i := 197) (by decide +kernel) (by decide +kernel)
theorem ml_91 : (Jvm.Cond.instantiable "ValueMill$Flow" (11 : Nat)) ∈ mz_TB := mz_in (i := 198) (by decide +kernel) (by decide +kernel)
theorem ml_92 : (Jvm.Cond.methodLinkNest "ValueMill" (18 : Nat) ({ cls := "ValueMill$Flow", name := "<init>", desc := "(LValueMill$Program;)V" } : Jvm.MethodName) "ValueMill") ∈ mz_NW := mz_inN (i := 199) (by decide +kernel) (by decide +kernel)
theorem ml_95 : (Jvm.Cond.methodLink "ValueMill$Flow" (3 : Nat) ({ cls := "java/lang/Object", name := "<init>", desc := "()V" } : Jvm.MethodName)) ∈ mz_TB := mz_in (i := 202) (by decide +kernel) (by decide +kernel)
theorem ml_148 : (Jvm.Cond.classLink "ValueMill" (25 : Nat) "ValueMill$Lives") ∈ mz_TB := mz_in (i := 255) (by decide +kernel) (by decide +kernel)
theorem ml_149 : (Jvm.Cond.instantiable "ValueMill$Lives" (6 : Nat)) ∈ mz_TB := mz_in (i := 256) (by decide +kernel) (by decide +kernel)
theorem ml_150 : (Jvm.Cond.methodLinkNest "ValueMill" (27 : Nat) ({ cls := "ValueMill$Lives", name := "<init>", desc := "(LValueMill$Program;LValueMill$Flow;)V" } : Jvm.MethodName) "ValueMill") ∈ mz_NW := mz_inN (i := 257) (by decide +kernel) (by decide +kernel)
theorem ml_153 : (Jvm.Cond.methodLink "ValueMill$Lives" (3 : Nat) ({ cls := "java/lang/Object", name := "<init>", desc := "()V" } : Jvm.MethodName)) ∈ mz_TB := mz_in (i := 260) (by decide +kernel) (by decide +kernel)
theorem ml_178 : (Jvm.Cond.classLink "ValueMill" (34 : Nat) "ValueMill$Names") ∈ mz_TB := mz_in (i := 285) (by decide +kernel) (by decide +kernel)
theorem ml_179 : (Jvm.Cond.instantiable "ValueMill$Names" (7 : Nat)) ∈ mz_TB := mz_in (i := 286) (by decide +kernel) (by decide +kernel)
theorem ml_180 : (Jvm.Cond.methodLinkNest "ValueMill" (36 : Nat) ({ cls := "ValueMill$Names", name := "<init>", desc := "(LValueMill$Program;LValueMill$Flow;LValueMill$Lives;)V" } : Jvm.MethodName) "ValueMill") ∈ mz_NW := mz_inN (i := 287) (by decide +kernel) (by decide +kernel)
theorem ml_183 : (Jvm.Cond.methodLink "ValueMill$Names" (3 : Nat) ({ cls := "java/lang/Object", name := "<init>", desc := "()V" } : Jvm.MethodName)) ∈ mz_TB := mz_in (i := 290) (by decide +kernel) (by decide +kernel)
theorem ml_214 : (Jvm.Cond.classLink "ValueMill" (43 : Nat) "ValueMill$Stands") ∈ mz_TB := mz_in (i := 321) (by decide +kernel) (by decide +kernel)
theorem ml_215 : (Jvm.Cond.instantiable "ValueMill$Stands" (7 : Nat)) ∈ mz_TB := mz_in (i := 322) (by decide +kernel) (by decide +kernel)
theorem ml_216 : (Jvm.Cond.methodLinkNest "ValueMill" (45 : Nat) ({ cls := "ValueMill$Stands", name := "<init>", desc := "(LValueMill$Program;LValueMill$Flow;LValueMill$Lives;LValueMill$Names;)V" } : Jvm.MethodName) "ValueMill") ∈ mz_NW := mz_inN (i := 323) (by decide +kernel) (by decide +kernel)
theorem ml_219 : (Jvm.Cond.methodLink "ValueMill$Stands" (3 : Nat) ({ cls := "java/lang/Object", name := "<init>", desc := "()V" } : Jvm.MethodName)) ∈ mz_TB := mz_in (i := 326) (by decide +kernel) (by decide +kernel)
theorem ml_244 : (Jvm.Cond.classLink "ValueMill" (52 : Nat) "ValueMill$Homes") ∈ mz_TB := mz_in (i := 351) (by decide +kernel) (by decide +kernel)
theorem ml_245 : (Jvm.Cond.instantiable "ValueMill$Homes" (14 : Nat)) ∈ mz_TB := mz_in (i := 352) (by decide +kernel) (by decide +kernel)
theorem ml_246 : (Jvm.Cond.methodLinkNest "ValueMill" (54 : Nat) ({ cls := "ValueMill$Homes", name := "<init>", desc := "(LValueMill$Program;LValueMill$Flow;LValueMill$Lives;LValueMill$Names;LValueMill$Stands;)V" } : Jvm.MethodName) "ValueMill") ∈ mz_NW := mz_inN (i := 353) (by decide +kernel) (by decide +kernel)
theorem ml_249 : (Jvm.Cond.methodLink "ValueMill$Homes" (3 : Nat) ({ cls := "java/lang/Object", name := "<init>", desc := "()V" } : Jvm.MethodName)) ∈ mz_TB := mz_in (i := 356) (by decide +kernel) (by decide +kernel)
theorem ml_297 : (Jvm.Cond.classLink "ValueMill" (61 : Nat) "ValueMill$Code") ∈ mz_TB := mz_in (i := 404) (by decide +kernel) (by decide +kernel)
theorem ml_298 : (Jvm.Cond.instantiable "ValueMill$Code" (10 : Nat)) ∈ mz_TB := mz_in (i := 405) (by decide +kernel) (by decide +kernel)
theorem ml_299 : (Jvm.Cond.methodLinkNest "ValueMill" (63 : Nat) ({ cls := "ValueMill$Code", name := "<init>", desc := "()V" } : Jvm.MethodName) "ValueMill") ∈ mz_NW := mz_inN (i := 406) (by decide +kernel) (by decide +kernel)
theorem ml_302 : (Jvm.Cond.methodLink "ValueMill$Code" (3 : Nat) ({ cls := "java/lang/Object", name := "<init>", desc := "()V" } : Jvm.MethodName)) ∈ mz_TB := mz_in (i := 409) (by decide +kernel) (by decide +kernel)
theorem ml_344 : (Jvm.Cond.classLink "ValueMill" (68 : Nat) "ValueMill$Writer") ∈ mz_TB := mz_in (i := 451) (by decide +kernel) (by decide +kernel)
theorem ml_345 : (Jvm.Cond.instantiable "ValueMill$Writer" (7 : Nat)) ∈ mz_TB := mz_in (i := 452) (by decide +kernel) (by decide +kernel)
theorem ml_346 : (Jvm.Cond.methodLinkNest "ValueMill" (70 : Nat) ({ cls := "ValueMill$Writer", name := "<init>", desc := "(LValueMill$Program;LValueMill$Flow;LValueMill$Names;LValueMill$Stands;LValueMill$Homes;LValueMill$Code;)V" } : Jvm.MethodName) "ValueMill") ∈ mz_NW := mz_inN (i := 453) (by decide +kernel) (by decide +kernel)
theorem ml_349 : (Jvm.Cond.methodLink "ValueMill$Writer" (3 : Nat) ({ cls := "java/lang/Object", name := "<init>", desc := "()V" } : Jvm.MethodName)) ∈ mz_TB := mz_in (i := 456) (by decide +kernel) (by decide +kernel)
theorem ml_350 : (Jvm.Cond.classLink "ValueMill$Writer" (35 : Nat) "ValueMill$Moves") ∈ mz_TB := mz_in (i := 457) (by decide +kernel) (by decide +kernel)
theorem ml_351 : (Jvm.Cond.instantiable "ValueMill$Moves" (6 : Nat)) ∈ mz_TB := mz_in (i := 458) (by decide +kernel) (by decide +kernel)
theorem ml_352 : (Jvm.Cond.methodLinkNest "ValueMill$Writer" (37 : Nat) ({ cls := "ValueMill$Moves", name := "<init>", desc := "(LValueMill$Homes;LValueMill$Code;)V" } : Jvm.MethodName) "ValueMill") ∈ mz_NW := mz_inN (i := 459) (by decide +kernel) (by decide +kernel)
theorem ml_355 : (Jvm.Cond.methodLink "ValueMill$Moves" (3 : Nat) ({ cls := "java/lang/Object", name := "<init>", desc := "()V" } : Jvm.MethodName)) ∈ mz_TB := mz_in (i := 462) (by decide +kernel) (by decide +kernel)
theorem ml_397 : (Jvm.Cond.classLink "ValueMill" (77 : Nat) "ValueMill$Machine") ∈ mz_TB := mz_in (i := 504) (by decide +kernel) (by decide +kernel)
theorem ml_398 : (Jvm.Cond.instantiable "ValueMill$Machine" (6 : Nat)) ∈ mz_TB := mz_in (i := 505) (by decide +kernel) (by decide +kernel)
theorem ml_399 : (Jvm.Cond.methodLinkNest "ValueMill" (79 : Nat) ({ cls := "ValueMill$Machine", name := "<init>", desc := "()V" } : Jvm.MethodName) "ValueMill") ∈ mz_NW := mz_inN (i := 506) (by decide +kernel) (by decide +kernel)
theorem ml_402 : (Jvm.Cond.methodLink "ValueMill$Machine" (3 : Nat) ({ cls := "java/lang/Object", name := "<init>", desc := "()V" } : Jvm.MethodName)) ∈ mz_TB := mz_in (i := 509) (by decide +kernel) (by decide +kernel)
theorem ml_1012 : (Jvm.Cond.methodLink "ValueMillModel" (1 : Nat) ({ cls := "java/lang/Object", name := "<init>", desc := "()V" } : Jvm.MethodName)) ∈ mz_TB := mz_in (i := 1119) (by decide +kernel) (by decide +kernel)
theorem md_Program_init_0 : mz_d mb_Program_init 0 (.aload_n 0) 1 1 := ⟨by decide +kernel, rfl⟩
theorem md_Program_init_1 : mz_d mb_Program_init 1 (.invokespecial 3) 3 4 := ⟨by decide +kernel, rfl⟩
theorem md_Program_init_4 : mz_d mb_Program_init 4 (.aload_n 0) 1 5 := ⟨by decide +kernel, rfl⟩
theorem md_Program_init_5 : mz_d mb_Program_init 5 (.bipush 120) 2 7 := ⟨by decide +kernel, rfl⟩
theorem md_Program_init_7 : mz_d mb_Program_init 7 (.newarray .int) 2 9 := ⟨by decide +kernel, rfl⟩
theorem md_Program_init_9 : mz_d mb_Program_init 9 (.putfield 9) 3 12 := ⟨by decide +kernel, rfl⟩
theorem md_Program_init_12 : mz_d mb_Program_init 12 (.aload_n 0) 1 13 := ⟨by decide +kernel, rfl⟩
theorem md_Program_init_13 : mz_d mb_Program_init 13 (.bipush 120) 2 15 := ⟨by decide +kernel, rfl⟩
theorem md_Program_init_15 : mz_d mb_Program_init 15 (.newarray .int) 2 17 := ⟨by decide +kernel, rfl⟩
theorem md_Program_init_17 : mz_d mb_Program_init 17 (.putfield 15) 3 20 := ⟨by decide +kernel, rfl⟩
theorem md_Program_init_20 : mz_d mb_Program_init 20 (.aload_n 0) 1 21 := ⟨by decide +kernel, rfl⟩
theorem md_Program_init_21 : mz_d mb_Program_init 21 (.bipush 120) 2 23 := ⟨by decide +kernel, rfl⟩
theorem md_Program_init_23 : mz_d mb_Program_init 23 (.newarray .int) 2 25 := ⟨by decide +kernel, rfl⟩
theorem md_Program_init_25 : mz_d mb_Program_init 25 (.putfield 18) 3 28 := ⟨by decide +kernel, rfl⟩
theorem md_Program_init_28 : mz_d mb_Program_init 28 (.aload_n 0) 1 29 := ⟨by decide +kernel, rfl⟩
theorem md_Program_init_29 : mz_d mb_Program_init 29 (.bipush 120) 2 31 := ⟨by decide +kernel, rfl⟩
theorem md_Program_init_31 : mz_d mb_Program_init 31 (.newarray .int) 2 33 := ⟨by decide +kernel, rfl⟩
theorem md_Program_init_33 : mz_d mb_Program_init 33 (.putfield 21) 3 36 := ⟨by decide +kernel, rfl⟩
theorem md_Program_init_36 : mz_d mb_Program_init 36 (.aload_n 0) 1 37 := ⟨by decide +kernel, rfl⟩
theorem md_Program_init_37 : mz_d mb_Program_init 37 (.bipush 10) 2 39 := ⟨by decide +kernel, rfl⟩
theorem md_Program_init_39 : mz_d mb_Program_init 39 (.newarray .int) 2 41 := ⟨by decide +kernel, rfl⟩
theorem md_Program_init_41 : mz_d mb_Program_init 41 (.putfield 24) 3 44 := ⟨by decide +kernel, rfl⟩
theorem md_Program_init_44 : mz_d mb_Program_init 44 (.aload_n 0) 1 45 := ⟨by decide +kernel, rfl⟩
theorem md_Program_init_45 : mz_d mb_Program_init 45 (.bipush 10) 2 47 := ⟨by decide +kernel, rfl⟩
theorem md_Program_init_47 : mz_d mb_Program_init 47 (.newarray .int) 2 49 := ⟨by decide +kernel, rfl⟩
theorem md_Program_init_49 : mz_d mb_Program_init 49 (.putfield 27) 3 52 := ⟨by decide +kernel, rfl⟩
theorem md_Program_init_52 : mz_d mb_Program_init 52 (.aload_n 0) 1 53 := ⟨by decide +kernel, rfl⟩
theorem md_Program_init_53 : mz_d mb_Program_init 53 (.bipush 10) 2 55 := ⟨by decide +kernel, rfl⟩
theorem md_Program_init_55 : mz_d mb_Program_init 55 (.newarray .int) 2 57 := ⟨by decide +kernel, rfl⟩
theorem md_Program_init_57 : mz_d mb_Program_init 57 (.putfield 30) 3 60 := ⟨by decide +kernel, rfl⟩
theorem md_Program_init_60 : mz_d mb_Program_init 60 (.aload_n 0) 1 61 := ⟨by decide +kernel, rfl⟩
theorem md_Program_init_61 : mz_d mb_Program_init 61 (.bipush 10) 2 63 := ⟨by decide +kernel, rfl⟩
theorem md_Program_init_63 : mz_d mb_Program_init 63 (.newarray .int) 2 65 := ⟨by decide +kernel, rfl⟩
theorem md_Program_init_65 : mz_d mb_Program_init 65 (.putfield 33) 3 68 := ⟨by decide +kernel, rfl⟩
theorem md_Program_init_68 : mz_d mb_Program_init 68 (.aload_n 0) 1 69 := ⟨by decide +kernel, rfl⟩
theorem md_Program_init_69 : mz_d mb_Program_init 69 (.bipush 10) 2 71 := ⟨by decide +kernel, rfl⟩
theorem md_Program_init_71 : mz_d mb_Program_init 71 (.newarray .int) 2 73 := ⟨by decide +kernel, rfl⟩
theorem md_Program_init_73 : mz_d mb_Program_init 73 (.putfield 36) 3 76 := ⟨by decide +kernel, rfl⟩
theorem md_Program_init_76 : mz_d mb_Program_init 76 (.aload_n 0) 1 77 := ⟨by decide +kernel, rfl⟩
theorem md_Program_init_77 : mz_d mb_Program_init 77 (.bipush 32) 2 79 := ⟨by decide +kernel, rfl⟩
theorem md_Program_init_79 : mz_d mb_Program_init 79 (.newarray .int) 2 81 := ⟨by decide +kernel, rfl⟩
theorem md_Program_init_81 : mz_d mb_Program_init 81 (.putfield 39) 3 84 := ⟨by decide +kernel, rfl⟩
theorem md_Program_init_84 : mz_d mb_Program_init 84 (.return_) 1 85 := ⟨by decide +kernel, rfl⟩
theorem md_Flow_init_0 : mz_d mb_Flow_init 0 (.aload_n 0) 1 1 := ⟨by decide +kernel, rfl⟩
theorem md_Flow_init_1 : mz_d mb_Flow_init 1 (.invokespecial 3) 3 4 := ⟨by decide +kernel, rfl⟩
theorem md_Flow_init_4 : mz_d mb_Flow_init 4 (.aload_n 0) 1 5 := ⟨by decide +kernel, rfl⟩
theorem md_Flow_init_5 : mz_d mb_Flow_init 5 (.bipush 10) 2 7 := ⟨by decide +kernel, rfl⟩
theorem md_Flow_init_7 : mz_d mb_Flow_init 7 (.newarray .int) 2 9 := ⟨by decide +kernel, rfl⟩
theorem md_Flow_init_9 : mz_d mb_Flow_init 9 (.putfield 9) 3 12 := ⟨by decide +kernel, rfl⟩
theorem md_Flow_init_12 : mz_d mb_Flow_init 12 (.aload_n 0) 1 13 := ⟨by decide +kernel, rfl⟩
theorem md_Flow_init_13 : mz_d mb_Flow_init 13 (.bipush 10) 2 15 := ⟨by decide +kernel, rfl⟩
theorem md_Flow_init_15 : mz_d mb_Flow_init 15 (.newarray .int) 2 17 := ⟨by decide +kernel, rfl⟩
theorem md_Flow_init_17 : mz_d mb_Flow_init 17 (.putfield 15) 3 20 := ⟨by decide +kernel, rfl⟩
theorem md_Flow_init_20 : mz_d mb_Flow_init 20 (.aload_n 0) 1 21 := ⟨by decide +kernel, rfl⟩
theorem md_Flow_init_21 : mz_d mb_Flow_init 21 (.bipush 10) 2 23 := ⟨by decide +kernel, rfl⟩
theorem md_Flow_init_23 : mz_d mb_Flow_init 23 (.newarray .int) 2 25 := ⟨by decide +kernel, rfl⟩
theorem md_Flow_init_25 : mz_d mb_Flow_init 25 (.putfield 18) 3 28 := ⟨by decide +kernel, rfl⟩
theorem md_Flow_init_28 : mz_d mb_Flow_init 28 (.aload_n 0) 1 29 := ⟨by decide +kernel, rfl⟩
theorem md_Flow_init_29 : mz_d mb_Flow_init 29 (.bipush 10) 2 31 := ⟨by decide +kernel, rfl⟩
theorem md_Flow_init_31 : mz_d mb_Flow_init 31 (.newarray .int) 2 33 := ⟨by decide +kernel, rfl⟩
theorem md_Flow_init_33 : mz_d mb_Flow_init 33 (.putfield 21) 3 36 := ⟨by decide +kernel, rfl⟩
theorem md_Flow_init_36 : mz_d mb_Flow_init 36 (.aload_n 0) 1 37 := ⟨by decide +kernel, rfl⟩
theorem md_Flow_init_37 : mz_d mb_Flow_init 37 (.bipush 10) 2 39 := ⟨by decide +kernel, rfl⟩
theorem md_Flow_init_39 : mz_d mb_Flow_init 39 (.newarray .int) 2 41 := ⟨by decide +kernel, rfl⟩
theorem md_Flow_init_41 : mz_d mb_Flow_init 41 (.putfield 24) 3 44 := ⟨by decide +kernel, rfl⟩
theorem md_Flow_init_44 : mz_d mb_Flow_init 44 (.aload_n 0) 1 45 := ⟨by decide +kernel, rfl⟩
theorem md_Flow_init_45 : mz_d mb_Flow_init 45 (.bipush 10) 2 47 := ⟨by decide +kernel, rfl⟩
theorem md_Flow_init_47 : mz_d mb_Flow_init 47 (.newarray .int) 2 49 := ⟨by decide +kernel, rfl⟩
theorem md_Flow_init_49 : mz_d mb_Flow_init 49 (.putfield 27) 3 52 := ⟨by decide +kernel, rfl⟩
theorem md_Flow_init_52 : mz_d mb_Flow_init 52 (.aload_n 0) 1 53 := ⟨by decide +kernel, rfl⟩
theorem md_Flow_init_53 : mz_d mb_Flow_init 53 (.bipush 10) 2 55 := ⟨by decide +kernel, rfl⟩
theorem md_Flow_init_55 : mz_d mb_Flow_init 55 (.newarray .int) 2 57 := ⟨by decide +kernel, rfl⟩
theorem md_Flow_init_57 : mz_d mb_Flow_init 57 (.putfield 30) 3 60 := ⟨by decide +kernel, rfl⟩
theorem md_Flow_init_60 : mz_d mb_Flow_init 60 (.aload_n 0) 1 61 := ⟨by decide +kernel, rfl⟩
theorem md_Flow_init_61 : mz_d mb_Flow_init 61 (.aload_n 1) 1 62 := ⟨by decide +kernel, rfl⟩
theorem md_Flow_init_62 : mz_d mb_Flow_init 62 (.putfield 33) 3 65 := ⟨by decide +kernel, rfl⟩
theorem md_Flow_init_65 : mz_d mb_Flow_init 65 (.return_) 1 66 := ⟨by decide +kernel, rfl⟩
theorem md_Lives_init_0 : mz_d mb_Lives_init 0 (.aload_n 0) 1 1 := ⟨by decide +kernel, rfl⟩
theorem md_Lives_init_1 : mz_d mb_Lives_init 1 (.invokespecial 3) 3 4 := ⟨by decide +kernel, rfl⟩
theorem md_Lives_init_4 : mz_d mb_Lives_init 4 (.aload_n 0) 1 5 := ⟨by decide +kernel, rfl⟩
theorem md_Lives_init_5 : mz_d mb_Lives_init 5 (.bipush 10) 2 7 := ⟨by decide +kernel, rfl⟩
theorem md_Lives_init_7 : mz_d mb_Lives_init 7 (.newarray .int) 2 9 := ⟨by decide +kernel, rfl⟩
theorem md_Lives_init_9 : mz_d mb_Lives_init 9 (.putfield 9) 3 12 := ⟨by decide +kernel, rfl⟩
theorem md_Lives_init_12 : mz_d mb_Lives_init 12 (.aload_n 0) 1 13 := ⟨by decide +kernel, rfl⟩
theorem md_Lives_init_13 : mz_d mb_Lives_init 13 (.bipush 10) 2 15 := ⟨by decide +kernel, rfl⟩
theorem md_Lives_init_15 : mz_d mb_Lives_init 15 (.newarray .int) 2 17 := ⟨by decide +kernel, rfl⟩
theorem md_Lives_init_17 : mz_d mb_Lives_init 17 (.putfield 15) 3 20 := ⟨by decide +kernel, rfl⟩
theorem md_Lives_init_20 : mz_d mb_Lives_init 20 (.aload_n 0) 1 21 := ⟨by decide +kernel, rfl⟩
theorem md_Lives_init_21 : mz_d mb_Lives_init 21 (.bipush 10) 2 23 := ⟨by decide +kernel, rfl⟩
theorem md_Lives_init_23 : mz_d mb_Lives_init 23 (.newarray .int) 2 25 := ⟨by decide +kernel, rfl⟩
theorem md_Lives_init_25 : mz_d mb_Lives_init 25 (.putfield 18) 3 28 := ⟨by decide +kernel, rfl⟩
theorem md_Lives_init_28 : mz_d mb_Lives_init 28 (.aload_n 0) 1 29 := ⟨by decide +kernel, rfl⟩
theorem md_Lives_init_29 : mz_d mb_Lives_init 29 (.bipush 10) 2 31 := ⟨by decide +kernel, rfl⟩
theorem md_Lives_init_31 : mz_d mb_Lives_init 31 (.newarray .int) 2 33 := ⟨by decide +kernel, rfl⟩
theorem md_Lives_init_33 : mz_d mb_Lives_init 33 (.putfield 21) 3 36 := ⟨by decide +kernel, rfl⟩
theorem md_Lives_init_36 : mz_d mb_Lives_init 36 (.aload_n 0) 1 37 := ⟨by decide +kernel, rfl⟩
theorem md_Lives_init_37 : mz_d mb_Lives_init 37 (.aload_n 1) 1 38 := ⟨by decide +kernel, rfl⟩
theorem md_Lives_init_38 : mz_d mb_Lives_init 38 (.putfield 24) 3 41 := ⟨by decide +kernel, rfl⟩
theorem md_Lives_init_41 : mz_d mb_Lives_init 41 (.aload_n 0) 1 42 := ⟨by decide +kernel, rfl⟩
theorem md_Lives_init_42 : mz_d mb_Lives_init 42 (.aload_n 2) 1 43 := ⟨by decide +kernel, rfl⟩
theorem md_Lives_init_43 : mz_d mb_Lives_init 43 (.putfield 28) 3 46 := ⟨by decide +kernel, rfl⟩
theorem md_Lives_init_46 : mz_d mb_Lives_init 46 (.return_) 1 47 := ⟨by decide +kernel, rfl⟩
theorem md_Names_init_0 : mz_d mb_Names_init 0 (.aload_n 0) 1 1 := ⟨by decide +kernel, rfl⟩
theorem md_Names_init_1 : mz_d mb_Names_init 1 (.invokespecial 3) 3 4 := ⟨by decide +kernel, rfl⟩
theorem md_Names_init_4 : mz_d mb_Names_init 4 (.aload_n 0) 1 5 := ⟨by decide +kernel, rfl⟩
theorem md_Names_init_5 : mz_d mb_Names_init 5 (.bipush 120) 2 7 := ⟨by decide +kernel, rfl⟩
theorem md_Names_init_7 : mz_d mb_Names_init 7 (.newarray .int) 2 9 := ⟨by decide +kernel, rfl⟩
theorem md_Names_init_9 : mz_d mb_Names_init 9 (.putfield 9) 3 12 := ⟨by decide +kernel, rfl⟩
theorem md_Names_init_12 : mz_d mb_Names_init 12 (.aload_n 0) 1 13 := ⟨by decide +kernel, rfl⟩
theorem md_Names_init_13 : mz_d mb_Names_init 13 (.bipush 120) 2 15 := ⟨by decide +kernel, rfl⟩
theorem md_Names_init_15 : mz_d mb_Names_init 15 (.newarray .int) 2 17 := ⟨by decide +kernel, rfl⟩
theorem md_Names_init_17 : mz_d mb_Names_init 17 (.putfield 15) 3 20 := ⟨by decide +kernel, rfl⟩
theorem md_Names_init_20 : mz_d mb_Names_init 20 (.aload_n 0) 1 21 := ⟨by decide +kernel, rfl⟩
theorem md_Names_init_21 : mz_d mb_Names_init 21 (.bipush 10) 2 23 := ⟨by decide +kernel, rfl⟩
theorem md_Names_init_23 : mz_d mb_Names_init 23 (.newarray .int) 2 25 := ⟨by decide +kernel, rfl⟩
theorem md_Names_init_25 : mz_d mb_Names_init 25 (.putfield 18) 3 28 := ⟨by decide +kernel, rfl⟩
theorem md_Names_init_28 : mz_d mb_Names_init 28 (.aload_n 0) 1 29 := ⟨by decide +kernel, rfl⟩
theorem md_Names_init_29 : mz_d mb_Names_init 29 (.bipush 100) 2 31 := ⟨by decide +kernel, rfl⟩
theorem md_Names_init_31 : mz_d mb_Names_init 31 (.newarray .int) 2 33 := ⟨by decide +kernel, rfl⟩
theorem md_Names_init_33 : mz_d mb_Names_init 33 (.putfield 21) 3 36 := ⟨by decide +kernel, rfl⟩
theorem md_Names_init_36 : mz_d mb_Names_init 36 (.aload_n 0) 1 37 := ⟨by decide +kernel, rfl⟩
theorem md_Names_init_37 : mz_d mb_Names_init 37 (.aload_n 1) 1 38 := ⟨by decide +kernel, rfl⟩
theorem md_Names_init_38 : mz_d mb_Names_init 38 (.putfield 24) 3 41 := ⟨by decide +kernel, rfl⟩
theorem md_Names_init_41 : mz_d mb_Names_init 41 (.aload_n 0) 1 42 := ⟨by decide +kernel, rfl⟩
theorem md_Names_init_42 : mz_d mb_Names_init 42 (.aload_n 2) 1 43 := ⟨by decide +kernel, rfl⟩
theorem md_Names_init_43 : mz_d mb_Names_init 43 (.putfield 28) 3 46 := ⟨by decide +kernel, rfl⟩
theorem md_Names_init_46 : mz_d mb_Names_init 46 (.aload_n 0) 1 47 := ⟨by decide +kernel, rfl⟩
theorem md_Names_init_47 : mz_d mb_Names_init 47 (.aload_n 3) 1 48 := ⟨by decide +kernel, rfl⟩
theorem md_Names_init_48 : mz_d mb_Names_init 48 (.putfield 32) 3 51 := ⟨by decide +kernel, rfl⟩
theorem md_Names_init_51 : mz_d mb_Names_init 51 (.return_) 1 52 := ⟨by decide +kernel, rfl⟩
theorem md_Stands_init_0 : mz_d mb_Stands_init 0 (.aload_n 0) 1 1 := ⟨by decide +kernel, rfl⟩
theorem md_Stands_init_1 : mz_d mb_Stands_init 1 (.invokespecial 3) 3 4 := ⟨by decide +kernel, rfl⟩
theorem md_Stands_init_4 : mz_d mb_Stands_init 4 (.aload_n 0) 1 5 := ⟨by decide +kernel, rfl⟩
theorem md_Stands_init_5 : mz_d mb_Stands_init 5 (.sipush 221) 3 8 := ⟨by decide +kernel, rfl⟩
theorem md_Stands_init_8 : mz_d mb_Stands_init 8 (.newarray .int) 2 10 := ⟨by decide +kernel, rfl⟩
theorem md_Stands_init_10 : mz_d mb_Stands_init 10 (.putfield 9) 3 13 := ⟨by decide +kernel, rfl⟩
theorem md_Stands_init_13 : mz_d mb_Stands_init 13 (.aload_n 0) 1 14 := ⟨by decide +kernel, rfl⟩
theorem md_Stands_init_14 : mz_d mb_Stands_init 14 (.sipush 221) 3 17 := ⟨by decide +kernel, rfl⟩
theorem md_Stands_init_17 : mz_d mb_Stands_init 17 (.newarray .int) 2 19 := ⟨by decide +kernel, rfl⟩
theorem md_Stands_init_19 : mz_d mb_Stands_init 19 (.putfield 15) 3 22 := ⟨by decide +kernel, rfl⟩
theorem md_Stands_init_22 : mz_d mb_Stands_init 22 (.aload_n 0) 1 23 := ⟨by decide +kernel, rfl⟩
theorem md_Stands_init_23 : mz_d mb_Stands_init 23 (.bipush 10) 2 25 := ⟨by decide +kernel, rfl⟩
theorem md_Stands_init_25 : mz_d mb_Stands_init 25 (.newarray .int) 2 27 := ⟨by decide +kernel, rfl⟩
theorem md_Stands_init_27 : mz_d mb_Stands_init 27 (.putfield 18) 3 30 := ⟨by decide +kernel, rfl⟩
theorem md_Stands_init_30 : mz_d mb_Stands_init 30 (.aload_n 0) 1 31 := ⟨by decide +kernel, rfl⟩
theorem md_Stands_init_31 : mz_d mb_Stands_init 31 (.aload_n 1) 1 32 := ⟨by decide +kernel, rfl⟩
theorem md_Stands_init_32 : mz_d mb_Stands_init 32 (.putfield 21) 3 35 := ⟨by decide +kernel, rfl⟩
theorem md_Stands_init_35 : mz_d mb_Stands_init 35 (.aload_n 0) 1 36 := ⟨by decide +kernel, rfl⟩
theorem md_Stands_init_36 : mz_d mb_Stands_init 36 (.aload_n 2) 1 37 := ⟨by decide +kernel, rfl⟩
theorem md_Stands_init_37 : mz_d mb_Stands_init 37 (.putfield 25) 3 40 := ⟨by decide +kernel, rfl⟩
theorem md_Stands_init_40 : mz_d mb_Stands_init 40 (.aload_n 0) 1 41 := ⟨by decide +kernel, rfl⟩
theorem md_Stands_init_41 : mz_d mb_Stands_init 41 (.aload_n 3) 1 42 := ⟨by decide +kernel, rfl⟩
theorem md_Stands_init_42 : mz_d mb_Stands_init 42 (.putfield 29) 3 45 := ⟨by decide +kernel, rfl⟩
theorem md_Stands_init_45 : mz_d mb_Stands_init 45 (.aload_n 0) 1 46 := ⟨by decide +kernel, rfl⟩
theorem md_Stands_init_46 : mz_d mb_Stands_init 46 (.aload 4) 2 48 := ⟨by decide +kernel, rfl⟩
theorem md_Stands_init_48 : mz_d mb_Stands_init 48 (.putfield 33) 3 51 := ⟨by decide +kernel, rfl⟩
theorem md_Stands_init_51 : mz_d mb_Stands_init 51 (.return_) 1 52 := ⟨by decide +kernel, rfl⟩
theorem md_Homes_init_0 : mz_d mb_Homes_init 0 (.aload_n 0) 1 1 := ⟨by decide +kernel, rfl⟩
theorem md_Homes_init_1 : mz_d mb_Homes_init 1 (.invokespecial 3) 3 4 := ⟨by decide +kernel, rfl⟩
theorem md_Homes_init_4 : mz_d mb_Homes_init 4 (.aload_n 0) 1 5 := ⟨by decide +kernel, rfl⟩
theorem md_Homes_init_5 : mz_d mb_Homes_init 5 (.sipush 221) 3 8 := ⟨by decide +kernel, rfl⟩
theorem md_Homes_init_8 : mz_d mb_Homes_init 8 (.newarray .int) 2 10 := ⟨by decide +kernel, rfl⟩
theorem md_Homes_init_10 : mz_d mb_Homes_init 10 (.putfield 9) 3 13 := ⟨by decide +kernel, rfl⟩
theorem md_Homes_init_13 : mz_d mb_Homes_init 13 (.aload_n 0) 1 14 := ⟨by decide +kernel, rfl⟩
theorem md_Homes_init_14 : mz_d mb_Homes_init 14 (.sipush 221) 3 17 := ⟨by decide +kernel, rfl⟩
theorem md_Homes_init_17 : mz_d mb_Homes_init 17 (.newarray .long) 2 19 := ⟨by decide +kernel, rfl⟩
theorem md_Homes_init_19 : mz_d mb_Homes_init 19 (.putfield 15) 3 22 := ⟨by decide +kernel, rfl⟩
theorem md_Homes_init_22 : mz_d mb_Homes_init 22 (.aload_n 0) 1 23 := ⟨by decide +kernel, rfl⟩
theorem md_Homes_init_23 : mz_d mb_Homes_init 23 (.bipush 10) 2 25 := ⟨by decide +kernel, rfl⟩
theorem md_Homes_init_25 : mz_d mb_Homes_init 25 (.newarray .int) 2 27 := ⟨by decide +kernel, rfl⟩
theorem md_Homes_init_27 : mz_d mb_Homes_init 27 (.putfield 19) 3 30 := ⟨by decide +kernel, rfl⟩
theorem md_Homes_init_30 : mz_d mb_Homes_init 30 (.aload_n 0) 1 31 := ⟨by decide +kernel, rfl⟩
theorem md_Homes_init_31 : mz_d mb_Homes_init 31 (.bipush 8) 2 33 := ⟨by decide +kernel, rfl⟩
theorem md_Homes_init_33 : mz_d mb_Homes_init 33 (.newarray .int) 2 35 := ⟨by decide +kernel, rfl⟩
theorem md_Homes_init_35 : mz_d mb_Homes_init 35 (.putfield 22) 3 38 := ⟨by decide +kernel, rfl⟩
theorem md_Homes_init_38 : mz_d mb_Homes_init 38 (.aload_n 0) 1 39 := ⟨by decide +kernel, rfl⟩
theorem md_Homes_init_39 : mz_d mb_Homes_init 39 (.bipush 12) 2 41 := ⟨by decide +kernel, rfl⟩
theorem md_Homes_init_41 : mz_d mb_Homes_init 41 (.newarray .int) 2 43 := ⟨by decide +kernel, rfl⟩
theorem md_Homes_init_43 : mz_d mb_Homes_init 43 (.putfield 25) 3 46 := ⟨by decide +kernel, rfl⟩
theorem md_Homes_init_46 : mz_d mb_Homes_init 46 (.aload_n 0) 1 47 := ⟨by decide +kernel, rfl⟩
theorem md_Homes_init_47 : mz_d mb_Homes_init 47 (.aload_n 1) 1 48 := ⟨by decide +kernel, rfl⟩
theorem md_Homes_init_48 : mz_d mb_Homes_init 48 (.putfield 28) 3 51 := ⟨by decide +kernel, rfl⟩
theorem md_Homes_init_51 : mz_d mb_Homes_init 51 (.aload_n 0) 1 52 := ⟨by decide +kernel, rfl⟩
theorem md_Homes_init_52 : mz_d mb_Homes_init 52 (.aload_n 2) 1 53 := ⟨by decide +kernel, rfl⟩
theorem md_Homes_init_53 : mz_d mb_Homes_init 53 (.putfield 32) 3 56 := ⟨by decide +kernel, rfl⟩
theorem md_Homes_init_56 : mz_d mb_Homes_init 56 (.aload_n 0) 1 57 := ⟨by decide +kernel, rfl⟩
theorem md_Homes_init_57 : mz_d mb_Homes_init 57 (.aload_n 3) 1 58 := ⟨by decide +kernel, rfl⟩
theorem md_Homes_init_58 : mz_d mb_Homes_init 58 (.putfield 36) 3 61 := ⟨by decide +kernel, rfl⟩
theorem md_Homes_init_61 : mz_d mb_Homes_init 61 (.aload_n 0) 1 62 := ⟨by decide +kernel, rfl⟩
theorem md_Homes_init_62 : mz_d mb_Homes_init 62 (.aload 4) 2 64 := ⟨by decide +kernel, rfl⟩
theorem md_Homes_init_64 : mz_d mb_Homes_init 64 (.putfield 40) 3 67 := ⟨by decide +kernel, rfl⟩
theorem md_Homes_init_67 : mz_d mb_Homes_init 67 (.aload_n 0) 1 68 := ⟨by decide +kernel, rfl⟩
theorem md_Homes_init_68 : mz_d mb_Homes_init 68 (.aload 5) 2 70 := ⟨by decide +kernel, rfl⟩
theorem md_Homes_init_70 : mz_d mb_Homes_init 70 (.putfield 44) 3 73 := ⟨by decide +kernel, rfl⟩
theorem md_Homes_init_73 : mz_d mb_Homes_init 73 (.return_) 1 74 := ⟨by decide +kernel, rfl⟩
theorem md_Code_init_0 : mz_d mb_Code_init 0 (.aload_n 0) 1 1 := ⟨by decide +kernel, rfl⟩
theorem md_Code_init_1 : mz_d mb_Code_init 1 (.invokespecial 3) 3 4 := ⟨by decide +kernel, rfl⟩
theorem md_Code_init_4 : mz_d mb_Code_init 4 (.aload_n 0) 1 5 := ⟨by decide +kernel, rfl⟩
theorem md_Code_init_5 : mz_d mb_Code_init 5 (.bipush 30) 2 7 := ⟨by decide +kernel, rfl⟩
theorem md_Code_init_7 : mz_d mb_Code_init 7 (.newarray .int) 2 9 := ⟨by decide +kernel, rfl⟩
theorem md_Code_init_9 : mz_d mb_Code_init 9 (.putfield 9) 3 12 := ⟨by decide +kernel, rfl⟩
theorem md_Code_init_12 : mz_d mb_Code_init 12 (.aload_n 0) 1 13 := ⟨by decide +kernel, rfl⟩
theorem md_Code_init_13 : mz_d mb_Code_init 13 (.bipush 30) 2 15 := ⟨by decide +kernel, rfl⟩
theorem md_Code_init_15 : mz_d mb_Code_init 15 (.newarray .int) 2 17 := ⟨by decide +kernel, rfl⟩
theorem md_Code_init_17 : mz_d mb_Code_init 17 (.putfield 15) 3 20 := ⟨by decide +kernel, rfl⟩
theorem md_Code_init_20 : mz_d mb_Code_init 20 (.aload_n 0) 1 21 := ⟨by decide +kernel, rfl⟩
theorem md_Code_init_21 : mz_d mb_Code_init 21 (.sipush 1090) 3 24 := ⟨by decide +kernel, rfl⟩
theorem md_Code_init_24 : mz_d mb_Code_init 24 (.newarray .int) 2 26 := ⟨by decide +kernel, rfl⟩
theorem md_Code_init_26 : mz_d mb_Code_init 26 (.putfield 18) 3 29 := ⟨by decide +kernel, rfl⟩
theorem md_Code_init_29 : mz_d mb_Code_init 29 (.aload_n 0) 1 30 := ⟨by decide +kernel, rfl⟩
theorem md_Code_init_30 : mz_d mb_Code_init 30 (.sipush 1090) 3 33 := ⟨by decide +kernel, rfl⟩
theorem md_Code_init_33 : mz_d mb_Code_init 33 (.newarray .int) 2 35 := ⟨by decide +kernel, rfl⟩
theorem md_Code_init_35 : mz_d mb_Code_init 35 (.putfield 21) 3 38 := ⟨by decide +kernel, rfl⟩
theorem md_Code_init_38 : mz_d mb_Code_init 38 (.aload_n 0) 1 39 := ⟨by decide +kernel, rfl⟩
theorem md_Code_init_39 : mz_d mb_Code_init 39 (.sipush 1090) 3 42 := ⟨by decide +kernel, rfl⟩
theorem md_Code_init_42 : mz_d mb_Code_init 42 (.newarray .int) 2 44 := ⟨by decide +kernel, rfl⟩
theorem md_Code_init_44 : mz_d mb_Code_init 44 (.putfield 24) 3 47 := ⟨by decide +kernel, rfl⟩
theorem md_Code_init_47 : mz_d mb_Code_init 47 (.aload_n 0) 1 48 := ⟨by decide +kernel, rfl⟩
theorem md_Code_init_48 : mz_d mb_Code_init 48 (.sipush 1090) 3 51 := ⟨by decide +kernel, rfl⟩
theorem md_Code_init_51 : mz_d mb_Code_init 51 (.newarray .int) 2 53 := ⟨by decide +kernel, rfl⟩
theorem md_Code_init_53 : mz_d mb_Code_init 53 (.putfield 27) 3 56 := ⟨by decide +kernel, rfl⟩
theorem md_Code_init_56 : mz_d mb_Code_init 56 (.aload_n 0) 1 57 := ⟨by decide +kernel, rfl⟩
theorem md_Code_init_57 : mz_d mb_Code_init 57 (.sipush 1090) 3 60 := ⟨by decide +kernel, rfl⟩
theorem md_Code_init_60 : mz_d mb_Code_init 60 (.newarray .int) 2 62 := ⟨by decide +kernel, rfl⟩
theorem md_Code_init_62 : mz_d mb_Code_init 62 (.putfield 30) 3 65 := ⟨by decide +kernel, rfl⟩
theorem md_Code_init_65 : mz_d mb_Code_init 65 (.aload_n 0) 1 66 := ⟨by decide +kernel, rfl⟩
theorem md_Code_init_66 : mz_d mb_Code_init 66 (.bipush 10) 2 68 := ⟨by decide +kernel, rfl⟩
theorem md_Code_init_68 : mz_d mb_Code_init 68 (.newarray .int) 2 70 := ⟨by decide +kernel, rfl⟩
theorem md_Code_init_70 : mz_d mb_Code_init 70 (.putfield 33) 3 73 := ⟨by decide +kernel, rfl⟩
theorem md_Code_init_73 : mz_d mb_Code_init 73 (.aload_n 0) 1 74 := ⟨by decide +kernel, rfl⟩
theorem md_Code_init_74 : mz_d mb_Code_init 74 (.bipush 10) 2 76 := ⟨by decide +kernel, rfl⟩
theorem md_Code_init_76 : mz_d mb_Code_init 76 (.newarray .boolean) 2 78 := ⟨by decide +kernel, rfl⟩
theorem md_Code_init_78 : mz_d mb_Code_init 78 (.putfield 36) 3 81 := ⟨by decide +kernel, rfl⟩
theorem md_Code_init_81 : mz_d mb_Code_init 81 (.return_) 1 82 := ⟨by decide +kernel, rfl⟩
theorem md_Moves_init_0 : mz_d mb_Moves_init 0 (.aload_n 0) 1 1 := ⟨by decide +kernel, rfl⟩
theorem md_Moves_init_1 : mz_d mb_Moves_init 1 (.invokespecial 3) 3 4 := ⟨by decide +kernel, rfl⟩
theorem md_Moves_init_4 : mz_d mb_Moves_init 4 (.aload_n 0) 1 5 := ⟨by decide +kernel, rfl⟩
theorem md_Moves_init_5 : mz_d mb_Moves_init 5 (.bipush 10) 2 7 := ⟨by decide +kernel, rfl⟩
theorem md_Moves_init_7 : mz_d mb_Moves_init 7 (.newarray .int) 2 9 := ⟨by decide +kernel, rfl⟩
theorem md_Moves_init_9 : mz_d mb_Moves_init 9 (.putfield 9) 3 12 := ⟨by decide +kernel, rfl⟩
theorem md_Moves_init_12 : mz_d mb_Moves_init 12 (.aload_n 0) 1 13 := ⟨by decide +kernel, rfl⟩
theorem md_Moves_init_13 : mz_d mb_Moves_init 13 (.bipush 10) 2 15 := ⟨by decide +kernel, rfl⟩
theorem md_Moves_init_15 : mz_d mb_Moves_init 15 (.newarray .int) 2 17 := ⟨by decide +kernel, rfl⟩
theorem md_Moves_init_17 : mz_d mb_Moves_init 17 (.putfield 15) 3 20 := ⟨by decide +kernel, rfl⟩
theorem md_Moves_init_20 : mz_d mb_Moves_init 20 (.aload_n 0) 1 21 := ⟨by decide +kernel, rfl⟩
theorem md_Moves_init_21 : mz_d mb_Moves_init 21 (.bipush 10) 2 23 := ⟨by decide +kernel, rfl⟩
theorem md_Moves_init_23 : mz_d mb_Moves_init 23 (.newarray .boolean) 2 25 := ⟨by decide +kernel, rfl⟩
theorem md_Moves_init_25 : mz_d mb_Moves_init 25 (.putfield 18) 3 28 := ⟨by decide +kernel, rfl⟩
theorem md_Moves_init_28 : mz_d mb_Moves_init 28 (.aload_n 0) 1 29 := ⟨by decide +kernel, rfl⟩
theorem md_Moves_init_29 : mz_d mb_Moves_init 29 (.aload_n 1) 1 30 := ⟨by decide +kernel, rfl⟩
theorem md_Moves_init_30 : mz_d mb_Moves_init 30 (.putfield 22) 3 33 := ⟨by decide +kernel, rfl⟩
theorem md_Moves_init_33 : mz_d mb_Moves_init 33 (.aload_n 0) 1 34 := ⟨by decide +kernel, rfl⟩
theorem md_Moves_init_34 : mz_d mb_Moves_init 34 (.aload_n 2) 1 35 := ⟨by decide +kernel, rfl⟩
theorem md_Moves_init_35 : mz_d mb_Moves_init 35 (.putfield 26) 3 38 := ⟨by decide +kernel, rfl⟩
theorem md_Moves_init_38 : mz_d mb_Moves_init 38 (.return_) 1 39 := ⟨by decide +kernel, rfl⟩
theorem md_Writer_init_0 : mz_d mb_Writer_init 0 (.aload_n 0) 1 1 := ⟨by decide +kernel, rfl⟩
theorem md_Writer_init_1 : mz_d mb_Writer_init 1 (.invokespecial 3) 3 4 := ⟨by decide +kernel, rfl⟩
theorem md_Writer_init_4 : mz_d mb_Writer_init 4 (.aload_n 0) 1 5 := ⟨by decide +kernel, rfl⟩
theorem md_Writer_init_5 : mz_d mb_Writer_init 5 (.aload_n 1) 1 6 := ⟨by decide +kernel, rfl⟩
theorem md_Writer_init_6 : mz_d mb_Writer_init 6 (.putfield 9) 3 9 := ⟨by decide +kernel, rfl⟩
theorem md_Writer_init_9 : mz_d mb_Writer_init 9 (.aload_n 0) 1 10 := ⟨by decide +kernel, rfl⟩
theorem md_Writer_init_10 : mz_d mb_Writer_init 10 (.aload_n 2) 1 11 := ⟨by decide +kernel, rfl⟩
theorem md_Writer_init_11 : mz_d mb_Writer_init 11 (.putfield 15) 3 14 := ⟨by decide +kernel, rfl⟩
theorem md_Writer_init_14 : mz_d mb_Writer_init 14 (.aload_n 0) 1 15 := ⟨by decide +kernel, rfl⟩
theorem md_Writer_init_15 : mz_d mb_Writer_init 15 (.aload_n 3) 1 16 := ⟨by decide +kernel, rfl⟩
theorem md_Writer_init_16 : mz_d mb_Writer_init 16 (.putfield 19) 3 19 := ⟨by decide +kernel, rfl⟩
theorem md_Writer_init_19 : mz_d mb_Writer_init 19 (.aload_n 0) 1 20 := ⟨by decide +kernel, rfl⟩
theorem md_Writer_init_20 : mz_d mb_Writer_init 20 (.aload 4) 2 22 := ⟨by decide +kernel, rfl⟩
theorem md_Writer_init_22 : mz_d mb_Writer_init 22 (.putfield 23) 3 25 := ⟨by decide +kernel, rfl⟩
theorem md_Writer_init_25 : mz_d mb_Writer_init 25 (.aload_n 0) 1 26 := ⟨by decide +kernel, rfl⟩
theorem md_Writer_init_26 : mz_d mb_Writer_init 26 (.aload 5) 2 28 := ⟨by decide +kernel, rfl⟩
theorem md_Writer_init_28 : mz_d mb_Writer_init 28 (.putfield 27) 3 31 := ⟨by decide +kernel, rfl⟩
theorem md_Writer_init_31 : mz_d mb_Writer_init 31 (.aload_n 0) 1 32 := ⟨by decide +kernel, rfl⟩
theorem md_Writer_init_32 : mz_d mb_Writer_init 32 (.aload 6) 2 34 := ⟨by decide +kernel, rfl⟩
theorem md_Writer_init_34 : mz_d mb_Writer_init 34 (.putfield 31) 3 37 := ⟨by decide +kernel, rfl⟩
theorem md_Writer_init_37 : mz_d mb_Writer_init 37 (.aload_n 0) 1 38 := ⟨by decide +kernel, rfl⟩
theorem md_Writer_init_38 : mz_d mb_Writer_init 38 (.new 35) 3 41 := ⟨by decide +kernel, rfl⟩
theorem md_Writer_init_41 : mz_d mb_Writer_init 41 (.dup) 1 42 := ⟨by decide +kernel, rfl⟩
theorem md_Writer_init_42 : mz_d mb_Writer_init 42 (.aload 5) 2 44 := ⟨by decide +kernel, rfl⟩
theorem md_Writer_init_44 : mz_d mb_Writer_init 44 (.aload 6) 2 46 := ⟨by decide +kernel, rfl⟩
theorem md_Writer_init_46 : mz_d mb_Writer_init 46 (.invokespecial 37) 3 49 := ⟨by decide +kernel, rfl⟩
theorem md_Writer_init_49 : mz_d mb_Writer_init 49 (.putfield 40) 3 52 := ⟨by decide +kernel, rfl⟩
theorem md_Writer_init_52 : mz_d mb_Writer_init 52 (.return_) 1 53 := ⟨by decide +kernel, rfl⟩
theorem md_Machine_init_0 : mz_d mb_Machine_init 0 (.aload_n 0) 1 1 := ⟨by decide +kernel, rfl⟩
theorem md_Machine_init_1 : mz_d mb_Machine_init 1 (.invokespecial 3) 3 4 := ⟨by decide +kernel, rfl⟩
theorem md_Machine_init_4 : mz_d mb_Machine_init 4 (.aload_n 0) 1 5 := ⟨by decide +kernel, rfl⟩
theorem md_Machine_init_5 : mz_d mb_Machine_init 5 (.sipush 230) 3 8 := ⟨by decide +kernel, rfl⟩
theorem md_Machine_init_8 : mz_d mb_Machine_init 8 (.newarray .int) 2 10 := ⟨by decide +kernel, rfl⟩
theorem md_Machine_init_10 : mz_d mb_Machine_init 10 (.putfield 9) 3 13 := ⟨by decide +kernel, rfl⟩
theorem md_Machine_init_13 : mz_d mb_Machine_init 13 (.aload_n 0) 1 14 := ⟨by decide +kernel, rfl⟩
theorem md_Machine_init_14 : mz_d mb_Machine_init 14 (.bipush 32) 2 16 := ⟨by decide +kernel, rfl⟩
theorem md_Machine_init_16 : mz_d mb_Machine_init 16 (.newarray .int) 2 18 := ⟨by decide +kernel, rfl⟩
theorem md_Machine_init_18 : mz_d mb_Machine_init 18 (.putfield 15) 3 21 := ⟨by decide +kernel, rfl⟩
theorem md_Machine_init_21 : mz_d mb_Machine_init 21 (.aload_n 0) 1 22 := ⟨by decide +kernel, rfl⟩
theorem md_Machine_init_22 : mz_d mb_Machine_init 22 (.sipush 600) 3 25 := ⟨by decide +kernel, rfl⟩
theorem md_Machine_init_25 : mz_d mb_Machine_init 25 (.newarray .int) 2 27 := ⟨by decide +kernel, rfl⟩
theorem md_Machine_init_27 : mz_d mb_Machine_init 27 (.putfield 18) 3 30 := ⟨by decide +kernel, rfl⟩
theorem md_Machine_init_30 : mz_d mb_Machine_init 30 (.return_) 1 31 := ⟨by decide +kernel, rfl⟩
theorem md_Mill_init_0 : mz_d mb_Mill_init 0 (.aload_n 0) 1 1 := ⟨by decide +kernel, rfl⟩
theorem md_Mill_init_1 : mz_d mb_Mill_init 1 (.invokespecial 3) 3 4 := ⟨by decide +kernel, rfl⟩
theorem md_Mill_init_4 : mz_d mb_Mill_init 4 (.aload_n 0) 1 5 := ⟨by decide +kernel, rfl⟩
theorem md_Mill_init_5 : mz_d mb_Mill_init 5 (.new 9) 3 8 := ⟨by decide +kernel, rfl⟩
theorem md_Mill_init_8 : mz_d mb_Mill_init 8 (.dup) 1 9 := ⟨by decide +kernel, rfl⟩
theorem md_Mill_init_9 : mz_d mb_Mill_init 9 (.invokespecial 11) 3 12 := ⟨by decide +kernel, rfl⟩
theorem md_Mill_init_12 : mz_d mb_Mill_init 12 (.putfield 12) 3 15 := ⟨by decide +kernel, rfl⟩
theorem md_Mill_init_15 : mz_d mb_Mill_init 15 (.aload_n 0) 1 16 := ⟨by decide +kernel, rfl⟩
theorem md_Mill_init_16 : mz_d mb_Mill_init 16 (.new 16) 3 19 := ⟨by decide +kernel, rfl⟩
theorem md_Mill_init_19 : mz_d mb_Mill_init 19 (.dup) 1 20 := ⟨by decide +kernel, rfl⟩
theorem md_Mill_init_20 : mz_d mb_Mill_init 20 (.aload_n 0) 1 21 := ⟨by decide +kernel, rfl⟩
theorem md_Mill_init_21 : mz_d mb_Mill_init 21 (.getfield 12) 3 24 := ⟨by decide +kernel, rfl⟩
theorem md_Mill_init_24 : mz_d mb_Mill_init 24 (.invokespecial 18) 3 27 := ⟨by decide +kernel, rfl⟩
theorem md_Mill_init_27 : mz_d mb_Mill_init 27 (.putfield 21) 3 30 := ⟨by decide +kernel, rfl⟩
theorem md_Mill_init_30 : mz_d mb_Mill_init 30 (.aload_n 0) 1 31 := ⟨by decide +kernel, rfl⟩
theorem md_Mill_init_31 : mz_d mb_Mill_init 31 (.new 25) 3 34 := ⟨by decide +kernel, rfl⟩
theorem md_Mill_init_34 : mz_d mb_Mill_init 34 (.dup) 1 35 := ⟨by decide +kernel, rfl⟩
theorem md_Mill_init_35 : mz_d mb_Mill_init 35 (.aload_n 0) 1 36 := ⟨by decide +kernel, rfl⟩
theorem md_Mill_init_36 : mz_d mb_Mill_init 36 (.getfield 12) 3 39 := ⟨by decide +kernel, rfl⟩
theorem md_Mill_init_39 : mz_d mb_Mill_init 39 (.aload_n 0) 1 40 := ⟨by decide +kernel, rfl⟩
theorem md_Mill_init_40 : mz_d mb_Mill_init 40 (.getfield 21) 3 43 := ⟨by decide +kernel, rfl⟩
theorem md_Mill_init_43 : mz_d mb_Mill_init 43 (.invokespecial 27) 3 46 := ⟨by decide +kernel, rfl⟩
theorem md_Mill_init_46 : mz_d mb_Mill_init 46 (.putfield 30) 3 49 := ⟨by decide +kernel, rfl⟩
theorem md_Mill_init_49 : mz_d mb_Mill_init 49 (.aload_n 0) 1 50 := ⟨by decide +kernel, rfl⟩
theorem md_Mill_init_50 : mz_d mb_Mill_init 50 (.new 34) 3 53 := ⟨by decide +kernel, rfl⟩
theorem md_Mill_init_53 : mz_d mb_Mill_init 53 (.dup) 1 54 := ⟨by decide +kernel, rfl⟩
theorem md_Mill_init_54 : mz_d mb_Mill_init 54 (.aload_n 0) 1 55 := ⟨by decide +kernel, rfl⟩
theorem md_Mill_init_55 : mz_d mb_Mill_init 55 (.getfield 12) 3 58 := ⟨by decide +kernel, rfl⟩
theorem md_Mill_init_58 : mz_d mb_Mill_init 58 (.aload_n 0) 1 59 := ⟨by decide +kernel, rfl⟩
theorem md_Mill_init_59 : mz_d mb_Mill_init 59 (.getfield 21) 3 62 := ⟨by decide +kernel, rfl⟩
theorem md_Mill_init_62 : mz_d mb_Mill_init 62 (.aload_n 0) 1 63 := ⟨by decide +kernel, rfl⟩
theorem md_Mill_init_63 : mz_d mb_Mill_init 63 (.getfield 30) 3 66 := ⟨by decide +kernel, rfl⟩
theorem md_Mill_init_66 : mz_d mb_Mill_init 66 (.invokespecial 36) 3 69 := ⟨by decide +kernel, rfl⟩
theorem md_Mill_init_69 : mz_d mb_Mill_init 69 (.putfield 39) 3 72 := ⟨by decide +kernel, rfl⟩
theorem md_Mill_init_72 : mz_d mb_Mill_init 72 (.aload_n 0) 1 73 := ⟨by decide +kernel, rfl⟩
theorem md_Mill_init_73 : mz_d mb_Mill_init 73 (.new 43) 3 76 := ⟨by decide +kernel, rfl⟩
theorem md_Mill_init_76 : mz_d mb_Mill_init 76 (.dup) 1 77 := ⟨by decide +kernel, rfl⟩
theorem md_Mill_init_77 : mz_d mb_Mill_init 77 (.aload_n 0) 1 78 := ⟨by decide +kernel, rfl⟩
theorem md_Mill_init_78 : mz_d mb_Mill_init 78 (.getfield 12) 3 81 := ⟨by decide +kernel, rfl⟩
theorem md_Mill_init_81 : mz_d mb_Mill_init 81 (.aload_n 0) 1 82 := ⟨by decide +kernel, rfl⟩
theorem md_Mill_init_82 : mz_d mb_Mill_init 82 (.getfield 21) 3 85 := ⟨by decide +kernel, rfl⟩
theorem md_Mill_init_85 : mz_d mb_Mill_init 85 (.aload_n 0) 1 86 := ⟨by decide +kernel, rfl⟩
theorem md_Mill_init_86 : mz_d mb_Mill_init 86 (.getfield 30) 3 89 := ⟨by decide +kernel, rfl⟩
theorem md_Mill_init_89 : mz_d mb_Mill_init 89 (.aload_n 0) 1 90 := ⟨by decide +kernel, rfl⟩
theorem md_Mill_init_90 : mz_d mb_Mill_init 90 (.getfield 39) 3 93 := ⟨by decide +kernel, rfl⟩
theorem md_Mill_init_93 : mz_d mb_Mill_init 93 (.invokespecial 45) 3 96 := ⟨by decide +kernel, rfl⟩
theorem md_Mill_init_96 : mz_d mb_Mill_init 96 (.putfield 48) 3 99 := ⟨by decide +kernel, rfl⟩
theorem md_Mill_init_99 : mz_d mb_Mill_init 99 (.aload_n 0) 1 100 := ⟨by decide +kernel, rfl⟩
theorem md_Mill_init_100 : mz_d mb_Mill_init 100 (.new 52) 3 103 := ⟨by decide +kernel, rfl⟩
theorem md_Mill_init_103 : mz_d mb_Mill_init 103 (.dup) 1 104 := ⟨by decide +kernel, rfl⟩
theorem md_Mill_init_104 : mz_d mb_Mill_init 104 (.aload_n 0) 1 105 := ⟨by decide +kernel, rfl⟩
theorem md_Mill_init_105 : mz_d mb_Mill_init 105 (.getfield 12) 3 108 := ⟨by decide +kernel, rfl⟩
theorem md_Mill_init_108 : mz_d mb_Mill_init 108 (.aload_n 0) 1 109 := ⟨by decide +kernel, rfl⟩
theorem md_Mill_init_109 : mz_d mb_Mill_init 109 (.getfield 21) 3 112 := ⟨by decide +kernel, rfl⟩
theorem md_Mill_init_112 : mz_d mb_Mill_init 112 (.aload_n 0) 1 113 := ⟨by decide +kernel, rfl⟩
theorem md_Mill_init_113 : mz_d mb_Mill_init 113 (.getfield 30) 3 116 := ⟨by decide +kernel, rfl⟩
theorem md_Mill_init_116 : mz_d mb_Mill_init 116 (.aload_n 0) 1 117 := ⟨by decide +kernel, rfl⟩
theorem md_Mill_init_117 : mz_d mb_Mill_init 117 (.getfield 39) 3 120 := ⟨by decide +kernel, rfl⟩
theorem md_Mill_init_120 : mz_d mb_Mill_init 120 (.aload_n 0) 1 121 := ⟨by decide +kernel, rfl⟩
theorem md_Mill_init_121 : mz_d mb_Mill_init 121 (.getfield 48) 3 124 := ⟨by decide +kernel, rfl⟩
theorem md_Mill_init_124 : mz_d mb_Mill_init 124 (.invokespecial 54) 3 127 := ⟨by decide +kernel, rfl⟩
theorem md_Mill_init_127 : mz_d mb_Mill_init 127 (.putfield 57) 3 130 := ⟨by decide +kernel, rfl⟩
theorem md_Mill_init_130 : mz_d mb_Mill_init 130 (.aload_n 0) 1 131 := ⟨by decide +kernel, rfl⟩
theorem md_Mill_init_131 : mz_d mb_Mill_init 131 (.new 61) 3 134 := ⟨by decide +kernel, rfl⟩
theorem md_Mill_init_134 : mz_d mb_Mill_init 134 (.dup) 1 135 := ⟨by decide +kernel, rfl⟩
theorem md_Mill_init_135 : mz_d mb_Mill_init 135 (.invokespecial 63) 3 138 := ⟨by decide +kernel, rfl⟩
theorem md_Mill_init_138 : mz_d mb_Mill_init 138 (.putfield 64) 3 141 := ⟨by decide +kernel, rfl⟩
theorem md_Mill_init_141 : mz_d mb_Mill_init 141 (.aload_n 0) 1 142 := ⟨by decide +kernel, rfl⟩
theorem md_Mill_init_142 : mz_d mb_Mill_init 142 (.new 68) 3 145 := ⟨by decide +kernel, rfl⟩
theorem md_Mill_init_145 : mz_d mb_Mill_init 145 (.dup) 1 146 := ⟨by decide +kernel, rfl⟩
theorem md_Mill_init_146 : mz_d mb_Mill_init 146 (.aload_n 0) 1 147 := ⟨by decide +kernel, rfl⟩
theorem md_Mill_init_147 : mz_d mb_Mill_init 147 (.getfield 12) 3 150 := ⟨by decide +kernel, rfl⟩
theorem md_Mill_init_150 : mz_d mb_Mill_init 150 (.aload_n 0) 1 151 := ⟨by decide +kernel, rfl⟩
theorem md_Mill_init_151 : mz_d mb_Mill_init 151 (.getfield 21) 3 154 := ⟨by decide +kernel, rfl⟩
theorem md_Mill_init_154 : mz_d mb_Mill_init 154 (.aload_n 0) 1 155 := ⟨by decide +kernel, rfl⟩
theorem md_Mill_init_155 : mz_d mb_Mill_init 155 (.getfield 39) 3 158 := ⟨by decide +kernel, rfl⟩
theorem md_Mill_init_158 : mz_d mb_Mill_init 158 (.aload_n 0) 1 159 := ⟨by decide +kernel, rfl⟩
theorem md_Mill_init_159 : mz_d mb_Mill_init 159 (.getfield 48) 3 162 := ⟨by decide +kernel, rfl⟩
theorem md_Mill_init_162 : mz_d mb_Mill_init 162 (.aload_n 0) 1 163 := ⟨by decide +kernel, rfl⟩
theorem md_Mill_init_163 : mz_d mb_Mill_init 163 (.getfield 57) 3 166 := ⟨by decide +kernel, rfl⟩
theorem md_Mill_init_166 : mz_d mb_Mill_init 166 (.aload_n 0) 1 167 := ⟨by decide +kernel, rfl⟩
theorem md_Mill_init_167 : mz_d mb_Mill_init 167 (.getfield 64) 3 170 := ⟨by decide +kernel, rfl⟩
theorem md_Mill_init_170 : mz_d mb_Mill_init 170 (.invokespecial 70) 3 173 := ⟨by decide +kernel, rfl⟩
theorem md_Mill_init_173 : mz_d mb_Mill_init 173 (.putfield 73) 3 176 := ⟨by decide +kernel, rfl⟩
theorem md_Mill_init_176 : mz_d mb_Mill_init 176 (.aload_n 0) 1 177 := ⟨by decide +kernel, rfl⟩
theorem md_Mill_init_177 : mz_d mb_Mill_init 177 (.new 77) 3 180 := ⟨by decide +kernel, rfl⟩
theorem md_Mill_init_180 : mz_d mb_Mill_init 180 (.dup) 1 181 := ⟨by decide +kernel, rfl⟩
theorem md_Mill_init_181 : mz_d mb_Mill_init 181 (.invokespecial 79) 3 184 := ⟨by decide +kernel, rfl⟩
theorem md_Mill_init_184 : mz_d mb_Mill_init 184 (.putfield 80) 3 187 := ⟨by decide +kernel, rfl⟩
theorem md_Mill_init_187 : mz_d mb_Mill_init 187 (.aload_n 0) 1 188 := ⟨by decide +kernel, rfl⟩
theorem md_Mill_init_188 : mz_d mb_Mill_init 188 (.iconst (-1)) 1 189 := ⟨by decide +kernel, rfl⟩
theorem md_Mill_init_189 : mz_d mb_Mill_init 189 (.putfield 84) 3 192 := ⟨by decide +kernel, rfl⟩
theorem md_Mill_init_192 : mz_d mb_Mill_init 192 (.aload_n 0) 1 193 := ⟨by decide +kernel, rfl⟩
theorem md_Mill_init_193 : mz_d mb_Mill_init 193 (.iconst (-1)) 1 194 := ⟨by decide +kernel, rfl⟩
theorem md_Mill_init_194 : mz_d mb_Mill_init 194 (.putfield 88) 3 197 := ⟨by decide +kernel, rfl⟩
theorem md_Mill_init_197 : mz_d mb_Mill_init 197 (.return_) 1 198 := ⟨by decide +kernel, rfl⟩
theorem md_Ref_init_0 : mz_d mb_Ref_init 0 (.aload_n 0) 1 1 := ⟨by decide +kernel, rfl⟩
theorem md_Ref_init_1 : mz_d mb_Ref_init 1 (.invokespecial 1) 3 4 := ⟨by decide +kernel, rfl⟩
theorem md_Ref_init_4 : mz_d mb_Ref_init 4 (.aload_n 0) 1 5 := ⟨by decide +kernel, rfl⟩
theorem md_Ref_init_5 : mz_d mb_Ref_init 5 (.bipush 10) 2 7 := ⟨by decide +kernel, rfl⟩
theorem md_Ref_init_7 : mz_d mb_Ref_init 7 (.newarray .int) 2 9 := ⟨by decide +kernel, rfl⟩
theorem md_Ref_init_9 : mz_d mb_Ref_init 9 (.putfield 7) 3 12 := ⟨by decide +kernel, rfl⟩
theorem md_Ref_init_12 : mz_d mb_Ref_init 12 (.aload_n 0) 1 13 := ⟨by decide +kernel, rfl⟩
theorem md_Ref_init_13 : mz_d mb_Ref_init 13 (.sipush 480) 3 16 := ⟨by decide +kernel, rfl⟩
theorem md_Ref_init_16 : mz_d mb_Ref_init 16 (.newarray .int) 2 18 := ⟨by decide +kernel, rfl⟩
theorem md_Ref_init_18 : mz_d mb_Ref_init 18 (.putfield 13) 3 21 := ⟨by decide +kernel, rfl⟩
theorem md_Ref_init_21 : mz_d mb_Ref_init 21 (.aload_n 0) 1 22 := ⟨by decide +kernel, rfl⟩
theorem md_Ref_init_22 : mz_d mb_Ref_init 22 (.bipush 10) 2 24 := ⟨by decide +kernel, rfl⟩
theorem md_Ref_init_24 : mz_d mb_Ref_init 24 (.newarray .int) 2 26 := ⟨by decide +kernel, rfl⟩
theorem md_Ref_init_26 : mz_d mb_Ref_init 26 (.putfield 16) 3 29 := ⟨by decide +kernel, rfl⟩
theorem md_Ref_init_29 : mz_d mb_Ref_init 29 (.aload_n 0) 1 30 := ⟨by decide +kernel, rfl⟩
theorem md_Ref_init_30 : mz_d mb_Ref_init 30 (.bipush 10) 2 32 := ⟨by decide +kernel, rfl⟩
theorem md_Ref_init_32 : mz_d mb_Ref_init 32 (.newarray .int) 2 34 := ⟨by decide +kernel, rfl⟩
theorem md_Ref_init_34 : mz_d mb_Ref_init 34 (.putfield 19) 3 37 := ⟨by decide +kernel, rfl⟩
theorem md_Ref_init_37 : mz_d mb_Ref_init 37 (.aload_n 0) 1 38 := ⟨by decide +kernel, rfl⟩
theorem md_Ref_init_38 : mz_d mb_Ref_init 38 (.bipush 10) 2 40 := ⟨by decide +kernel, rfl⟩
theorem md_Ref_init_40 : mz_d mb_Ref_init 40 (.newarray .int) 2 42 := ⟨by decide +kernel, rfl⟩
theorem md_Ref_init_42 : mz_d mb_Ref_init 42 (.putfield 22) 3 45 := ⟨by decide +kernel, rfl⟩
theorem md_Ref_init_45 : mz_d mb_Ref_init 45 (.aload_n 0) 1 46 := ⟨by decide +kernel, rfl⟩
theorem md_Ref_init_46 : mz_d mb_Ref_init 46 (.bipush 10) 2 48 := ⟨by decide +kernel, rfl⟩
theorem md_Ref_init_48 : mz_d mb_Ref_init 48 (.newarray .int) 2 50 := ⟨by decide +kernel, rfl⟩
theorem md_Ref_init_50 : mz_d mb_Ref_init 50 (.putfield 25) 3 53 := ⟨by decide +kernel, rfl⟩
theorem md_Ref_init_53 : mz_d mb_Ref_init 53 (.aload_n 0) 1 54 := ⟨by decide +kernel, rfl⟩
theorem md_Ref_init_54 : mz_d mb_Ref_init 54 (.bipush 32) 2 56 := ⟨by decide +kernel, rfl⟩
theorem md_Ref_init_56 : mz_d mb_Ref_init 56 (.newarray .int) 2 58 := ⟨by decide +kernel, rfl⟩
theorem md_Ref_init_58 : mz_d mb_Ref_init 58 (.putfield 28) 3 61 := ⟨by decide +kernel, rfl⟩
theorem md_Ref_init_61 : mz_d mb_Ref_init 61 (.aload_n 0) 1 62 := ⟨by decide +kernel, rfl⟩
theorem md_Ref_init_62 : mz_d mb_Ref_init 62 (.bipush 32) 2 64 := ⟨by decide +kernel, rfl⟩
theorem md_Ref_init_64 : mz_d mb_Ref_init 64 (.newarray .int) 2 66 := ⟨by decide +kernel, rfl⟩
theorem md_Ref_init_66 : mz_d mb_Ref_init 66 (.putfield 31) 3 69 := ⟨by decide +kernel, rfl⟩
theorem md_Ref_init_69 : mz_d mb_Ref_init 69 (.aload_n 0) 1 70 := ⟨by decide +kernel, rfl⟩
theorem md_Ref_init_70 : mz_d mb_Ref_init 70 (.bipush 10) 2 72 := ⟨by decide +kernel, rfl⟩
theorem md_Ref_init_72 : mz_d mb_Ref_init 72 (.newarray .int) 2 74 := ⟨by decide +kernel, rfl⟩
theorem md_Ref_init_74 : mz_d mb_Ref_init 74 (.putfield 34) 3 77 := ⟨by decide +kernel, rfl⟩
theorem md_Ref_init_77 : mz_d mb_Ref_init 77 (.aload_n 0) 1 78 := ⟨by decide +kernel, rfl⟩
theorem md_Ref_init_78 : mz_d mb_Ref_init 78 (.sipush 600) 3 81 := ⟨by decide +kernel, rfl⟩
theorem md_Ref_init_81 : mz_d mb_Ref_init 81 (.newarray .int) 2 83 := ⟨by decide +kernel, rfl⟩
theorem md_Ref_init_83 : mz_d mb_Ref_init 83 (.putfield 37) 3 86 := ⟨by decide +kernel, rfl⟩
theorem md_Ref_init_86 : mz_d mb_Ref_init 86 (.aload_n 0) 1 87 := ⟨by decide +kernel, rfl⟩
theorem md_Ref_init_87 : mz_d mb_Ref_init 87 (.bipush 10) 2 89 := ⟨by decide +kernel, rfl⟩
theorem md_Ref_init_89 : mz_d mb_Ref_init 89 (.newarray .int) 2 91 := ⟨by decide +kernel, rfl⟩
theorem md_Ref_init_91 : mz_d mb_Ref_init 91 (.putfield 40) 3 94 := ⟨by decide +kernel, rfl⟩
theorem md_Ref_init_94 : mz_d mb_Ref_init 94 (.aload_n 0) 1 95 := ⟨by decide +kernel, rfl⟩
theorem md_Ref_init_95 : mz_d mb_Ref_init 95 (.bipush 10) 2 97 := ⟨by decide +kernel, rfl⟩
theorem md_Ref_init_97 : mz_d mb_Ref_init 97 (.newarray .int) 2 99 := ⟨by decide +kernel, rfl⟩
theorem md_Ref_init_99 : mz_d mb_Ref_init 99 (.putfield 43) 3 102 := ⟨by decide +kernel, rfl⟩
theorem md_Ref_init_102 : mz_d mb_Ref_init 102 (.aload_n 0) 1 103 := ⟨by decide +kernel, rfl⟩
theorem md_Ref_init_103 : mz_d mb_Ref_init 103 (.bipush 10) 2 105 := ⟨by decide +kernel, rfl⟩
theorem md_Ref_init_105 : mz_d mb_Ref_init 105 (.newarray .int) 2 107 := ⟨by decide +kernel, rfl⟩
theorem md_Ref_init_107 : mz_d mb_Ref_init 107 (.putfield 46) 3 110 := ⟨by decide +kernel, rfl⟩
theorem md_Ref_init_110 : mz_d mb_Ref_init 110 (.return_) 1 111 := ⟨by decide +kernel, rfl⟩
