theorem d16_2_0 : decode prog_16_method_2_code 0 = .ok (.aload_n 0, 1) := by decide +kernel
theorem d16_2_1 : decode prog_16_method_2_code 1 = .ok (.invokespecial 3, 3) := by decide +kernel
theorem kobj : Cond.code Lib.objectInit ⟨#[0xb1]⟩ 1 none ∈ TB := tk_1 34 (by decide +kernel) (by decide +kernel)
theorem k49 : (Jvm.Cond.methodLink "java/lang/AbstractStringBuilder" (3 : Nat) ({ cls := "java/lang/Object", name := "<init>", desc := "()V" } : Jvm.MethodName)) ∈ TB := tk_1 49 rfl rfl
theorem k33 : (Jvm.Cond.instanceMethod ({ cls := "java/lang/Object", name := "<init>", desc := "()V" } : Jvm.MethodName)) ∈ TB := tk_1 33 rfl rfl
theorem d16_2_4 : decode prog_16_method_2_code 4 = .ok (.getstatic 18, 3) := by decide +kernel
theorem k50 : (Jvm.Cond.fieldLink "java/lang/AbstractStringBuilder" (18 : Nat) "java/lang/String" "COMPACT_STRINGS" "Z") ∈ TB := tk_1 50 rfl rfl
theorem d16_2_7 : decode prog_16_method_2_code 7 = .ok (.ifCond .eq 18, 3) := by decide +kernel
theorem d16_2_10 : decode prog_16_method_2_code 10 = .ok (.aload_n 0, 1) := by decide +kernel
theorem d16_2_11 : decode prog_16_method_2_code 11 = .ok (.iload_n 1, 1) := by decide +kernel
theorem d16_2_12 : decode prog_16_method_2_code 12 = .ok (.newarray .byte, 2) := by decide +kernel
theorem k74 : (Jvm.Cond.arrayClass Jvm.ClassFile.FieldType.byte) ∈ TB := tk_1 74 rfl rfl
theorem d16_2_14 : decode prog_16_method_2_code 14 = .ok (.putfield 15, 3) := by decide +kernel
theorem k59 : (Jvm.Cond.fieldLink "java/lang/AbstractStringBuilder" (15 : Nat) "java/lang/AbstractStringBuilder" "value" "[B") ∈ TB := tk_1 59 rfl rfl
theorem d16_2_17 : decode prog_16_method_2_code 17 = .ok (.aload_n 0, 1) := by decide +kernel
theorem d16_2_18 : decode prog_16_method_2_code 18 = .ok (.iconst 0, 1) := by decide +kernel
theorem d16_2_19 : decode prog_16_method_2_code 19 = .ok (.putfield 22, 3) := by decide +kernel
theorem k60 : (Jvm.Cond.fieldLink "java/lang/AbstractStringBuilder" (22 : Nat) "java/lang/AbstractStringBuilder" "coder" "B") ∈ TB := tk_1 60 rfl rfl
theorem d16_2_22 : decode prog_16_method_2_code 22 = .ok (.goto 16, 3) := by decide +kernel
theorem d16_2_38 : decode prog_16_method_2_code 38 = .ok (.return_, 1) := by decide +kernel
def y16_2 : MethodName := { cls := "java/lang/AbstractStringBuilder", name := "<init>", desc := "(I)V" }
theorem d22_1_0 : decode prog_22_method_1_code 0 = .ok (.aload_n 0, 1) := by decide +kernel
theorem d22_1_1 : decode prog_22_method_1_code 1 = .ok (.bipush 16, 2) := by decide +kernel
theorem d22_1_3 : decode prog_22_method_1_code 3 = .ok (.invokespecial 1, 3) := by decide +kernel
theorem k48 : (Jvm.Cond.code ({ cls := "java/lang/AbstractStringBuilder", name := "<init>", desc := "(I)V" } : Jvm.MethodName) prog_16_method_2_code (2 : Nat) (Option.none : Option Jvm.ClassFile.FieldType)) ∈ TB := tk_1 48 rfl rfl
theorem k3 : (Jvm.Cond.initialized "java/lang/AbstractStringBuilder") ∈ TB := tk_1 3 rfl rfl
theorem k46 : (Jvm.Cond.methodLink "java/lang/StringBuilder" (1 : Nat) ({ cls := "java/lang/AbstractStringBuilder", name := "<init>", desc := "(I)V" } : Jvm.MethodName)) ∈ TB := tk_1 46 rfl rfl
theorem k47 : (Jvm.Cond.instanceMethod ({ cls := "java/lang/AbstractStringBuilder", name := "<init>", desc := "(I)V" } : Jvm.MethodName)) ∈ TB := tk_1 47 rfl rfl
theorem d22_1_6 : decode prog_22_method_1_code 6 = .ok (.return_, 1) := by decide +kernel
def y22_1 : MethodName := { cls := "java/lang/StringBuilder", name := "<init>", desc := "()V" }
theorem d11_1_0 : decode prog_11_method_1_code 0 = .ok (.aload_n 0, 1) := by decide +kernel
theorem d11_1_1 : decode prog_11_method_1_code 1 = .ok (.invokespecial 3, 3) := by decide +kernel
theorem k40 : (Jvm.Cond.methodLink "PagedValues$Text" (3 : Nat) ({ cls := "java/lang/Object", name := "<init>", desc := "()V" } : Jvm.MethodName)) ∈ TB := tk_1 40 rfl rfl
theorem d11_1_4 : decode prog_11_method_1_code 4 = .ok (.aload_n 0, 1) := by decide +kernel
theorem d11_1_5 : decode prog_11_method_1_code 5 = .ok (.bipush 80, 2) := by decide +kernel
theorem d11_1_7 : decode prog_11_method_1_code 7 = .ok (.newarray .char, 2) := by decide +kernel
theorem k73 : (Jvm.Cond.arrayClass Jvm.ClassFile.FieldType.char) ∈ TB := tk_1 73 rfl rfl
theorem d11_1_9 : decode prog_11_method_1_code 9 = .ok (.putfield 9, 3) := by decide +kernel
theorem k75 : (Jvm.Cond.fieldLink "PagedValues$Text" (9 : Nat) "PagedValues$Text" "typed" "[C") ∈ TB := tk_1 75 rfl rfl
theorem d11_1_12 : decode prog_11_method_1_code 12 = .ok (.aload_n 0, 1) := by decide +kernel
theorem d11_1_13 : decode prog_11_method_1_code 13 = .ok (.new 15, 3) := by decide +kernel
theorem k41 : (Jvm.Cond.classLink "PagedValues$Text" (15 : Nat) "java/lang/StringBuilder") ∈ TB := tk_1 41 rfl rfl
theorem k42 : (Jvm.Cond.instantiable "java/lang/StringBuilder" (4 : Nat)) ∈ TB := tk_1 42 rfl rfl
theorem k4 : (Jvm.Cond.initialized "java/lang/StringBuilder") ∈ TB := tk_1 4 rfl rfl
theorem d11_1_16 : decode prog_11_method_1_code 16 = .ok (.dup, 1) := by decide +kernel
theorem d11_1_17 : decode prog_11_method_1_code 17 = .ok (.invokespecial 17, 3) := by decide +kernel
theorem k45 : (Jvm.Cond.code ({ cls := "java/lang/StringBuilder", name := "<init>", desc := "()V" } : Jvm.MethodName) prog_22_method_1_code (1 : Nat) (Option.none : Option Jvm.ClassFile.FieldType)) ∈ TB := tk_1 45 rfl rfl
theorem k43 : (Jvm.Cond.methodLink "PagedValues$Text" (17 : Nat) ({ cls := "java/lang/StringBuilder", name := "<init>", desc := "()V" } : Jvm.MethodName)) ∈ TB := tk_1 43 rfl rfl
theorem k44 : (Jvm.Cond.instanceMethod ({ cls := "java/lang/StringBuilder", name := "<init>", desc := "()V" } : Jvm.MethodName)) ∈ TB := tk_1 44 rfl rfl
theorem d11_1_20 : decode prog_11_method_1_code 20 = .ok (.putfield 18, 3) := by decide +kernel
theorem k76 : (Jvm.Cond.fieldLink "PagedValues$Text" (18 : Nat) "PagedValues$Text" "word" "Ljava/lang/StringBuilder;") ∈ TB := tk_1 76 rfl rfl
theorem d11_1_23 : decode prog_11_method_1_code 23 = .ok (.aload_n 0, 1) := by decide +kernel
theorem d11_1_24 : decode prog_11_method_1_code 24 = .ok (.iconst (-1), 1) := by decide +kernel
theorem d11_1_25 : decode prog_11_method_1_code 25 = .ok (.putfield 22, 3) := by decide +kernel
theorem k81 : (Jvm.Cond.fieldLink "PagedValues$Text" (22 : Nat) "PagedValues$Text" "fault" "I") ∈ TB := tk_1 81 rfl rfl
theorem d11_1_28 : decode prog_11_method_1_code 28 = .ok (.return_, 1) := by decide +kernel
def y11_1 : MethodName := { cls := "PagedValues$Text", name := "<init>", desc := "()V" }
theorem d13_1_0 : decode prog_13_method_1_code 0 = .ok (.aload_n 0, 1) := by decide +kernel
theorem d13_1_1 : decode prog_13_method_1_code 1 = .ok (.invokespecial 3, 3) := by decide +kernel
theorem k99 : (Jvm.Cond.methodLink "PagedValues$ValueParser" (3 : Nat) ({ cls := "java/lang/Object", name := "<init>", desc := "()V" } : Jvm.MethodName)) ∈ TB := tk_1 99 rfl rfl
theorem d13_1_4 : decode prog_13_method_1_code 4 = .ok (.return_, 1) := by decide +kernel
def y13_1 : MethodName := { cls := "PagedValues$ValueParser", name := "<init>", desc := "()V" }
theorem d7_1_0 : decode prog_7_method_1_code 0 = .ok (.aload_n 0, 1) := by decide +kernel
theorem d7_1_1 : decode prog_7_method_1_code 1 = .ok (.invokespecial 3, 3) := by decide +kernel
theorem k115 : (Jvm.Cond.methodLink "PagedValues$Pointer" (3 : Nat) ({ cls := "java/lang/Object", name := "<init>", desc := "()V" } : Jvm.MethodName)) ∈ TB := tk_1 115 rfl rfl
theorem d7_1_4 : decode prog_7_method_1_code 4 = .ok (.aload_n 0, 1) := by decide +kernel
theorem d7_1_5 : decode prog_7_method_1_code 5 = .ok (.new 9, 3) := by decide +kernel
theorem k116 : (Jvm.Cond.classLink "PagedValues$Pointer" (9 : Nat) "java/lang/StringBuilder") ∈ TB := tk_1 116 rfl rfl
theorem d7_1_8 : decode prog_7_method_1_code 8 = .ok (.dup, 1) := by decide +kernel
theorem d7_1_9 : decode prog_7_method_1_code 9 = .ok (.invokespecial 11, 3) := by decide +kernel
theorem k117 : (Jvm.Cond.methodLink "PagedValues$Pointer" (11 : Nat) ({ cls := "java/lang/StringBuilder", name := "<init>", desc := "()V" } : Jvm.MethodName)) ∈ TB := tk_1 117 rfl rfl
theorem d7_1_12 : decode prog_7_method_1_code 12 = .ok (.putfield 12, 3) := by decide +kernel
theorem k118 : (Jvm.Cond.fieldLink "PagedValues$Pointer" (12 : Nat) "PagedValues$Pointer" "word" "Ljava/lang/StringBuilder;") ∈ TB := tk_1 118 rfl rfl
theorem d7_1_15 : decode prog_7_method_1_code 15 = .ok (.return_, 1) := by decide +kernel
def y7_1 : MethodName := { cls := "PagedValues$Pointer", name := "<init>", desc := "()V" }
theorem d6_1_0 : decode prog_6_method_1_code 0 = .ok (.aload_n 0, 1) := by decide +kernel
theorem d6_1_1 : decode prog_6_method_1_code 1 = .ok (.invokespecial 3, 3) := by decide +kernel
theorem k109 : (Jvm.Cond.methodLink "PagedValues$Patcher" (3 : Nat) ({ cls := "java/lang/Object", name := "<init>", desc := "()V" } : Jvm.MethodName)) ∈ TB := tk_1 109 rfl rfl
theorem d6_1_4 : decode prog_6_method_1_code 4 = .ok (.aload_n 0, 1) := by decide +kernel
theorem d6_1_5 : decode prog_6_method_1_code 5 = .ok (.new 9, 3) := by decide +kernel
theorem k110 : (Jvm.Cond.classLink "PagedValues$Patcher" (9 : Nat) "PagedValues$Pointer") ∈ TB := tk_1 110 rfl rfl
theorem k111 : (Jvm.Cond.instantiable "PagedValues$Pointer" (1 : Nat)) ∈ TB := tk_1 111 rfl rfl
theorem k9 : (Jvm.Cond.initialized "PagedValues$Pointer") ∈ TB := tk_1 9 rfl rfl
theorem d6_1_8 : decode prog_6_method_1_code 8 = .ok (.dup, 1) := by decide +kernel
theorem d6_1_9 : decode prog_6_method_1_code 9 = .ok (.invokespecial 11, 3) := by decide +kernel
theorem k114 : (Jvm.Cond.code ({ cls := "PagedValues$Pointer", name := "<init>", desc := "()V" } : Jvm.MethodName) prog_7_method_1_code (1 : Nat) (Option.none : Option Jvm.ClassFile.FieldType)) ∈ TB := tk_1 114 rfl rfl
theorem kn112 : (Jvm.Cond.methodLinkNest "PagedValues$Patcher" (11 : Nat) ({ cls := "PagedValues$Pointer", name := "<init>", desc := "()V" } : Jvm.MethodName) "PagedValues") ∈ NW := tn_1 112 rfl rfl
theorem k113 : (Jvm.Cond.instanceMethod ({ cls := "PagedValues$Pointer", name := "<init>", desc := "()V" } : Jvm.MethodName)) ∈ TB := tk_1 113 rfl rfl
theorem d6_1_12 : decode prog_6_method_1_code 12 = .ok (.putfield 12, 3) := by decide +kernel
theorem k122 : (Jvm.Cond.fieldLink "PagedValues$Patcher" (12 : Nat) "PagedValues$Patcher" "pointer" "LPagedValues$Pointer;") ∈ TB := tk_1 122 rfl rfl
theorem d6_1_15 : decode prog_6_method_1_code 15 = .ok (.return_, 1) := by decide +kernel
def y6_1 : MethodName := { cls := "PagedValues$Patcher", name := "<init>", desc := "()V" }
theorem d9_1_0 : decode prog_9_method_1_code 0 = .ok (.aload_n 0, 1) := by decide +kernel
theorem d9_1_1 : decode prog_9_method_1_code 1 = .ok (.invokespecial 1, 3) := by decide +kernel
theorem k142 : (Jvm.Cond.methodLink "PagedValues$Selector" (1 : Nat) ({ cls := "java/lang/Object", name := "<init>", desc := "()V" } : Jvm.MethodName)) ∈ TB := tk_1 142 rfl rfl
theorem d9_1_4 : decode prog_9_method_1_code 4 = .ok (.aload_n 0, 1) := by decide +kernel
theorem d9_1_5 : decode prog_9_method_1_code 5 = .ok (.ldc 7, 2) := by decide +kernel
theorem d9_1_7 : decode prog_9_method_1_code 7 = .ok (.putfield 9, 3) := by decide +kernel
theorem k150 : (Jvm.Cond.fieldLink "PagedValues$Selector" (9 : Nat) "PagedValues$Selector" "name" "Ljava/lang/String;") ∈ TB := tk_1 150 rfl rfl
theorem d9_1_10 : decode prog_9_method_1_code 10 = .ok (.return_, 1) := by decide +kernel
def y9_1 : MethodName := { cls := "PagedValues$Selector", name := "<init>", desc := "()V" }
theorem d8_1_0 : decode prog_8_method_1_code 0 = .ok (.aload_n 0, 1) := by decide +kernel
theorem d8_1_1 : decode prog_8_method_1_code 1 = .ok (.invokespecial 3, 3) := by decide +kernel
theorem k135 : (Jvm.Cond.methodLink "PagedValues$Query" (3 : Nat) ({ cls := "java/lang/Object", name := "<init>", desc := "()V" } : Jvm.MethodName)) ∈ TB := tk_1 135 rfl rfl
theorem d8_1_4 : decode prog_8_method_1_code 4 = .ok (.aload_n 0, 1) := by decide +kernel
theorem d8_1_5 : decode prog_8_method_1_code 5 = .ok (.bipush 8, 2) := by decide +kernel
theorem d8_1_7 : decode prog_8_method_1_code 7 = .ok (.anewarray 9, 3) := by decide +kernel
theorem k136 : (Jvm.Cond.classLink "PagedValues$Query" (9 : Nat) "PagedValues$Selector") ∈ TB := tk_1 136 rfl rfl
theorem d8_1_10 : decode prog_8_method_1_code 10 = .ok (.putfield 11, 3) := by decide +kernel
theorem k166 : (Jvm.Cond.fieldLink "PagedValues$Query" (11 : Nat) "PagedValues$Query" "selectors" "[LPagedValues$Selector;") ∈ TB := tk_1 166 rfl rfl
theorem d8_1_13 : decode prog_8_method_1_code 13 = .ok (.iconst 0, 1) := by decide +kernel
theorem d8_1_14 : decode prog_8_method_1_code 14 = .ok (.istore_n 1, 1) := by decide +kernel
theorem d8_1_15 : decode prog_8_method_1_code 15 = .ok (.iload_n 1, 1) := by decide +kernel
theorem d8_1_16 : decode prog_8_method_1_code 16 = .ok (.bipush 8, 2) := by decide +kernel
theorem d8_1_18 : decode prog_8_method_1_code 18 = .ok (.if_icmp .ge 22, 3) := by decide +kernel
theorem d8_1_21 : decode prog_8_method_1_code 21 = .ok (.aload_n 0, 1) := by decide +kernel
theorem d8_1_22 : decode prog_8_method_1_code 22 = .ok (.getfield 11, 3) := by decide +kernel
theorem d8_1_25 : decode prog_8_method_1_code 25 = .ok (.iload_n 1, 1) := by decide +kernel
theorem d8_1_26 : decode prog_8_method_1_code 26 = .ok (.new 9, 3) := by decide +kernel
theorem k138 : (Jvm.Cond.instantiable "PagedValues$Selector" (5 : Nat)) ∈ TB := tk_1 138 rfl rfl
theorem k11 : (Jvm.Cond.initialized "PagedValues$Selector") ∈ TB := tk_1 11 rfl rfl
theorem d8_1_29 : decode prog_8_method_1_code 29 = .ok (.dup, 1) := by decide +kernel
theorem d8_1_30 : decode prog_8_method_1_code 30 = .ok (.invokespecial 17, 3) := by decide +kernel
theorem k141 : (Jvm.Cond.code ({ cls := "PagedValues$Selector", name := "<init>", desc := "()V" } : Jvm.MethodName) prog_9_method_1_code (1 : Nat) (Option.none : Option Jvm.ClassFile.FieldType)) ∈ TB := tk_1 141 rfl rfl
theorem kn139 : (Jvm.Cond.methodLinkNest "PagedValues$Query" (17 : Nat) ({ cls := "PagedValues$Selector", name := "<init>", desc := "()V" } : Jvm.MethodName) "PagedValues") ∈ NW := tn_1 139 rfl rfl
theorem k140 : (Jvm.Cond.instanceMethod ({ cls := "PagedValues$Selector", name := "<init>", desc := "()V" } : Jvm.MethodName)) ∈ TB := tk_1 140 rfl rfl
theorem d8_1_33 : decode prog_8_method_1_code 33 = .ok (.aastore, 1) := by decide +kernel
theorem d8_1_34 : decode prog_8_method_1_code 34 = .ok (.iinc 1 1, 3) := by decide +kernel
theorem d8_1_37 : decode prog_8_method_1_code 37 = .ok (.goto (-22), 3) := by decide +kernel
theorem d8_1_40 : decode prog_8_method_1_code 40 = .ok (.return_, 1) := by decide +kernel
def y8_1 : MethodName := { cls := "PagedValues$Query", name := "<init>", desc := "()V" }
theorem d3_1_0 : decode prog_3_method_1_code 0 = .ok (.aload_n 0, 1) := by decide +kernel
theorem d3_1_1 : decode prog_3_method_1_code 1 = .ok (.invokespecial 3, 3) := by decide +kernel
theorem k180 : (Jvm.Cond.methodLink "PagedValues$Finder" (3 : Nat) ({ cls := "java/lang/Object", name := "<init>", desc := "()V" } : Jvm.MethodName)) ∈ TB := tk_1 180 rfl rfl
theorem d3_1_4 : decode prog_3_method_1_code 4 = .ok (.aload_n 0, 1) := by decide +kernel
theorem d3_1_5 : decode prog_3_method_1_code 5 = .ok (.bipush 32, 2) := by decide +kernel
theorem d3_1_7 : decode prog_3_method_1_code 7 = .ok (.anewarray 9, 3) := by decide +kernel
theorem k181 : (Jvm.Cond.classLink "PagedValues$Finder" (9 : Nat) "PagedValues$Value") ∈ TB := tk_1 181 rfl rfl
theorem d3_1_10 : decode prog_3_method_1_code 10 = .ok (.putfield 11, 3) := by decide +kernel
theorem k183 : (Jvm.Cond.fieldLink "PagedValues$Finder" (11 : Nat) "PagedValues$Finder" "results" "[LPagedValues$Value;") ∈ TB := tk_1 183 rfl rfl
theorem d3_1_13 : decode prog_3_method_1_code 13 = .ok (.aload_n 0, 1) := by decide +kernel
theorem d3_1_14 : decode prog_3_method_1_code 14 = .ok (.bipush 32, 2) := by decide +kernel
theorem d3_1_16 : decode prog_3_method_1_code 16 = .ok (.newarray .int, 2) := by decide +kernel
theorem k210 : (Jvm.Cond.arrayClass Jvm.ClassFile.FieldType.int) ∈ TB := tk_1 210 rfl rfl
theorem d3_1_18 : decode prog_3_method_1_code 18 = .ok (.putfield 17, 3) := by decide +kernel
theorem k185 : (Jvm.Cond.fieldLink "PagedValues$Finder" (17 : Nat) "PagedValues$Finder" "ids" "[I") ∈ TB := tk_1 185 rfl rfl
theorem d3_1_21 : decode prog_3_method_1_code 21 = .ok (.aload_n 0, 1) := by decide +kernel
theorem d3_1_22 : decode prog_3_method_1_code 22 = .ok (.bipush 32, 2) := by decide +kernel
theorem d3_1_24 : decode prog_3_method_1_code 24 = .ok (.anewarray 9, 3) := by decide +kernel
theorem d3_1_27 : decode prog_3_method_1_code 27 = .ok (.putfield 21, 3) := by decide +kernel
theorem k187 : (Jvm.Cond.fieldLink "PagedValues$Finder" (21 : Nat) "PagedValues$Finder" "row" "[LPagedValues$Value;") ∈ TB := tk_1 187 rfl rfl
theorem d3_1_30 : decode prog_3_method_1_code 30 = .ok (.aload_n 0, 1) := by decide +kernel
theorem d3_1_31 : decode prog_3_method_1_code 31 = .ok (.bipush 32, 2) := by decide +kernel
theorem d3_1_33 : decode prog_3_method_1_code 33 = .ok (.anewarray 9, 3) := by decide +kernel
theorem d3_1_36 : decode prog_3_method_1_code 36 = .ok (.putfield 24, 3) := by decide +kernel
theorem k188 : (Jvm.Cond.fieldLink "PagedValues$Finder" (24 : Nat) "PagedValues$Finder" "nextRow" "[LPagedValues$Value;") ∈ TB := tk_1 188 rfl rfl
theorem d3_1_39 : decode prog_3_method_1_code 39 = .ok (.return_, 1) := by decide +kernel
def y3_1 : MethodName := { cls := "PagedValues$Finder", name := "<init>", desc := "()V" }
theorem d5_1_0 : decode prog_5_method_1_code 0 = .ok (.aload_n 0, 1) := by decide +kernel
theorem d5_1_1 : decode prog_5_method_1_code 1 = .ok (.invokespecial 3, 3) := by decide +kernel
theorem k224 : (Jvm.Cond.methodLink "PagedValues$Page" (3 : Nat) ({ cls := "java/lang/Object", name := "<init>", desc := "()V" } : Jvm.MethodName)) ∈ TB := tk_1 224 rfl rfl
theorem d5_1_4 : decode prog_5_method_1_code 4 = .ok (.aload_n 0, 1) := by decide +kernel
theorem d5_1_5 : decode prog_5_method_1_code 5 = .ok (.iconst 4, 1) := by decide +kernel
theorem d5_1_6 : decode prog_5_method_1_code 6 = .ok (.anewarray 9, 3) := by decide +kernel
theorem k225 : (Jvm.Cond.classLink "PagedValues$Page" (9 : Nat) "PagedValues$Value") ∈ TB := tk_1 225 rfl rfl
theorem d5_1_9 : decode prog_5_method_1_code 9 = .ok (.putfield 11, 3) := by decide +kernel
theorem k226 : (Jvm.Cond.fieldLink "PagedValues$Page" (11 : Nat) "PagedValues$Page" "documents" "[LPagedValues$Value;") ∈ TB := tk_1 226 rfl rfl
theorem d5_1_12 : decode prog_5_method_1_code 12 = .ok (.aload_n 0, 1) := by decide +kernel
theorem d5_1_13 : decode prog_5_method_1_code 13 = .ok (.iconst 2, 1) := by decide +kernel
theorem d5_1_14 : decode prog_5_method_1_code 14 = .ok (.newarray .int, 2) := by decide +kernel
theorem d5_1_16 : decode prog_5_method_1_code 16 = .ok (.putfield 17, 3) := by decide +kernel
theorem k228 : (Jvm.Cond.fieldLink "PagedValues$Page" (17 : Nat) "PagedValues$Page" "leaves" "[I") ∈ TB := tk_1 228 rfl rfl
theorem d5_1_19 : decode prog_5_method_1_code 19 = .ok (.return_, 1) := by decide +kernel
def y5_1 : MethodName := { cls := "PagedValues$Page", name := "<init>", desc := "()V" }
abbrev wk_ko_asb (G : Gk) (Zd : Nat → Nat) (h0 : Nat) (u : Nat → Nat) : va_W := [(h0, .inr (2, [.ref (u 0), .int 0, .int 0, .int 0])), (u 0, .inl (G.2 2, 16, .inl (fun _ => 0)))]
set_option maxHeartbeats 4000000 in
set_option maxRecDepth 100000 in
theorem ko_asb (l : Launch) (G : Gk) (Zd : Nat → Nat) (h0 : Nat) (sz : Nat) : Met l y16_2 (Cond.code y16_2 prog_16_method_2_code 2 none :: TB) (rmD 1 1 16) (va_Pc [.ref h0, .int 16] (pcW G Zd [(h0, .inr (2, [.null, .int 0, .int 0, .int 0]))] sz)) (qV G (fun (_ : Nat → Nat) => True) (wk_ko_asb G Zd h0) (va_A [(h0, .inr (2, [.null, .int 0, .int 0, .int 0]))] sz)) 1 16 (va_A [(h0, .inr (2, [.null, .int 0, .int 0, .int 0]))] sz) := by
  refine go (y := y16_2) (cc := prog_16_method_2_code) (maxL := 2) (ret := none) (av := [.ref h0, .int 16]) (Qc := qV G (fun (_ : Nat → Nat) => True) (wk_ko_asb G Zd h0)) "java/lang/AbstractStringBuilder" rfl (by decide) (Nat.le_of_ble_eq_true rfl) ?_
  intro p e s m below meth c ls A hx hb hr hlk hml hown hts hin hl hP hD hK hS hA hZ
  have hl : lv_has ls 2 [(0, .ref h0), (1, .int 16)] := hl
  refine lv_aload_n hx hb d16_2_0 rfl (lv_at hl 0 rfl) ?_
  refine W.objInit hx hb hown (hts _ (List.mem_cons_of_mem _ k49)) (hts _ (List.mem_cons_of_mem _ k33)) (hts _ (List.mem_cons_of_mem _ kobj)) rfl (by rw [hml]; exact hl.1) rfl d16_2_1 (Nat.le_of_ble_eq_true rfl) (Nat.le_of_ble_eq_true rfl) ?_
  refine W.eq (g2 := F0 m 4 ls []) rfl ?_
  refine va_gets (ref := "java/lang/String") hx hb hZ.2.1 hS hown (hts _ (List.mem_cons_of_mem _ k50)) (fun _ h9 => h9) d16_2_4 ?_
  refine lv_if_eq (tgt := 25) hx hb d16_2_7 rfl (fun hc => absurd hc (by decide)) (fun _ => ?_)
  refine lv_aload_n hx hb d16_2_10 rfl (lv_at hl 0 rfl) ?_
  refine lv_iload_n hx hb d16_2_11 rfl (lv_at hl 1 rfl) ?_
  refine wn_a (D := G.1) (atype := .byte) (ty := .byte) (N' := 16) (a0 := (16, .inl (fun _ => 0))) hx hb (hts _ (List.mem_cons_of_mem _ k74)) rfl hK 2 rfl hP hD hS hA (fun _ => rfl) (by decide) (by decide) (by decide) (Nat.le_of_ble_eq_true rfl) (Nat.le_of_ble_eq_true rfl) d16_2_12 (fun q1 H hP hD hS => ?_)
  have hP : va_P G.1 vwCl [(h0, .inr (2, [.null, .int 0, .int 0, .int 0])), (q1, .inl (G.2 2, 16, .inl (fun _ => 0)))] H := hP
  have hD : va_D A [(h0, .inr (2, [.null, .int 0, .int 0, .int 0])), (q1, .inl (G.2 2, 16, .inl (fun _ => 0)))] := hD
  refine va_put (D := G.1) (ci := 2) (v := .ref q1) (ty := (ft_2 0)) (C := r_2) (T := f_2) (N := 4) (ref := "java/lang/AbstractStringBuilder") hx hb hts (fun w h => List.mem_cons_of_mem _ (ly_2 w h)) ft_2 ft_2_ok nm_2 hown hK hP hD hS 0 rfl rfl 0 (by decide) (hts _ (List.mem_cons_of_mem _ k59)) (fun _ h9 => h9) rfl (by decide +kernel) rfl rfl (Nat.le_of_ble_eq_true rfl) d16_2_14 (fun H locs hP hD hS => ?_)
  have hP : va_P G.1 vwCl [(h0, .inr (2, [.ref q1, .int 0, .int 0, .int 0])), (q1, .inl (G.2 2, 16, .inl (fun _ => 0)))] H := hP
  have hD : va_D A [(h0, .inr (2, [.ref q1, .int 0, .int 0, .int 0])), (q1, .inl (G.2 2, 16, .inl (fun _ => 0)))] := hD
  refine lv_aload_n hx hb d16_2_17 rfl (lv_at hl 0 rfl) ?_
  refine lv_iconst (v := 0) hx hb d16_2_18 (by decide) ?_
  refine va_put (D := G.1) (ci := 2) (v := .int 0) (ty := .byte) (C := r_2) (T := f_2) (N := 4) (ref := "java/lang/AbstractStringBuilder") hx hb hts (fun w h => List.mem_cons_of_mem _ (ly_2 w h)) ft_2 ft_2_ok nm_2 hown hK hP hD hS 0 rfl rfl 1 (by decide) (hts _ (List.mem_cons_of_mem _ k60)) (fun _ h9 => h9) rfl (by decide +kernel) (by decide) (by decide) (Nat.le_of_ble_eq_true rfl) d16_2_19 (fun H locs hP hD hS => ?_)
  have hP : va_P G.1 vwCl [(h0, .inr (2, [.ref q1, .int 0, .int 0, .int 0])), (q1, .inl (G.2 2, 16, .inl (fun _ => 0)))] H := hP
  have hD : va_D A [(h0, .inr (2, [.ref q1, .int 0, .int 0, .int 0])), (q1, .inl (G.2 2, 16, .inl (fun _ => 0)))] := hD
  refine lv_goto (tgt := 38) hx hb d16_2_22 rfl ?_
  exact fin_v hx hb hr hlk hS (fun k => ([q1] : List Nat).getD k 0) trivial hP hD (Nat.le_of_ble_eq_true rfl) (Nat.le_of_ble_eq_true rfl) d16_2_38
abbrev wk_ko_sb (G : Gk) (Zd : Nat → Nat) (h0 : Nat) (u : Nat → Nat) : va_W := [(h0, .inr (2, [.ref (u 0), .int 0, .int 0, .int 0])), (u 0, .inl (G.2 2, 16, .inl (fun _ => 0)))]
set_option maxHeartbeats 4000000 in
set_option maxRecDepth 100000 in
theorem ko_sb (l : Launch) (G : Gk) (Zd : Nat → Nat) (h0 : Nat) (sz : Nat) : Met l y22_1 (Cond.code y22_1 prog_22_method_1_code 1 none :: TB) (rmD 2 1 16) (va_Pc [.ref h0] (pcW G Zd [(h0, .inr (2, [.null, .int 0, .int 0, .int 0]))] sz)) (qV G (fun (_ : Nat → Nat) => True) (wk_ko_sb G Zd h0) (va_A [(h0, .inr (2, [.null, .int 0, .int 0, .int 0]))] sz)) 1 16 (va_A [(h0, .inr (2, [.null, .int 0, .int 0, .int 0]))] sz) := by
  refine go (y := y22_1) (cc := prog_22_method_1_code) (maxL := 1) (ret := none) (av := [.ref h0]) (Qc := qV G (fun (_ : Nat → Nat) => True) (wk_ko_sb G Zd h0)) "java/lang/StringBuilder" rfl (by decide) (Nat.le_of_ble_eq_true rfl) ?_
  intro p e s m below meth c ls A hx hb hr hlk hml hown hts hin hl hP hD hK hS hA hZ
  have hl : lv_has ls 1 [(0, .ref h0)] := hl
  refine lv_aload_n hx hb d22_1_0 rfl (lv_at hl 0 rfl) ?_
  refine lv_bipush (v := 16) hx hb d22_1_1 (by decide) ?_
  refine jI_v (As := [.int 16]) (rest := []) (wr := []) ⟨hx, hb, hml, hown, hts⟩ (ko_asb l G Zd h0 _) (kw_I (n := 1) hts k48 k46 k3 k47 rfl (by decide +kernel) ⟨Nat.le_of_ble_eq_true rfl, Nat.le_of_ble_eq_true rfl⟩) hP hD hK hS hA hZ [0] [] rfl rfl rfl rfl (by decide) rfl hl.1 rfl (Nat.le_of_ble_eq_true rfl) d22_1_3 ⟨Nat.le_of_ble_eq_true rfl, Nat.le_of_ble_eq_true rfl⟩ (fun u1 H locs hp hP hD hS => ?_)
  refine W.eq (g2 := F0 m 6 ls []) rfl ?_
  have hP : va_P G.1 vwCl [(h0, .inr (2, [.ref (u1 0), .int 0, .int 0, .int 0])), (u1 0, .inl (G.2 2, 16, .inl (fun _ => 0)))] H := hP
  have hD : va_D A [(h0, .inr (2, [.ref (u1 0), .int 0, .int 0, .int 0])), (u1 0, .inl (G.2 2, 16, .inl (fun _ => 0)))] := hD
  exact fin_v hx hb hr hlk hS (fun k => ([u1 0] : List Nat).getD k 0) trivial hP hD (Nat.le_of_ble_eq_true rfl) (Nat.le_of_ble_eq_true rfl) d22_1_6
abbrev wk_ko_text (G : Gk) (Zd : Nat → Nat) (h0 : Nat) (u : Nat → Nat) : va_W := [(h0, .inr (1, [.ref (u 0), .ref (u 1), .int 0, .int 0, .int (-1)])), (u 0, .inl (G.2 0, 80, .inl (fun _ => 0))), (u 1, .inr (2, [.ref (u 2), .int 0, .int 0, .int 0])), (u 2, .inl (G.2 2, 16, .inl (fun _ => 0)))]
set_option maxHeartbeats 4000000 in
set_option maxRecDepth 100000 in
theorem ko_text (l : Launch) (G : Gk) (Zd : Nat → Nat) (h0 : Nat) (sz : Nat) : Met l y11_1 (Cond.code y11_1 prog_11_method_1_code 1 none :: TB) (rmD 3 3 100) (va_Pc [.ref h0] (pcW G Zd [(h0, .inr (1, [.null, .null, .int 0, .int 0, .int 0]))] sz)) (qV G (fun (_ : Nat → Nat) => True) (wk_ko_text G Zd h0) (va_A [(h0, .inr (1, [.null, .null, .int 0, .int 0, .int 0]))] sz)) 3 100 (va_A [(h0, .inr (1, [.null, .null, .int 0, .int 0, .int 0]))] sz) := by
  refine go (y := y11_1) (cc := prog_11_method_1_code) (maxL := 1) (ret := none) (av := [.ref h0]) (Qc := qV G (fun (_ : Nat → Nat) => True) (wk_ko_text G Zd h0)) "PagedValues$Text" rfl (by decide) (Nat.le_of_ble_eq_true rfl) ?_
  intro p e s m below meth c ls A hx hb hr hlk hml hown hts hin hl hP hD hK hS hA hZ
  have hl : lv_has ls 1 [(0, .ref h0)] := hl
  refine lv_aload_n hx hb d11_1_0 rfl (lv_at hl 0 rfl) ?_
  refine W.objInit hx hb hown (hts _ (List.mem_cons_of_mem _ k40)) (hts _ (List.mem_cons_of_mem _ k33)) (hts _ (List.mem_cons_of_mem _ kobj)) rfl (by rw [hml]; exact hl.1) rfl d11_1_1 (Nat.le_of_ble_eq_true rfl) (Nat.le_of_ble_eq_true rfl) ?_
  refine W.eq (g2 := F0 m 4 ls []) rfl ?_
  refine lv_aload_n hx hb d11_1_4 rfl (lv_at hl 0 rfl) ?_
  refine lv_bipush (v := 80) hx hb d11_1_5 (by decide) ?_
  refine wn_a (D := G.1) (atype := .char) (ty := .char) (N' := 80) (a0 := (80, .inl (fun _ => 0))) hx hb (hts _ (List.mem_cons_of_mem _ k73)) rfl hK 0 rfl hP hD hS hA (fun _ => rfl) (by decide) (by decide) (by decide) (Nat.le_of_ble_eq_true rfl) (Nat.le_of_ble_eq_true rfl) d11_1_7 (fun q1 H hP hD hS => ?_)
  have hP : va_P G.1 vwCl [(h0, .inr (1, [.null, .null, .int 0, .int 0, .int 0])), (q1, .inl (G.2 0, 80, .inl (fun _ => 0)))] H := hP
  have hD : va_D A [(h0, .inr (1, [.null, .null, .int 0, .int 0, .int 0])), (q1, .inl (G.2 0, 80, .inl (fun _ => 0)))] := hD
  refine va_putF (D := G.1) (ci := 1) (v := .ref q1) (ty := (ft_1 0)) (C := r_1) (T := f_1) (N := 5) (ref := "PagedValues$Text") hx hb hts (fun w h => List.mem_cons_of_mem _ (ly_1 w h)) ft_1 ft_1_ok nm_1 hown hK hP hD hS 0 rfl rfl 0 (by decide) (hts _ (List.mem_cons_of_mem _ k75)) (fun _ h9 => h9) rfl hin rfl (by decide +kernel) rfl rfl (Nat.le_of_ble_eq_true rfl) d11_1_9 (fun H locs hP hD hS => ?_)
  have hP : va_P G.1 vwCl [(h0, .inr (1, [.ref q1, .null, .int 0, .int 0, .int 0])), (q1, .inl (G.2 0, 80, .inl (fun _ => 0)))] H := hP
  have hD : va_D A [(h0, .inr (1, [.ref q1, .null, .int 0, .int 0, .int 0])), (q1, .inl (G.2 0, 80, .inl (fun _ => 0)))] := hD
  refine lv_aload_n hx hb d11_1_12 rfl (lv_at hl 0 rfl) ?_
  refine va_new (D := G.1) (ci := 2) (fs := [.null, .int 0, .int 0, .int 0]) (C := r_2) (T := f_2) (N := 4) hx hb hts (fun w h => List.mem_cons_of_mem _ (ly_2 w h)) ft_2 ft_2_ok hown (hts _ (List.mem_cons_of_mem _ k41)) (hts _ (List.mem_cons_of_mem _ k42)) (hts _ (List.mem_cons_of_mem _ k4)) hK hP hD hS hA rfl (fun j hj => by rcases (show j = 0 ∨ j = 1 ∨ j = 2 ∨ j = 3 by omega) with rfl | rfl | rfl | rfl <;> rfl) (Nat.le_of_ble_eq_true rfl) (Nat.le_of_ble_eq_true rfl) d11_1_13 (fun q2 H hP hD hS => ?_)
  have hP : va_P G.1 vwCl [(h0, .inr (1, [.ref q1, .null, .int 0, .int 0, .int 0])), (q1, .inl (G.2 0, 80, .inl (fun _ => 0))), (q2, .inr (2, [.null, .int 0, .int 0, .int 0]))] H := hP
  have hD : va_D A [(h0, .inr (1, [.ref q1, .null, .int 0, .int 0, .int 0])), (q1, .inl (G.2 0, 80, .inl (fun _ => 0))), (q2, .inr (2, [.null, .int 0, .int 0, .int 0]))] := hD
  refine lv_dup hx hb d11_1_16 rfl ?_
  refine jI_v (As := []) (rest := [.ref q2, .ref h0]) (wr := [(h0, .inr (1, [.ref q1, .null, .int 0, .int 0, .int 0])), (q1, .inl (G.2 0, 80, .inl (fun _ => 0)))]) ⟨hx, hb, hml, hown, hts⟩ (ko_sb l G Zd q2 _) (kw_I (n := 0) hts k45 k43 k4 k44 rfl (by decide +kernel) ⟨Nat.le_of_ble_eq_true rfl, Nat.le_of_ble_eq_true rfl⟩) hP hD hK hS hA hZ [2] [0, 1] rfl rfl rfl rfl (by decide) rfl hl.1 rfl (Nat.le_of_ble_eq_true rfl) d11_1_17 ⟨Nat.le_of_ble_eq_true rfl, Nat.le_of_ble_eq_true rfl⟩ (fun u3 H locs hp hP hD hS => ?_)
  refine W.eq (g2 := F0 m 20 ls [.ref q2, .ref h0]) rfl ?_
  have hP : va_P G.1 vwCl [(h0, .inr (1, [.ref q1, .null, .int 0, .int 0, .int 0])), (q1, .inl (G.2 0, 80, .inl (fun _ => 0))), (q2, .inr (2, [.ref (u3 0), .int 0, .int 0, .int 0])), (u3 0, .inl (G.2 2, 16, .inl (fun _ => 0)))] H := hP
  have hD : va_D A [(h0, .inr (1, [.ref q1, .null, .int 0, .int 0, .int 0])), (q1, .inl (G.2 0, 80, .inl (fun _ => 0))), (q2, .inr (2, [.ref (u3 0), .int 0, .int 0, .int 0])), (u3 0, .inl (G.2 2, 16, .inl (fun _ => 0)))] := hD
  refine va_putF (D := G.1) (ci := 1) (v := .ref q2) (ty := (ft_1 1)) (C := r_1) (T := f_1) (N := 5) (ref := "PagedValues$Text") hx hb hts (fun w h => List.mem_cons_of_mem _ (ly_1 w h)) ft_1 ft_1_ok nm_1 hown hK hP hD hS 0 rfl rfl 1 (by decide) (hts _ (List.mem_cons_of_mem _ k76)) (fun _ h9 => h9) rfl hin rfl (by decide +kernel) rfl rfl (Nat.le_of_ble_eq_true rfl) d11_1_20 (fun H locs hP hD hS => ?_)
  have hP : va_P G.1 vwCl [(h0, .inr (1, [.ref q1, .ref q2, .int 0, .int 0, .int 0])), (q1, .inl (G.2 0, 80, .inl (fun _ => 0))), (q2, .inr (2, [.ref (u3 0), .int 0, .int 0, .int 0])), (u3 0, .inl (G.2 2, 16, .inl (fun _ => 0)))] H := hP
  have hD : va_D A [(h0, .inr (1, [.ref q1, .ref q2, .int 0, .int 0, .int 0])), (q1, .inl (G.2 0, 80, .inl (fun _ => 0))), (q2, .inr (2, [.ref (u3 0), .int 0, .int 0, .int 0])), (u3 0, .inl (G.2 2, 16, .inl (fun _ => 0)))] := hD
  refine lv_aload_n hx hb d11_1_23 rfl (lv_at hl 0 rfl) ?_
  refine lv_iconst (v := (-1)) hx hb d11_1_24 (by decide) ?_
  refine va_put (D := G.1) (ci := 1) (v := .int (-1)) (ty := .int) (C := r_1) (T := f_1) (N := 5) (ref := "PagedValues$Text") hx hb hts (fun w h => List.mem_cons_of_mem _ (ly_1 w h)) ft_1 ft_1_ok nm_1 hown hK hP hD hS 0 rfl rfl 4 (by decide) (hts _ (List.mem_cons_of_mem _ k81)) (fun _ h9 => h9) rfl (by decide +kernel) rfl rfl (Nat.le_of_ble_eq_true rfl) d11_1_25 (fun H locs hP hD hS => ?_)
  have hP : va_P G.1 vwCl [(h0, .inr (1, [.ref q1, .ref q2, .int 0, .int 0, .int (-1)])), (q1, .inl (G.2 0, 80, .inl (fun _ => 0))), (q2, .inr (2, [.ref (u3 0), .int 0, .int 0, .int 0])), (u3 0, .inl (G.2 2, 16, .inl (fun _ => 0)))] H := hP
  have hD : va_D A [(h0, .inr (1, [.ref q1, .ref q2, .int 0, .int 0, .int (-1)])), (q1, .inl (G.2 0, 80, .inl (fun _ => 0))), (q2, .inr (2, [.ref (u3 0), .int 0, .int 0, .int 0])), (u3 0, .inl (G.2 2, 16, .inl (fun _ => 0)))] := hD
  exact fin_v hx hb hr hlk hS (fun k => ([q1, q2, u3 0] : List Nat).getD k 0) trivial hP hD (Nat.le_of_ble_eq_true rfl) (Nat.le_of_ble_eq_true rfl) d11_1_28
abbrev wk_ko_parser (G : Gk) (Zd : Nat → Nat) (h0 : Nat) (u : Nat → Nat) : va_W := [(h0, .inr (3, [.int 0]))]
set_option maxHeartbeats 4000000 in
set_option maxRecDepth 100000 in
theorem ko_parser (l : Launch) (G : Gk) (Zd : Nat → Nat) (h0 : Nat) (sz : Nat) : Met l y13_1 (Cond.code y13_1 prog_13_method_1_code 1 none :: TB) (rmD 1 0 0) (va_Pc [.ref h0] (pcW G Zd [(h0, .inr (3, [.int 0]))] sz)) (qV G (fun (_ : Nat → Nat) => True) (wk_ko_parser G Zd h0) (va_A [(h0, .inr (3, [.int 0]))] sz)) 0 0 (va_A [(h0, .inr (3, [.int 0]))] sz) := by
  refine go (y := y13_1) (cc := prog_13_method_1_code) (maxL := 1) (ret := none) (av := [.ref h0]) (Qc := qV G (fun (_ : Nat → Nat) => True) (wk_ko_parser G Zd h0)) "PagedValues$ValueParser" rfl (by decide) (Nat.le_of_ble_eq_true rfl) ?_
  intro p e s m below meth c ls A hx hb hr hlk hml hown hts hin hl hP hD hK hS hA hZ
  have hl : lv_has ls 1 [(0, .ref h0)] := hl
  refine lv_aload_n hx hb d13_1_0 rfl (lv_at hl 0 rfl) ?_
  refine W.objInit hx hb hown (hts _ (List.mem_cons_of_mem _ k99)) (hts _ (List.mem_cons_of_mem _ k33)) (hts _ (List.mem_cons_of_mem _ kobj)) rfl (by rw [hml]; exact hl.1) rfl d13_1_1 (Nat.le_of_ble_eq_true rfl) (Nat.le_of_ble_eq_true rfl) ?_
  refine W.eq (g2 := F0 m 4 ls []) rfl ?_
  exact fin_v hx hb hr hlk hS (fun k => ([] : List Nat).getD k 0) trivial hP hD (Nat.le_of_ble_eq_true rfl) (Nat.le_of_ble_eq_true rfl) d13_1_4
abbrev wk_ko_pointer (G : Gk) (Zd : Nat → Nat) (h0 : Nat) (u : Nat → Nat) : va_W := [(h0, .inr (5, [.ref (u 0)])), (u 0, .inr (2, [.ref (u 1), .int 0, .int 0, .int 0])), (u 1, .inl (G.2 2, 16, .inl (fun _ => 0)))]
set_option maxHeartbeats 4000000 in
set_option maxRecDepth 100000 in
theorem ko_pointer (l : Launch) (G : Gk) (Zd : Nat → Nat) (h0 : Nat) (sz : Nat) : Met l y7_1 (Cond.code y7_1 prog_7_method_1_code 1 none :: TB) (rmD 3 2 20) (va_Pc [.ref h0] (pcW G Zd [(h0, .inr (5, [.null]))] sz)) (qV G (fun (_ : Nat → Nat) => True) (wk_ko_pointer G Zd h0) (va_A [(h0, .inr (5, [.null]))] sz)) 2 20 (va_A [(h0, .inr (5, [.null]))] sz) := by
  refine go (y := y7_1) (cc := prog_7_method_1_code) (maxL := 1) (ret := none) (av := [.ref h0]) (Qc := qV G (fun (_ : Nat → Nat) => True) (wk_ko_pointer G Zd h0)) "PagedValues$Pointer" rfl (by decide) (Nat.le_of_ble_eq_true rfl) ?_
  intro p e s m below meth c ls A hx hb hr hlk hml hown hts hin hl hP hD hK hS hA hZ
  have hl : lv_has ls 1 [(0, .ref h0)] := hl
  refine lv_aload_n hx hb d7_1_0 rfl (lv_at hl 0 rfl) ?_
  refine W.objInit hx hb hown (hts _ (List.mem_cons_of_mem _ k115)) (hts _ (List.mem_cons_of_mem _ k33)) (hts _ (List.mem_cons_of_mem _ kobj)) rfl (by rw [hml]; exact hl.1) rfl d7_1_1 (Nat.le_of_ble_eq_true rfl) (Nat.le_of_ble_eq_true rfl) ?_
  refine W.eq (g2 := F0 m 4 ls []) rfl ?_
  refine lv_aload_n hx hb d7_1_4 rfl (lv_at hl 0 rfl) ?_
  refine va_new (D := G.1) (ci := 2) (fs := [.null, .int 0, .int 0, .int 0]) (C := r_2) (T := f_2) (N := 4) hx hb hts (fun w h => List.mem_cons_of_mem _ (ly_2 w h)) ft_2 ft_2_ok hown (hts _ (List.mem_cons_of_mem _ k116)) (hts _ (List.mem_cons_of_mem _ k42)) (hts _ (List.mem_cons_of_mem _ k4)) hK hP hD hS hA rfl (fun j hj => by rcases (show j = 0 ∨ j = 1 ∨ j = 2 ∨ j = 3 by omega) with rfl | rfl | rfl | rfl <;> rfl) (Nat.le_of_ble_eq_true rfl) (Nat.le_of_ble_eq_true rfl) d7_1_5 (fun q1 H hP hD hS => ?_)
  have hP : va_P G.1 vwCl [(h0, .inr (5, [.null])), (q1, .inr (2, [.null, .int 0, .int 0, .int 0]))] H := hP
  have hD : va_D A [(h0, .inr (5, [.null])), (q1, .inr (2, [.null, .int 0, .int 0, .int 0]))] := hD
  refine lv_dup hx hb d7_1_8 rfl ?_
  refine jI_v (As := []) (rest := [.ref q1, .ref h0]) (wr := [(h0, .inr (5, [.null]))]) ⟨hx, hb, hml, hown, hts⟩ (ko_sb l G Zd q1 _) (kw_I (n := 0) hts k45 k117 k4 k44 rfl (by decide +kernel) ⟨Nat.le_of_ble_eq_true rfl, Nat.le_of_ble_eq_true rfl⟩) hP hD hK hS hA hZ [1] [0] rfl rfl rfl rfl (by decide) rfl hl.1 rfl (Nat.le_of_ble_eq_true rfl) d7_1_9 ⟨Nat.le_of_ble_eq_true rfl, Nat.le_of_ble_eq_true rfl⟩ (fun u2 H locs hp hP hD hS => ?_)
  refine W.eq (g2 := F0 m 12 ls [.ref q1, .ref h0]) rfl ?_
  have hP : va_P G.1 vwCl [(h0, .inr (5, [.null])), (q1, .inr (2, [.ref (u2 0), .int 0, .int 0, .int 0])), (u2 0, .inl (G.2 2, 16, .inl (fun _ => 0)))] H := hP
  have hD : va_D A [(h0, .inr (5, [.null])), (q1, .inr (2, [.ref (u2 0), .int 0, .int 0, .int 0])), (u2 0, .inl (G.2 2, 16, .inl (fun _ => 0)))] := hD
  refine va_putF (D := G.1) (ci := 5) (v := .ref q1) (ty := (ft_5 0)) (C := r_5) (T := f_5) (N := 1) (ref := "PagedValues$Pointer") hx hb hts (fun w h => List.mem_cons_of_mem _ (ly_5 w h)) ft_5 ft_5_ok nm_5 hown hK hP hD hS 0 rfl rfl 0 (by decide) (hts _ (List.mem_cons_of_mem _ k118)) (fun _ h9 => h9) rfl hin rfl (by decide +kernel) rfl rfl (Nat.le_of_ble_eq_true rfl) d7_1_12 (fun H locs hP hD hS => ?_)
  have hP : va_P G.1 vwCl [(h0, .inr (5, [.ref q1])), (q1, .inr (2, [.ref (u2 0), .int 0, .int 0, .int 0])), (u2 0, .inl (G.2 2, 16, .inl (fun _ => 0)))] H := hP
  have hD : va_D A [(h0, .inr (5, [.ref q1])), (q1, .inr (2, [.ref (u2 0), .int 0, .int 0, .int 0])), (u2 0, .inl (G.2 2, 16, .inl (fun _ => 0)))] := hD
  exact fin_v hx hb hr hlk hS (fun k => ([q1, u2 0] : List Nat).getD k 0) trivial hP hD (Nat.le_of_ble_eq_true rfl) (Nat.le_of_ble_eq_true rfl) d7_1_15
abbrev wk_ko_patcher (G : Gk) (Zd : Nat → Nat) (h0 : Nat) (u : Nat → Nat) : va_W := [(h0, .inr (4, [.ref (u 0), .null])), (u 0, .inr (5, [.ref (u 1)])), (u 1, .inr (2, [.ref (u 2), .int 0, .int 0, .int 0])), (u 2, .inl (G.2 2, 16, .inl (fun _ => 0)))]
set_option maxHeartbeats 4000000 in
set_option maxRecDepth 100000 in
theorem ko_patcher (l : Launch) (G : Gk) (Zd : Nat → Nat) (h0 : Nat) (sz : Nat) : Met l y6_1 (Cond.code y6_1 prog_6_method_1_code 1 none :: TB) (rmD 4 3 21) (va_Pc [.ref h0] (pcW G Zd [(h0, .inr (4, [.null, .null]))] sz)) (qV G (fun (_ : Nat → Nat) => True) (wk_ko_patcher G Zd h0) (va_A [(h0, .inr (4, [.null, .null]))] sz)) 3 21 (va_A [(h0, .inr (4, [.null, .null]))] sz) := by
  refine go (y := y6_1) (cc := prog_6_method_1_code) (maxL := 1) (ret := none) (av := [.ref h0]) (Qc := qV G (fun (_ : Nat → Nat) => True) (wk_ko_patcher G Zd h0)) "PagedValues$Patcher" rfl (by decide) (Nat.le_of_ble_eq_true rfl) ?_
  intro p e s m below meth c ls A hx hb hr hlk hml hown hts hin hl hP hD hK hS hA hZ
  have hl : lv_has ls 1 [(0, .ref h0)] := hl
  refine lv_aload_n hx hb d6_1_0 rfl (lv_at hl 0 rfl) ?_
  refine W.objInit hx hb hown (hts _ (List.mem_cons_of_mem _ k109)) (hts _ (List.mem_cons_of_mem _ k33)) (hts _ (List.mem_cons_of_mem _ kobj)) rfl (by rw [hml]; exact hl.1) rfl d6_1_1 (Nat.le_of_ble_eq_true rfl) (Nat.le_of_ble_eq_true rfl) ?_
  refine W.eq (g2 := F0 m 4 ls []) rfl ?_
  refine lv_aload_n hx hb d6_1_4 rfl (lv_at hl 0 rfl) ?_
  refine va_new (D := G.1) (ci := 5) (fs := [.null]) (C := r_5) (T := f_5) (N := 1) hx hb hts (fun w h => List.mem_cons_of_mem _ (ly_5 w h)) ft_5 ft_5_ok hown (hts _ (List.mem_cons_of_mem _ k110)) (hts _ (List.mem_cons_of_mem _ k111)) (hts _ (List.mem_cons_of_mem _ k9)) hK hP hD hS hA rfl (fun j hj => by rcases (show j = 0 by omega) with rfl <;> rfl) (Nat.le_of_ble_eq_true rfl) (Nat.le_of_ble_eq_true rfl) d6_1_5 (fun q1 H hP hD hS => ?_)
  have hP : va_P G.1 vwCl [(h0, .inr (4, [.null, .null])), (q1, .inr (5, [.null]))] H := hP
  have hD : va_D A [(h0, .inr (4, [.null, .null])), (q1, .inr (5, [.null]))] := hD
  refine lv_dup hx hb d6_1_8 rfl ?_
  refine jIN_v (As := []) (rest := [.ref q1, .ref h0]) (wr := [(h0, .inr (4, [.null, .null]))]) ⟨hx, hb, hml, hown, hts⟩ (ko_pointer l G Zd q1 _) (kw_IN (n := 0) hts hZ.1 k114 kn112 k9 k113 rfl (by decide +kernel) ⟨Nat.le_of_ble_eq_true rfl, Nat.le_of_ble_eq_true rfl⟩) hP hD hK hS hA hZ [1] [0] rfl rfl rfl rfl (by decide) rfl hl.1 rfl (Nat.le_of_ble_eq_true rfl) d6_1_9 ⟨Nat.le_of_ble_eq_true rfl, Nat.le_of_ble_eq_true rfl⟩ (fun u2 H locs hp hP hD hS => ?_)
  refine W.eq (g2 := F0 m 12 ls [.ref q1, .ref h0]) rfl ?_
  have hP : va_P G.1 vwCl [(h0, .inr (4, [.null, .null])), (q1, .inr (5, [.ref (u2 0)])), (u2 0, .inr (2, [.ref (u2 1), .int 0, .int 0, .int 0])), (u2 1, .inl (G.2 2, 16, .inl (fun _ => 0)))] H := hP
  have hD : va_D A [(h0, .inr (4, [.null, .null])), (q1, .inr (5, [.ref (u2 0)])), (u2 0, .inr (2, [.ref (u2 1), .int 0, .int 0, .int 0])), (u2 1, .inl (G.2 2, 16, .inl (fun _ => 0)))] := hD
  refine va_putF (D := G.1) (ci := 4) (v := .ref q1) (ty := (ft_4 0)) (C := r_4) (T := f_4) (N := 2) (ref := "PagedValues$Patcher") hx hb hts (fun w h => List.mem_cons_of_mem _ (ly_4 w h)) ft_4 ft_4_ok nm_4 hown hK hP hD hS 0 rfl rfl 0 (by decide) (hts _ (List.mem_cons_of_mem _ k122)) (fun _ h9 => h9) rfl hin rfl (by decide +kernel) rfl rfl (Nat.le_of_ble_eq_true rfl) d6_1_12 (fun H locs hP hD hS => ?_)
  have hP : va_P G.1 vwCl [(h0, .inr (4, [.ref q1, .null])), (q1, .inr (5, [.ref (u2 0)])), (u2 0, .inr (2, [.ref (u2 1), .int 0, .int 0, .int 0])), (u2 1, .inl (G.2 2, 16, .inl (fun _ => 0)))] H := hP
  have hD : va_D A [(h0, .inr (4, [.ref q1, .null])), (q1, .inr (5, [.ref (u2 0)])), (u2 0, .inr (2, [.ref (u2 1), .int 0, .int 0, .int 0])), (u2 1, .inl (G.2 2, 16, .inl (fun _ => 0)))] := hD
  exact fin_v hx hb hr hlk hS (fun k => ([q1, u2 0, u2 1] : List Nat).getD k 0) trivial hP hD (Nat.le_of_ble_eq_true rfl) (Nat.le_of_ble_eq_true rfl) d6_1_15
abbrev wk_ko_selector (G : Gk) (Zd : Nat → Nat) (h0 : Nat) (u : Nat → Nat) : va_W := [(h0, .inr (7, [.int 0, .int 0, .int 0, .ref (Zd 0), .int 0]))]
set_option maxHeartbeats 4000000 in
set_option maxRecDepth 100000 in
theorem ko_selector (l : Launch) (G : Gk) (Zd : Nat → Nat) (h0 : Nat) (sz : Nat) : Met l y9_1 (Cond.code y9_1 prog_9_method_1_code 1 none :: TB) (rmD 1 0 0) (va_Pc [.ref h0] (pcW G Zd [(h0, .inr (7, [.int 0, .int 0, .int 0, .null, .int 0]))] sz)) (qV G (fun (_ : Nat → Nat) => True) (wk_ko_selector G Zd h0) (va_A [(h0, .inr (7, [.int 0, .int 0, .int 0, .null, .int 0]))] sz)) 0 0 (va_A [(h0, .inr (7, [.int 0, .int 0, .int 0, .null, .int 0]))] sz) := by
  refine go (y := y9_1) (cc := prog_9_method_1_code) (maxL := 1) (ret := none) (av := [.ref h0]) (Qc := qV G (fun (_ : Nat → Nat) => True) (wk_ko_selector G Zd h0)) "PagedValues$Selector" rfl (by decide) (Nat.le_of_ble_eq_true rfl) ?_
  intro p e s m below meth c ls A hx hb hr hlk hml hown hts hin hl hP hD hK hS hA hZ
  have hl : lv_has ls 1 [(0, .ref h0)] := hl
  refine lv_aload_n hx hb d9_1_0 rfl (lv_at hl 0 rfl) ?_
  refine W.objInit hx hb hown (hts _ (List.mem_cons_of_mem _ k142)) (hts _ (List.mem_cons_of_mem _ k33)) (hts _ (List.mem_cons_of_mem _ kobj)) rfl (by rw [hml]; exact hl.1) rfl d9_1_1 (Nat.le_of_ble_eq_true rfl) (Nat.le_of_ble_eq_true rfl) ?_
  refine W.eq (g2 := F0 m 4 ls []) rfl ?_
  refine lv_aload_n hx hb d9_1_4 rfl (lv_at hl 0 rfl) ?_
  refine va_ldcS hx hb hown hZ.2.2.1 d9_1_5 ?_
  refine va_put (D := G.1) (ci := 7) (v := .ref (Zd 0)) (ty := (ft_7 3)) (C := r_7) (T := f_7) (N := 5) (ref := "PagedValues$Selector") hx hb hts (fun w h => List.mem_cons_of_mem _ (ly_7 w h)) ft_7 ft_7_ok nm_7 hown hK hP hD hS 0 rfl rfl 3 (by decide) (hts _ (List.mem_cons_of_mem _ k150)) (fun _ h9 => h9) rfl (by decide +kernel) rfl rfl (Nat.le_of_ble_eq_true rfl) d9_1_7 (fun H locs hP hD hS => ?_)
  have hP : va_P G.1 vwCl [(h0, .inr (7, [.int 0, .int 0, .int 0, .ref (Zd 0), .int 0]))] H := hP
  have hD : va_D A [(h0, .inr (7, [.int 0, .int 0, .int 0, .ref (Zd 0), .int 0]))] := hD
  exact fin_v hx hb hr hlk hS (fun k => ([] : List Nat).getD k 0) trivial hP hD (Nat.le_of_ble_eq_true rfl) (Nat.le_of_ble_eq_true rfl) d9_1_10
abbrev wk_ko_query (G : Gk) (Zd : Nat → Nat) (h0 : Nat) (u : Nat → Nat) : va_W := [(h0, .inr (6, [.ref (u 0), .int 0])), (u 0, .inl (G.2 7, 8, .inr (.inr (.inr (.inr (va_up (va_up (va_up (va_up (va_up (va_up (va_up (va_up (fun _ => none) 0 (some (u 1))) 1 (some (u 2))) 2 (some (u 3))) 3 (some (u 4))) 4 (some (u 5))) 5 (some (u 6))) 6 (some (u 7))) 7 (some (u 8)))))))), (u 1, .inr (7, [.int 0, .int 0, .int 0, .ref (Zd 0), .int 0])), (u 2, .inr (7, [.int 0, .int 0, .int 0, .ref (Zd 0), .int 0])), (u 3, .inr (7, [.int 0, .int 0, .int 0, .ref (Zd 0), .int 0])), (u 4, .inr (7, [.int 0, .int 0, .int 0, .ref (Zd 0), .int 0])), (u 5, .inr (7, [.int 0, .int 0, .int 0, .ref (Zd 0), .int 0])), (u 6, .inr (7, [.int 0, .int 0, .int 0, .ref (Zd 0), .int 0])), (u 7, .inr (7, [.int 0, .int 0, .int 0, .ref (Zd 0), .int 0])), (u 8, .inr (7, [.int 0, .int 0, .int 0, .ref (Zd 0), .int 0]))]
set_option maxHeartbeats 4000000 in
set_option maxRecDepth 100000 in
theorem ko_query (l : Launch) (G : Gk) (Zd : Nat → Nat) (h0 : Nat) (sz : Nat) : Met l y8_1 (Cond.code y8_1 prog_8_method_1_code 2 none :: TB) (rmD 2 9 48) (va_Pc [.ref h0] (pcW G Zd [(h0, .inr (6, [.null, .int 0]))] sz)) (qV G (fun (_ : Nat → Nat) => True) (wk_ko_query G Zd h0) (va_A [(h0, .inr (6, [.null, .int 0]))] sz)) 9 48 (va_A [(h0, .inr (6, [.null, .int 0]))] sz) := by
  refine go (y := y8_1) (cc := prog_8_method_1_code) (maxL := 2) (ret := none) (av := [.ref h0]) (Qc := qV G (fun (_ : Nat → Nat) => True) (wk_ko_query G Zd h0)) "PagedValues$Query" rfl (by decide) (Nat.le_of_ble_eq_true rfl) ?_
  intro p e s m below meth c ls A hx hb hr hlk hml hown hts hin hl hP hD hK hS hA hZ
  have hl : lv_has ls 2 [(0, .ref h0)] := hl
  refine lv_aload_n hx hb d8_1_0 rfl (lv_at hl 0 rfl) ?_
  refine W.objInit hx hb hown (hts _ (List.mem_cons_of_mem _ k135)) (hts _ (List.mem_cons_of_mem _ k33)) (hts _ (List.mem_cons_of_mem _ kobj)) rfl (by rw [hml]; exact hl.1) rfl d8_1_1 (Nat.le_of_ble_eq_true rfl) (Nat.le_of_ble_eq_true rfl) ?_
  refine W.eq (g2 := F0 m 4 ls []) rfl ?_
  refine lv_aload_n hx hb d8_1_4 rfl (lv_at hl 0 rfl) ?_
  refine lv_bipush (v := 8) hx hb d8_1_5 (by decide) ?_
  refine wn_q (D := G.1) (N' := 8) hx hb hown (hts _ (List.mem_cons_of_mem _ k136)) hZ.2.2.2.2.2 hK 7 rfl hP hD hS hA (by decide) (by decide) (by decide) (Nat.le_of_ble_eq_true rfl) (Nat.le_of_ble_eq_true rfl) d8_1_7 (fun q1 H hP hD hS => ?_)
  have hP : va_P G.1 vwCl [(h0, .inr (6, [.null, .int 0])), (q1, .inl (G.2 7, 8, .inr (.inr (.inr (.inr (fun _ => none))))))] H := hP
  have hD : va_D A [(h0, .inr (6, [.null, .int 0])), (q1, .inl (G.2 7, 8, .inr (.inr (.inr (.inr (fun _ => none))))))] := hD
  refine va_putF (D := G.1) (ci := 6) (v := .ref q1) (ty := (ft_6 0)) (C := r_6) (T := f_6) (N := 2) (ref := "PagedValues$Query") hx hb hts (fun w h => List.mem_cons_of_mem _ (ly_6 w h)) ft_6 ft_6_ok nm_6 hown hK hP hD hS 0 rfl rfl 0 (by decide) (hts _ (List.mem_cons_of_mem _ k166)) (fun _ h9 => h9) rfl hin rfl (by decide +kernel) rfl rfl (Nat.le_of_ble_eq_true rfl) d8_1_10 (fun H locs hP hD hS => ?_)
  have hP : va_P G.1 vwCl [(h0, .inr (6, [.ref q1, .int 0])), (q1, .inl (G.2 7, 8, .inr (.inr (.inr (.inr (fun _ => none))))))] H := hP
  have hD : va_D A [(h0, .inr (6, [.ref q1, .int 0])), (q1, .inl (G.2 7, 8, .inr (.inr (.inr (.inr (fun _ => none))))))] := hD
  refine lv_iconst (v := 0) hx hb d8_1_13 (by decide) ?_
  refine lv_istore_n (lv' := [(1, .int 0), (0, .ref h0)]) hx hb d8_1_14 rfl hl (by decide) rfl (fun ls hl => ?_)
  refine lv_iload_n hx hb d8_1_15 rfl (lv_at hl 0 rfl) ?_
  refine lv_bipush (v := 8) hx hb d8_1_16 (by decide) ?_
  refine lv_icmp_ge (tgt := 40) hx hb d8_1_18 rfl (fun hc => absurd hc (by decide)) (fun _ => ?_)
  refine lv_aload_n hx hb d8_1_21 rfl (lv_at hl 1 rfl) ?_
  refine va_get (D := G.1) (ci := 6) (v := .ref q1) (C := r_6) (T := f_6) (N := 2) (ref := "PagedValues$Query") hx hb hts (fun w h => List.mem_cons_of_mem _ (ly_6 w h)) hown hK hP 0 rfl rfl 0 (by decide) (hts _ (List.mem_cons_of_mem _ k166)) (fun _ h9 => h9) rfl d8_1_22 ?_
  refine lv_iload_n hx hb d8_1_25 rfl (lv_at hl 0 rfl) ?_
  refine va_new (D := G.1) (ci := 7) (fs := [.int 0, .int 0, .int 0, .null, .int 0]) (C := r_7) (T := f_7) (N := 5) hx hb hts (fun w h => List.mem_cons_of_mem _ (ly_7 w h)) ft_7 ft_7_ok hown (hts _ (List.mem_cons_of_mem _ k136)) (hts _ (List.mem_cons_of_mem _ k138)) (hts _ (List.mem_cons_of_mem _ k11)) hK hP hD hS hA rfl (fun j hj => by rcases (show j = 0 ∨ j = 1 ∨ j = 2 ∨ j = 3 ∨ j = 4 by omega) with rfl | rfl | rfl | rfl | rfl <;> rfl) (Nat.le_of_ble_eq_true rfl) (Nat.le_of_ble_eq_true rfl) d8_1_26 (fun q2 H hP hD hS => ?_)
  have hP : va_P G.1 vwCl [(h0, .inr (6, [.ref q1, .int 0])), (q1, .inl (G.2 7, 8, .inr (.inr (.inr (.inr (fun _ => none)))))), (q2, .inr (7, [.int 0, .int 0, .int 0, .null, .int 0]))] H := hP
  have hD : va_D A [(h0, .inr (6, [.ref q1, .int 0])), (q1, .inl (G.2 7, 8, .inr (.inr (.inr (.inr (fun _ => none)))))), (q2, .inr (7, [.int 0, .int 0, .int 0, .null, .int 0]))] := hD
  refine lv_dup hx hb d8_1_29 rfl ?_
  refine jIN_v (As := []) (rest := [.ref q2, .int 0, .ref q1]) (wr := [(h0, .inr (6, [.ref q1, .int 0])), (q1, .inl (G.2 7, 8, .inr (.inr (.inr (.inr (fun _ => none))))))]) ⟨hx, hb, hml, hown, hts⟩ (ko_selector l G Zd q2 _) (kw_IN (n := 0) hts hZ.1 k141 kn139 k11 k140 rfl (by decide +kernel) ⟨Nat.le_of_ble_eq_true rfl, Nat.le_of_ble_eq_true rfl⟩) hP hD hK hS hA hZ [2] [0, 1] rfl rfl rfl rfl (by decide) rfl hl.1 rfl (Nat.le_of_ble_eq_true rfl) d8_1_30 ⟨Nat.le_of_ble_eq_true rfl, Nat.le_of_ble_eq_true rfl⟩ (fun u3 H locs hp hP hD hS => ?_)
  refine W.eq (g2 := F0 m 33 ls [.ref q2, .int 0, .ref q1]) rfl ?_
  have hP : va_P G.1 vwCl [(h0, .inr (6, [.ref q1, .int 0])), (q1, .inl (G.2 7, 8, .inr (.inr (.inr (.inr (fun _ => none)))))), (q2, .inr (7, [.int 0, .int 0, .int 0, .ref (Zd 0), .int 0]))] H := hP
  have hD : va_D A [(h0, .inr (6, [.ref q1, .int 0])), (q1, .inl (G.2 7, 8, .inr (.inr (.inr (.inr (fun _ => none)))))), (q2, .inr (7, [.int 0, .int 0, .int 0, .ref (Zd 0), .int 0]))] := hD
  refine va_astq (D := G.1) hx hb hK hP hD hS 1 7 2 7 rfl rfl rfl rfl (i := 0) (by unfold vp_in; decide) d8_1_33 (fun H locs hP hD hS => ?_)
  have hP : va_P G.1 vwCl [(h0, .inr (6, [.ref q1, .int 0])), (q1, .inl (G.2 7, 8, .inr (.inr (.inr (.inr (va_up (fun _ => none) 0 (some q2))))))), (q2, .inr (7, [.int 0, .int 0, .int 0, .ref (Zd 0), .int 0]))] H := hP
  have hD : va_D A [(h0, .inr (6, [.ref q1, .int 0])), (q1, .inl (G.2 7, 8, .inr (.inr (.inr (.inr (va_up (fun _ => none) 0 (some q2))))))), (q2, .inr (7, [.int 0, .int 0, .int 0, .ref (Zd 0), .int 0]))] := hD
  refine lv_iinc (k := 0) (v := 1) (lv' := [(1, .int 1), (0, .ref h0)]) hx hb d8_1_34 hl rfl (by first | decide | rfl) (by decide) rfl (fun ls hl => ?_)
  refine lv_goto (tgt := 15) hx hb d8_1_37 rfl ?_
  refine lv_iload_n hx hb d8_1_15 rfl (lv_at hl 0 rfl) ?_
  refine lv_bipush (v := 8) hx hb d8_1_16 (by decide) ?_
  refine lv_icmp_ge (tgt := 40) hx hb d8_1_18 rfl (fun hc => absurd hc (by decide)) (fun _ => ?_)
  refine lv_aload_n hx hb d8_1_21 rfl (lv_at hl 1 rfl) ?_
  refine va_get (D := G.1) (ci := 6) (v := .ref q1) (C := r_6) (T := f_6) (N := 2) (ref := "PagedValues$Query") hx hb hts (fun w h => List.mem_cons_of_mem _ (ly_6 w h)) hown hK hP 0 rfl rfl 0 (by decide) (hts _ (List.mem_cons_of_mem _ k166)) (fun _ h9 => h9) rfl d8_1_22 ?_
  refine lv_iload_n hx hb d8_1_25 rfl (lv_at hl 0 rfl) ?_
  refine va_new (D := G.1) (ci := 7) (fs := [.int 0, .int 0, .int 0, .null, .int 0]) (C := r_7) (T := f_7) (N := 5) hx hb hts (fun w h => List.mem_cons_of_mem _ (ly_7 w h)) ft_7 ft_7_ok hown (hts _ (List.mem_cons_of_mem _ k136)) (hts _ (List.mem_cons_of_mem _ k138)) (hts _ (List.mem_cons_of_mem _ k11)) hK hP hD hS hA rfl (fun j hj => by rcases (show j = 0 ∨ j = 1 ∨ j = 2 ∨ j = 3 ∨ j = 4 by omega) with rfl | rfl | rfl | rfl | rfl <;> rfl) (Nat.le_of_ble_eq_true rfl) (Nat.le_of_ble_eq_true rfl) d8_1_26 (fun q4 H hP hD hS => ?_)
  have hP : va_P G.1 vwCl [(h0, .inr (6, [.ref q1, .int 0])), (q1, .inl (G.2 7, 8, .inr (.inr (.inr (.inr (va_up (fun _ => none) 0 (some q2))))))), (q2, .inr (7, [.int 0, .int 0, .int 0, .ref (Zd 0), .int 0])), (q4, .inr (7, [.int 0, .int 0, .int 0, .null, .int 0]))] H := hP
  have hD : va_D A [(h0, .inr (6, [.ref q1, .int 0])), (q1, .inl (G.2 7, 8, .inr (.inr (.inr (.inr (va_up (fun _ => none) 0 (some q2))))))), (q2, .inr (7, [.int 0, .int 0, .int 0, .ref (Zd 0), .int 0])), (q4, .inr (7, [.int 0, .int 0, .int 0, .null, .int 0]))] := hD
  refine lv_dup hx hb d8_1_29 rfl ?_
  refine jIN_v (As := []) (rest := [.ref q4, .int 1, .ref q1]) (wr := [(h0, .inr (6, [.ref q1, .int 0])), (q1, .inl (G.2 7, 8, .inr (.inr (.inr (.inr (va_up (fun _ => none) 0 (some q2))))))), (q2, .inr (7, [.int 0, .int 0, .int 0, .ref (Zd 0), .int 0]))]) ⟨hx, hb, hml, hown, hts⟩ (ko_selector l G Zd q4 _) (kw_IN (n := 0) hts hZ.1 k141 kn139 k11 k140 rfl (by decide +kernel) ⟨Nat.le_of_ble_eq_true rfl, Nat.le_of_ble_eq_true rfl⟩) hP hD hK hS hA hZ [3] [0, 1, 2] rfl rfl rfl rfl (by decide) rfl hl.1 rfl (Nat.le_of_ble_eq_true rfl) d8_1_30 ⟨Nat.le_of_ble_eq_true rfl, Nat.le_of_ble_eq_true rfl⟩ (fun u5 H locs hp hP hD hS => ?_)
  refine W.eq (g2 := F0 m 33 ls [.ref q4, .int 1, .ref q1]) rfl ?_
  have hP : va_P G.1 vwCl [(h0, .inr (6, [.ref q1, .int 0])), (q1, .inl (G.2 7, 8, .inr (.inr (.inr (.inr (va_up (fun _ => none) 0 (some q2))))))), (q2, .inr (7, [.int 0, .int 0, .int 0, .ref (Zd 0), .int 0])), (q4, .inr (7, [.int 0, .int 0, .int 0, .ref (Zd 0), .int 0]))] H := hP
  have hD : va_D A [(h0, .inr (6, [.ref q1, .int 0])), (q1, .inl (G.2 7, 8, .inr (.inr (.inr (.inr (va_up (fun _ => none) 0 (some q2))))))), (q2, .inr (7, [.int 0, .int 0, .int 0, .ref (Zd 0), .int 0])), (q4, .inr (7, [.int 0, .int 0, .int 0, .ref (Zd 0), .int 0]))] := hD
  refine va_astq (D := G.1) hx hb hK hP hD hS 1 7 3 7 rfl rfl rfl rfl (i := 1) (by unfold vp_in; decide) d8_1_33 (fun H locs hP hD hS => ?_)
  have hP : va_P G.1 vwCl [(h0, .inr (6, [.ref q1, .int 0])), (q1, .inl (G.2 7, 8, .inr (.inr (.inr (.inr (va_up (va_up (fun _ => none) 0 (some q2)) 1 (some q4))))))), (q2, .inr (7, [.int 0, .int 0, .int 0, .ref (Zd 0), .int 0])), (q4, .inr (7, [.int 0, .int 0, .int 0, .ref (Zd 0), .int 0]))] H := hP
  have hD : va_D A [(h0, .inr (6, [.ref q1, .int 0])), (q1, .inl (G.2 7, 8, .inr (.inr (.inr (.inr (va_up (va_up (fun _ => none) 0 (some q2)) 1 (some q4))))))), (q2, .inr (7, [.int 0, .int 0, .int 0, .ref (Zd 0), .int 0])), (q4, .inr (7, [.int 0, .int 0, .int 0, .ref (Zd 0), .int 0]))] := hD
  refine lv_iinc (k := 0) (v := 2) (lv' := [(1, .int 2), (0, .ref h0)]) hx hb d8_1_34 hl rfl (by first | decide | rfl) (by decide) rfl (fun ls hl => ?_)
  refine lv_goto (tgt := 15) hx hb d8_1_37 rfl ?_
  refine lv_iload_n hx hb d8_1_15 rfl (lv_at hl 0 rfl) ?_
  refine lv_bipush (v := 8) hx hb d8_1_16 (by decide) ?_
  refine lv_icmp_ge (tgt := 40) hx hb d8_1_18 rfl (fun hc => absurd hc (by decide)) (fun _ => ?_)
  refine lv_aload_n hx hb d8_1_21 rfl (lv_at hl 1 rfl) ?_
  refine va_get (D := G.1) (ci := 6) (v := .ref q1) (C := r_6) (T := f_6) (N := 2) (ref := "PagedValues$Query") hx hb hts (fun w h => List.mem_cons_of_mem _ (ly_6 w h)) hown hK hP 0 rfl rfl 0 (by decide) (hts _ (List.mem_cons_of_mem _ k166)) (fun _ h9 => h9) rfl d8_1_22 ?_
  refine lv_iload_n hx hb d8_1_25 rfl (lv_at hl 0 rfl) ?_
  refine va_new (D := G.1) (ci := 7) (fs := [.int 0, .int 0, .int 0, .null, .int 0]) (C := r_7) (T := f_7) (N := 5) hx hb hts (fun w h => List.mem_cons_of_mem _ (ly_7 w h)) ft_7 ft_7_ok hown (hts _ (List.mem_cons_of_mem _ k136)) (hts _ (List.mem_cons_of_mem _ k138)) (hts _ (List.mem_cons_of_mem _ k11)) hK hP hD hS hA rfl (fun j hj => by rcases (show j = 0 ∨ j = 1 ∨ j = 2 ∨ j = 3 ∨ j = 4 by omega) with rfl | rfl | rfl | rfl | rfl <;> rfl) (Nat.le_of_ble_eq_true rfl) (Nat.le_of_ble_eq_true rfl) d8_1_26 (fun q6 H hP hD hS => ?_)
  have hP : va_P G.1 vwCl [(h0, .inr (6, [.ref q1, .int 0])), (q1, .inl (G.2 7, 8, .inr (.inr (.inr (.inr (va_up (va_up (fun _ => none) 0 (some q2)) 1 (some q4))))))), (q2, .inr (7, [.int 0, .int 0, .int 0, .ref (Zd 0), .int 0])), (q4, .inr (7, [.int 0, .int 0, .int 0, .ref (Zd 0), .int 0])), (q6, .inr (7, [.int 0, .int 0, .int 0, .null, .int 0]))] H := hP
  have hD : va_D A [(h0, .inr (6, [.ref q1, .int 0])), (q1, .inl (G.2 7, 8, .inr (.inr (.inr (.inr (va_up (va_up (fun _ => none) 0 (some q2)) 1 (some q4))))))), (q2, .inr (7, [.int 0, .int 0, .int 0, .ref (Zd 0), .int 0])), (q4, .inr (7, [.int 0, .int 0, .int 0, .ref (Zd 0), .int 0])), (q6, .inr (7, [.int 0, .int 0, .int 0, .null, .int 0]))] := hD
  refine lv_dup hx hb d8_1_29 rfl ?_
  refine jIN_v (As := []) (rest := [.ref q6, .int 2, .ref q1]) (wr := [(h0, .inr (6, [.ref q1, .int 0])), (q1, .inl (G.2 7, 8, .inr (.inr (.inr (.inr (va_up (va_up (fun _ => none) 0 (some q2)) 1 (some q4))))))), (q2, .inr (7, [.int 0, .int 0, .int 0, .ref (Zd 0), .int 0])), (q4, .inr (7, [.int 0, .int 0, .int 0, .ref (Zd 0), .int 0]))]) ⟨hx, hb, hml, hown, hts⟩ (ko_selector l G Zd q6 _) (kw_IN (n := 0) hts hZ.1 k141 kn139 k11 k140 rfl (by decide +kernel) ⟨Nat.le_of_ble_eq_true rfl, Nat.le_of_ble_eq_true rfl⟩) hP hD hK hS hA hZ [4] [0, 1, 2, 3] rfl rfl rfl rfl (by decide) rfl hl.1 rfl (Nat.le_of_ble_eq_true rfl) d8_1_30 ⟨Nat.le_of_ble_eq_true rfl, Nat.le_of_ble_eq_true rfl⟩ (fun u7 H locs hp hP hD hS => ?_)
  refine W.eq (g2 := F0 m 33 ls [.ref q6, .int 2, .ref q1]) rfl ?_
  have hP : va_P G.1 vwCl [(h0, .inr (6, [.ref q1, .int 0])), (q1, .inl (G.2 7, 8, .inr (.inr (.inr (.inr (va_up (va_up (fun _ => none) 0 (some q2)) 1 (some q4))))))), (q2, .inr (7, [.int 0, .int 0, .int 0, .ref (Zd 0), .int 0])), (q4, .inr (7, [.int 0, .int 0, .int 0, .ref (Zd 0), .int 0])), (q6, .inr (7, [.int 0, .int 0, .int 0, .ref (Zd 0), .int 0]))] H := hP
  have hD : va_D A [(h0, .inr (6, [.ref q1, .int 0])), (q1, .inl (G.2 7, 8, .inr (.inr (.inr (.inr (va_up (va_up (fun _ => none) 0 (some q2)) 1 (some q4))))))), (q2, .inr (7, [.int 0, .int 0, .int 0, .ref (Zd 0), .int 0])), (q4, .inr (7, [.int 0, .int 0, .int 0, .ref (Zd 0), .int 0])), (q6, .inr (7, [.int 0, .int 0, .int 0, .ref (Zd 0), .int 0]))] := hD
  refine va_astq (D := G.1) hx hb hK hP hD hS 1 7 4 7 rfl rfl rfl rfl (i := 2) (by unfold vp_in; decide) d8_1_33 (fun H locs hP hD hS => ?_)
  have hP : va_P G.1 vwCl [(h0, .inr (6, [.ref q1, .int 0])), (q1, .inl (G.2 7, 8, .inr (.inr (.inr (.inr (va_up (va_up (va_up (fun _ => none) 0 (some q2)) 1 (some q4)) 2 (some q6))))))), (q2, .inr (7, [.int 0, .int 0, .int 0, .ref (Zd 0), .int 0])), (q4, .inr (7, [.int 0, .int 0, .int 0, .ref (Zd 0), .int 0])), (q6, .inr (7, [.int 0, .int 0, .int 0, .ref (Zd 0), .int 0]))] H := hP
  have hD : va_D A [(h0, .inr (6, [.ref q1, .int 0])), (q1, .inl (G.2 7, 8, .inr (.inr (.inr (.inr (va_up (va_up (va_up (fun _ => none) 0 (some q2)) 1 (some q4)) 2 (some q6))))))), (q2, .inr (7, [.int 0, .int 0, .int 0, .ref (Zd 0), .int 0])), (q4, .inr (7, [.int 0, .int 0, .int 0, .ref (Zd 0), .int 0])), (q6, .inr (7, [.int 0, .int 0, .int 0, .ref (Zd 0), .int 0]))] := hD
  refine lv_iinc (k := 0) (v := 3) (lv' := [(1, .int 3), (0, .ref h0)]) hx hb d8_1_34 hl rfl (by first | decide | rfl) (by decide) rfl (fun ls hl => ?_)
  refine lv_goto (tgt := 15) hx hb d8_1_37 rfl ?_
  refine lv_iload_n hx hb d8_1_15 rfl (lv_at hl 0 rfl) ?_
  refine lv_bipush (v := 8) hx hb d8_1_16 (by decide) ?_
  refine lv_icmp_ge (tgt := 40) hx hb d8_1_18 rfl (fun hc => absurd hc (by decide)) (fun _ => ?_)
  refine lv_aload_n hx hb d8_1_21 rfl (lv_at hl 1 rfl) ?_
  refine va_get (D := G.1) (ci := 6) (v := .ref q1) (C := r_6) (T := f_6) (N := 2) (ref := "PagedValues$Query") hx hb hts (fun w h => List.mem_cons_of_mem _ (ly_6 w h)) hown hK hP 0 rfl rfl 0 (by decide) (hts _ (List.mem_cons_of_mem _ k166)) (fun _ h9 => h9) rfl d8_1_22 ?_
  refine lv_iload_n hx hb d8_1_25 rfl (lv_at hl 0 rfl) ?_
  refine va_new (D := G.1) (ci := 7) (fs := [.int 0, .int 0, .int 0, .null, .int 0]) (C := r_7) (T := f_7) (N := 5) hx hb hts (fun w h => List.mem_cons_of_mem _ (ly_7 w h)) ft_7 ft_7_ok hown (hts _ (List.mem_cons_of_mem _ k136)) (hts _ (List.mem_cons_of_mem _ k138)) (hts _ (List.mem_cons_of_mem _ k11)) hK hP hD hS hA rfl (fun j hj => by rcases (show j = 0 ∨ j = 1 ∨ j = 2 ∨ j = 3 ∨ j = 4 by omega) with rfl | rfl | rfl | rfl | rfl <;> rfl) (Nat.le_of_ble_eq_true rfl) (Nat.le_of_ble_eq_true rfl) d8_1_26 (fun q8 H hP hD hS => ?_)
  have hP : va_P G.1 vwCl [(h0, .inr (6, [.ref q1, .int 0])), (q1, .inl (G.2 7, 8, .inr (.inr (.inr (.inr (va_up (va_up (va_up (fun _ => none) 0 (some q2)) 1 (some q4)) 2 (some q6))))))), (q2, .inr (7, [.int 0, .int 0, .int 0, .ref (Zd 0), .int 0])), (q4, .inr (7, [.int 0, .int 0, .int 0, .ref (Zd 0), .int 0])), (q6, .inr (7, [.int 0, .int 0, .int 0, .ref (Zd 0), .int 0])), (q8, .inr (7, [.int 0, .int 0, .int 0, .null, .int 0]))] H := hP
  have hD : va_D A [(h0, .inr (6, [.ref q1, .int 0])), (q1, .inl (G.2 7, 8, .inr (.inr (.inr (.inr (va_up (va_up (va_up (fun _ => none) 0 (some q2)) 1 (some q4)) 2 (some q6))))))), (q2, .inr (7, [.int 0, .int 0, .int 0, .ref (Zd 0), .int 0])), (q4, .inr (7, [.int 0, .int 0, .int 0, .ref (Zd 0), .int 0])), (q6, .inr (7, [.int 0, .int 0, .int 0, .ref (Zd 0), .int 0])), (q8, .inr (7, [.int 0, .int 0, .int 0, .null, .int 0]))] := hD
  refine lv_dup hx hb d8_1_29 rfl ?_
  refine jIN_v (As := []) (rest := [.ref q8, .int 3, .ref q1]) (wr := [(h0, .inr (6, [.ref q1, .int 0])), (q1, .inl (G.2 7, 8, .inr (.inr (.inr (.inr (va_up (va_up (va_up (fun _ => none) 0 (some q2)) 1 (some q4)) 2 (some q6))))))), (q2, .inr (7, [.int 0, .int 0, .int 0, .ref (Zd 0), .int 0])), (q4, .inr (7, [.int 0, .int 0, .int 0, .ref (Zd 0), .int 0])), (q6, .inr (7, [.int 0, .int 0, .int 0, .ref (Zd 0), .int 0]))]) ⟨hx, hb, hml, hown, hts⟩ (ko_selector l G Zd q8 _) (kw_IN (n := 0) hts hZ.1 k141 kn139 k11 k140 rfl (by decide +kernel) ⟨Nat.le_of_ble_eq_true rfl, Nat.le_of_ble_eq_true rfl⟩) hP hD hK hS hA hZ [5] [0, 1, 2, 3, 4] rfl rfl rfl rfl (by decide) rfl hl.1 rfl (Nat.le_of_ble_eq_true rfl) d8_1_30 ⟨Nat.le_of_ble_eq_true rfl, Nat.le_of_ble_eq_true rfl⟩ (fun u9 H locs hp hP hD hS => ?_)
  refine W.eq (g2 := F0 m 33 ls [.ref q8, .int 3, .ref q1]) rfl ?_
  have hP : va_P G.1 vwCl [(h0, .inr (6, [.ref q1, .int 0])), (q1, .inl (G.2 7, 8, .inr (.inr (.inr (.inr (va_up (va_up (va_up (fun _ => none) 0 (some q2)) 1 (some q4)) 2 (some q6))))))), (q2, .inr (7, [.int 0, .int 0, .int 0, .ref (Zd 0), .int 0])), (q4, .inr (7, [.int 0, .int 0, .int 0, .ref (Zd 0), .int 0])), (q6, .inr (7, [.int 0, .int 0, .int 0, .ref (Zd 0), .int 0])), (q8, .inr (7, [.int 0, .int 0, .int 0, .ref (Zd 0), .int 0]))] H := hP
  have hD : va_D A [(h0, .inr (6, [.ref q1, .int 0])), (q1, .inl (G.2 7, 8, .inr (.inr (.inr (.inr (va_up (va_up (va_up (fun _ => none) 0 (some q2)) 1 (some q4)) 2 (some q6))))))), (q2, .inr (7, [.int 0, .int 0, .int 0, .ref (Zd 0), .int 0])), (q4, .inr (7, [.int 0, .int 0, .int 0, .ref (Zd 0), .int 0])), (q6, .inr (7, [.int 0, .int 0, .int 0, .ref (Zd 0), .int 0])), (q8, .inr (7, [.int 0, .int 0, .int 0, .ref (Zd 0), .int 0]))] := hD
  refine va_astq (D := G.1) hx hb hK hP hD hS 1 7 5 7 rfl rfl rfl rfl (i := 3) (by unfold vp_in; decide) d8_1_33 (fun H locs hP hD hS => ?_)
  have hP : va_P G.1 vwCl [(h0, .inr (6, [.ref q1, .int 0])), (q1, .inl (G.2 7, 8, .inr (.inr (.inr (.inr (va_up (va_up (va_up (va_up (fun _ => none) 0 (some q2)) 1 (some q4)) 2 (some q6)) 3 (some q8))))))), (q2, .inr (7, [.int 0, .int 0, .int 0, .ref (Zd 0), .int 0])), (q4, .inr (7, [.int 0, .int 0, .int 0, .ref (Zd 0), .int 0])), (q6, .inr (7, [.int 0, .int 0, .int 0, .ref (Zd 0), .int 0])), (q8, .inr (7, [.int 0, .int 0, .int 0, .ref (Zd 0), .int 0]))] H := hP
  have hD : va_D A [(h0, .inr (6, [.ref q1, .int 0])), (q1, .inl (G.2 7, 8, .inr (.inr (.inr (.inr (va_up (va_up (va_up (va_up (fun _ => none) 0 (some q2)) 1 (some q4)) 2 (some q6)) 3 (some q8))))))), (q2, .inr (7, [.int 0, .int 0, .int 0, .ref (Zd 0), .int 0])), (q4, .inr (7, [.int 0, .int 0, .int 0, .ref (Zd 0), .int 0])), (q6, .inr (7, [.int 0, .int 0, .int 0, .ref (Zd 0), .int 0])), (q8, .inr (7, [.int 0, .int 0, .int 0, .ref (Zd 0), .int 0]))] := hD
  refine lv_iinc (k := 0) (v := 4) (lv' := [(1, .int 4), (0, .ref h0)]) hx hb d8_1_34 hl rfl (by first | decide | rfl) (by decide) rfl (fun ls hl => ?_)
  refine lv_goto (tgt := 15) hx hb d8_1_37 rfl ?_
  refine lv_iload_n hx hb d8_1_15 rfl (lv_at hl 0 rfl) ?_
  refine lv_bipush (v := 8) hx hb d8_1_16 (by decide) ?_
  refine lv_icmp_ge (tgt := 40) hx hb d8_1_18 rfl (fun hc => absurd hc (by decide)) (fun _ => ?_)
  refine lv_aload_n hx hb d8_1_21 rfl (lv_at hl 1 rfl) ?_
  refine va_get (D := G.1) (ci := 6) (v := .ref q1) (C := r_6) (T := f_6) (N := 2) (ref := "PagedValues$Query") hx hb hts (fun w h => List.mem_cons_of_mem _ (ly_6 w h)) hown hK hP 0 rfl rfl 0 (by decide) (hts _ (List.mem_cons_of_mem _ k166)) (fun _ h9 => h9) rfl d8_1_22 ?_
  refine lv_iload_n hx hb d8_1_25 rfl (lv_at hl 0 rfl) ?_
  refine va_new (D := G.1) (ci := 7) (fs := [.int 0, .int 0, .int 0, .null, .int 0]) (C := r_7) (T := f_7) (N := 5) hx hb hts (fun w h => List.mem_cons_of_mem _ (ly_7 w h)) ft_7 ft_7_ok hown (hts _ (List.mem_cons_of_mem _ k136)) (hts _ (List.mem_cons_of_mem _ k138)) (hts _ (List.mem_cons_of_mem _ k11)) hK hP hD hS hA rfl (fun j hj => by rcases (show j = 0 ∨ j = 1 ∨ j = 2 ∨ j = 3 ∨ j = 4 by omega) with rfl | rfl | rfl | rfl | rfl <;> rfl) (Nat.le_of_ble_eq_true rfl) (Nat.le_of_ble_eq_true rfl) d8_1_26 (fun q10 H hP hD hS => ?_)
  have hP : va_P G.1 vwCl [(h0, .inr (6, [.ref q1, .int 0])), (q1, .inl (G.2 7, 8, .inr (.inr (.inr (.inr (va_up (va_up (va_up (va_up (fun _ => none) 0 (some q2)) 1 (some q4)) 2 (some q6)) 3 (some q8))))))), (q2, .inr (7, [.int 0, .int 0, .int 0, .ref (Zd 0), .int 0])), (q4, .inr (7, [.int 0, .int 0, .int 0, .ref (Zd 0), .int 0])), (q6, .inr (7, [.int 0, .int 0, .int 0, .ref (Zd 0), .int 0])), (q8, .inr (7, [.int 0, .int 0, .int 0, .ref (Zd 0), .int 0])), (q10, .inr (7, [.int 0, .int 0, .int 0, .null, .int 0]))] H := hP
  have hD : va_D A [(h0, .inr (6, [.ref q1, .int 0])), (q1, .inl (G.2 7, 8, .inr (.inr (.inr (.inr (va_up (va_up (va_up (va_up (fun _ => none) 0 (some q2)) 1 (some q4)) 2 (some q6)) 3 (some q8))))))), (q2, .inr (7, [.int 0, .int 0, .int 0, .ref (Zd 0), .int 0])), (q4, .inr (7, [.int 0, .int 0, .int 0, .ref (Zd 0), .int 0])), (q6, .inr (7, [.int 0, .int 0, .int 0, .ref (Zd 0), .int 0])), (q8, .inr (7, [.int 0, .int 0, .int 0, .ref (Zd 0), .int 0])), (q10, .inr (7, [.int 0, .int 0, .int 0, .null, .int 0]))] := hD
  refine lv_dup hx hb d8_1_29 rfl ?_
  refine jIN_v (As := []) (rest := [.ref q10, .int 4, .ref q1]) (wr := [(h0, .inr (6, [.ref q1, .int 0])), (q1, .inl (G.2 7, 8, .inr (.inr (.inr (.inr (va_up (va_up (va_up (va_up (fun _ => none) 0 (some q2)) 1 (some q4)) 2 (some q6)) 3 (some q8))))))), (q2, .inr (7, [.int 0, .int 0, .int 0, .ref (Zd 0), .int 0])), (q4, .inr (7, [.int 0, .int 0, .int 0, .ref (Zd 0), .int 0])), (q6, .inr (7, [.int 0, .int 0, .int 0, .ref (Zd 0), .int 0])), (q8, .inr (7, [.int 0, .int 0, .int 0, .ref (Zd 0), .int 0]))]) ⟨hx, hb, hml, hown, hts⟩ (ko_selector l G Zd q10 _) (kw_IN (n := 0) hts hZ.1 k141 kn139 k11 k140 rfl (by decide +kernel) ⟨Nat.le_of_ble_eq_true rfl, Nat.le_of_ble_eq_true rfl⟩) hP hD hK hS hA hZ [6] [0, 1, 2, 3, 4, 5] rfl rfl rfl rfl (by decide) rfl hl.1 rfl (Nat.le_of_ble_eq_true rfl) d8_1_30 ⟨Nat.le_of_ble_eq_true rfl, Nat.le_of_ble_eq_true rfl⟩ (fun u11 H locs hp hP hD hS => ?_)
  refine W.eq (g2 := F0 m 33 ls [.ref q10, .int 4, .ref q1]) rfl ?_
  have hP : va_P G.1 vwCl [(h0, .inr (6, [.ref q1, .int 0])), (q1, .inl (G.2 7, 8, .inr (.inr (.inr (.inr (va_up (va_up (va_up (va_up (fun _ => none) 0 (some q2)) 1 (some q4)) 2 (some q6)) 3 (some q8))))))), (q2, .inr (7, [.int 0, .int 0, .int 0, .ref (Zd 0), .int 0])), (q4, .inr (7, [.int 0, .int 0, .int 0, .ref (Zd 0), .int 0])), (q6, .inr (7, [.int 0, .int 0, .int 0, .ref (Zd 0), .int 0])), (q8, .inr (7, [.int 0, .int 0, .int 0, .ref (Zd 0), .int 0])), (q10, .inr (7, [.int 0, .int 0, .int 0, .ref (Zd 0), .int 0]))] H := hP
  have hD : va_D A [(h0, .inr (6, [.ref q1, .int 0])), (q1, .inl (G.2 7, 8, .inr (.inr (.inr (.inr (va_up (va_up (va_up (va_up (fun _ => none) 0 (some q2)) 1 (some q4)) 2 (some q6)) 3 (some q8))))))), (q2, .inr (7, [.int 0, .int 0, .int 0, .ref (Zd 0), .int 0])), (q4, .inr (7, [.int 0, .int 0, .int 0, .ref (Zd 0), .int 0])), (q6, .inr (7, [.int 0, .int 0, .int 0, .ref (Zd 0), .int 0])), (q8, .inr (7, [.int 0, .int 0, .int 0, .ref (Zd 0), .int 0])), (q10, .inr (7, [.int 0, .int 0, .int 0, .ref (Zd 0), .int 0]))] := hD
  refine va_astq (D := G.1) hx hb hK hP hD hS 1 7 6 7 rfl rfl rfl rfl (i := 4) (by unfold vp_in; decide) d8_1_33 (fun H locs hP hD hS => ?_)
  have hP : va_P G.1 vwCl [(h0, .inr (6, [.ref q1, .int 0])), (q1, .inl (G.2 7, 8, .inr (.inr (.inr (.inr (va_up (va_up (va_up (va_up (va_up (fun _ => none) 0 (some q2)) 1 (some q4)) 2 (some q6)) 3 (some q8)) 4 (some q10))))))), (q2, .inr (7, [.int 0, .int 0, .int 0, .ref (Zd 0), .int 0])), (q4, .inr (7, [.int 0, .int 0, .int 0, .ref (Zd 0), .int 0])), (q6, .inr (7, [.int 0, .int 0, .int 0, .ref (Zd 0), .int 0])), (q8, .inr (7, [.int 0, .int 0, .int 0, .ref (Zd 0), .int 0])), (q10, .inr (7, [.int 0, .int 0, .int 0, .ref (Zd 0), .int 0]))] H := hP
  have hD : va_D A [(h0, .inr (6, [.ref q1, .int 0])), (q1, .inl (G.2 7, 8, .inr (.inr (.inr (.inr (va_up (va_up (va_up (va_up (va_up (fun _ => none) 0 (some q2)) 1 (some q4)) 2 (some q6)) 3 (some q8)) 4 (some q10))))))), (q2, .inr (7, [.int 0, .int 0, .int 0, .ref (Zd 0), .int 0])), (q4, .inr (7, [.int 0, .int 0, .int 0, .ref (Zd 0), .int 0])), (q6, .inr (7, [.int 0, .int 0, .int 0, .ref (Zd 0), .int 0])), (q8, .inr (7, [.int 0, .int 0, .int 0, .ref (Zd 0), .int 0])), (q10, .inr (7, [.int 0, .int 0, .int 0, .ref (Zd 0), .int 0]))] := hD
  refine lv_iinc (k := 0) (v := 5) (lv' := [(1, .int 5), (0, .ref h0)]) hx hb d8_1_34 hl rfl (by first | decide | rfl) (by decide) rfl (fun ls hl => ?_)
  refine lv_goto (tgt := 15) hx hb d8_1_37 rfl ?_
  refine lv_iload_n hx hb d8_1_15 rfl (lv_at hl 0 rfl) ?_
  refine lv_bipush (v := 8) hx hb d8_1_16 (by decide) ?_
  refine lv_icmp_ge (tgt := 40) hx hb d8_1_18 rfl (fun hc => absurd hc (by decide)) (fun _ => ?_)
  refine lv_aload_n hx hb d8_1_21 rfl (lv_at hl 1 rfl) ?_
  refine va_get (D := G.1) (ci := 6) (v := .ref q1) (C := r_6) (T := f_6) (N := 2) (ref := "PagedValues$Query") hx hb hts (fun w h => List.mem_cons_of_mem _ (ly_6 w h)) hown hK hP 0 rfl rfl 0 (by decide) (hts _ (List.mem_cons_of_mem _ k166)) (fun _ h9 => h9) rfl d8_1_22 ?_
  refine lv_iload_n hx hb d8_1_25 rfl (lv_at hl 0 rfl) ?_
  refine va_new (D := G.1) (ci := 7) (fs := [.int 0, .int 0, .int 0, .null, .int 0]) (C := r_7) (T := f_7) (N := 5) hx hb hts (fun w h => List.mem_cons_of_mem _ (ly_7 w h)) ft_7 ft_7_ok hown (hts _ (List.mem_cons_of_mem _ k136)) (hts _ (List.mem_cons_of_mem _ k138)) (hts _ (List.mem_cons_of_mem _ k11)) hK hP hD hS hA rfl (fun j hj => by rcases (show j = 0 ∨ j = 1 ∨ j = 2 ∨ j = 3 ∨ j = 4 by omega) with rfl | rfl | rfl | rfl | rfl <;> rfl) (Nat.le_of_ble_eq_true rfl) (Nat.le_of_ble_eq_true rfl) d8_1_26 (fun q12 H hP hD hS => ?_)
  have hP : va_P G.1 vwCl [(h0, .inr (6, [.ref q1, .int 0])), (q1, .inl (G.2 7, 8, .inr (.inr (.inr (.inr (va_up (va_up (va_up (va_up (va_up (fun _ => none) 0 (some q2)) 1 (some q4)) 2 (some q6)) 3 (some q8)) 4 (some q10))))))), (q2, .inr (7, [.int 0, .int 0, .int 0, .ref (Zd 0), .int 0])), (q4, .inr (7, [.int 0, .int 0, .int 0, .ref (Zd 0), .int 0])), (q6, .inr (7, [.int 0, .int 0, .int 0, .ref (Zd 0), .int 0])), (q8, .inr (7, [.int 0, .int 0, .int 0, .ref (Zd 0), .int 0])), (q10, .inr (7, [.int 0, .int 0, .int 0, .ref (Zd 0), .int 0])), (q12, .inr (7, [.int 0, .int 0, .int 0, .null, .int 0]))] H := hP
  have hD : va_D A [(h0, .inr (6, [.ref q1, .int 0])), (q1, .inl (G.2 7, 8, .inr (.inr (.inr (.inr (va_up (va_up (va_up (va_up (va_up (fun _ => none) 0 (some q2)) 1 (some q4)) 2 (some q6)) 3 (some q8)) 4 (some q10))))))), (q2, .inr (7, [.int 0, .int 0, .int 0, .ref (Zd 0), .int 0])), (q4, .inr (7, [.int 0, .int 0, .int 0, .ref (Zd 0), .int 0])), (q6, .inr (7, [.int 0, .int 0, .int 0, .ref (Zd 0), .int 0])), (q8, .inr (7, [.int 0, .int 0, .int 0, .ref (Zd 0), .int 0])), (q10, .inr (7, [.int 0, .int 0, .int 0, .ref (Zd 0), .int 0])), (q12, .inr (7, [.int 0, .int 0, .int 0, .null, .int 0]))] := hD
  refine lv_dup hx hb d8_1_29 rfl ?_
  refine jIN_v (As := []) (rest := [.ref q12, .int 5, .ref q1]) (wr := [(h0, .inr (6, [.ref q1, .int 0])), (q1, .inl (G.2 7, 8, .inr (.inr (.inr (.inr (va_up (va_up (va_up (va_up (va_up (fun _ => none) 0 (some q2)) 1 (some q4)) 2 (some q6)) 3 (some q8)) 4 (some q10))))))), (q2, .inr (7, [.int 0, .int 0, .int 0, .ref (Zd 0), .int 0])), (q4, .inr (7, [.int 0, .int 0, .int 0, .ref (Zd 0), .int 0])), (q6, .inr (7, [.int 0, .int 0, .int 0, .ref (Zd 0), .int 0])), (q8, .inr (7, [.int 0, .int 0, .int 0, .ref (Zd 0), .int 0])), (q10, .inr (7, [.int 0, .int 0, .int 0, .ref (Zd 0), .int 0]))]) ⟨hx, hb, hml, hown, hts⟩ (ko_selector l G Zd q12 _) (kw_IN (n := 0) hts hZ.1 k141 kn139 k11 k140 rfl (by decide +kernel) ⟨Nat.le_of_ble_eq_true rfl, Nat.le_of_ble_eq_true rfl⟩) hP hD hK hS hA hZ [7] [0, 1, 2, 3, 4, 5, 6] rfl rfl rfl rfl (by decide) rfl hl.1 rfl (Nat.le_of_ble_eq_true rfl) d8_1_30 ⟨Nat.le_of_ble_eq_true rfl, Nat.le_of_ble_eq_true rfl⟩ (fun u13 H locs hp hP hD hS => ?_)
  refine W.eq (g2 := F0 m 33 ls [.ref q12, .int 5, .ref q1]) rfl ?_
  have hP : va_P G.1 vwCl [(h0, .inr (6, [.ref q1, .int 0])), (q1, .inl (G.2 7, 8, .inr (.inr (.inr (.inr (va_up (va_up (va_up (va_up (va_up (fun _ => none) 0 (some q2)) 1 (some q4)) 2 (some q6)) 3 (some q8)) 4 (some q10))))))), (q2, .inr (7, [.int 0, .int 0, .int 0, .ref (Zd 0), .int 0])), (q4, .inr (7, [.int 0, .int 0, .int 0, .ref (Zd 0), .int 0])), (q6, .inr (7, [.int 0, .int 0, .int 0, .ref (Zd 0), .int 0])), (q8, .inr (7, [.int 0, .int 0, .int 0, .ref (Zd 0), .int 0])), (q10, .inr (7, [.int 0, .int 0, .int 0, .ref (Zd 0), .int 0])), (q12, .inr (7, [.int 0, .int 0, .int 0, .ref (Zd 0), .int 0]))] H := hP
  have hD : va_D A [(h0, .inr (6, [.ref q1, .int 0])), (q1, .inl (G.2 7, 8, .inr (.inr (.inr (.inr (va_up (va_up (va_up (va_up (va_up (fun _ => none) 0 (some q2)) 1 (some q4)) 2 (some q6)) 3 (some q8)) 4 (some q10))))))), (q2, .inr (7, [.int 0, .int 0, .int 0, .ref (Zd 0), .int 0])), (q4, .inr (7, [.int 0, .int 0, .int 0, .ref (Zd 0), .int 0])), (q6, .inr (7, [.int 0, .int 0, .int 0, .ref (Zd 0), .int 0])), (q8, .inr (7, [.int 0, .int 0, .int 0, .ref (Zd 0), .int 0])), (q10, .inr (7, [.int 0, .int 0, .int 0, .ref (Zd 0), .int 0])), (q12, .inr (7, [.int 0, .int 0, .int 0, .ref (Zd 0), .int 0]))] := hD
  refine va_astq (D := G.1) hx hb hK hP hD hS 1 7 7 7 rfl rfl rfl rfl (i := 5) (by unfold vp_in; decide) d8_1_33 (fun H locs hP hD hS => ?_)
  have hP : va_P G.1 vwCl [(h0, .inr (6, [.ref q1, .int 0])), (q1, .inl (G.2 7, 8, .inr (.inr (.inr (.inr (va_up (va_up (va_up (va_up (va_up (va_up (fun _ => none) 0 (some q2)) 1 (some q4)) 2 (some q6)) 3 (some q8)) 4 (some q10)) 5 (some q12))))))), (q2, .inr (7, [.int 0, .int 0, .int 0, .ref (Zd 0), .int 0])), (q4, .inr (7, [.int 0, .int 0, .int 0, .ref (Zd 0), .int 0])), (q6, .inr (7, [.int 0, .int 0, .int 0, .ref (Zd 0), .int 0])), (q8, .inr (7, [.int 0, .int 0, .int 0, .ref (Zd 0), .int 0])), (q10, .inr (7, [.int 0, .int 0, .int 0, .ref (Zd 0), .int 0])), (q12, .inr (7, [.int 0, .int 0, .int 0, .ref (Zd 0), .int 0]))] H := hP
  have hD : va_D A [(h0, .inr (6, [.ref q1, .int 0])), (q1, .inl (G.2 7, 8, .inr (.inr (.inr (.inr (va_up (va_up (va_up (va_up (va_up (va_up (fun _ => none) 0 (some q2)) 1 (some q4)) 2 (some q6)) 3 (some q8)) 4 (some q10)) 5 (some q12))))))), (q2, .inr (7, [.int 0, .int 0, .int 0, .ref (Zd 0), .int 0])), (q4, .inr (7, [.int 0, .int 0, .int 0, .ref (Zd 0), .int 0])), (q6, .inr (7, [.int 0, .int 0, .int 0, .ref (Zd 0), .int 0])), (q8, .inr (7, [.int 0, .int 0, .int 0, .ref (Zd 0), .int 0])), (q10, .inr (7, [.int 0, .int 0, .int 0, .ref (Zd 0), .int 0])), (q12, .inr (7, [.int 0, .int 0, .int 0, .ref (Zd 0), .int 0]))] := hD
  refine lv_iinc (k := 0) (v := 6) (lv' := [(1, .int 6), (0, .ref h0)]) hx hb d8_1_34 hl rfl (by first | decide | rfl) (by decide) rfl (fun ls hl => ?_)
  refine lv_goto (tgt := 15) hx hb d8_1_37 rfl ?_
  refine lv_iload_n hx hb d8_1_15 rfl (lv_at hl 0 rfl) ?_
  refine lv_bipush (v := 8) hx hb d8_1_16 (by decide) ?_
  refine lv_icmp_ge (tgt := 40) hx hb d8_1_18 rfl (fun hc => absurd hc (by decide)) (fun _ => ?_)
  refine lv_aload_n hx hb d8_1_21 rfl (lv_at hl 1 rfl) ?_
  refine va_get (D := G.1) (ci := 6) (v := .ref q1) (C := r_6) (T := f_6) (N := 2) (ref := "PagedValues$Query") hx hb hts (fun w h => List.mem_cons_of_mem _ (ly_6 w h)) hown hK hP 0 rfl rfl 0 (by decide) (hts _ (List.mem_cons_of_mem _ k166)) (fun _ h9 => h9) rfl d8_1_22 ?_
  refine lv_iload_n hx hb d8_1_25 rfl (lv_at hl 0 rfl) ?_
  refine va_new (D := G.1) (ci := 7) (fs := [.int 0, .int 0, .int 0, .null, .int 0]) (C := r_7) (T := f_7) (N := 5) hx hb hts (fun w h => List.mem_cons_of_mem _ (ly_7 w h)) ft_7 ft_7_ok hown (hts _ (List.mem_cons_of_mem _ k136)) (hts _ (List.mem_cons_of_mem _ k138)) (hts _ (List.mem_cons_of_mem _ k11)) hK hP hD hS hA rfl (fun j hj => by rcases (show j = 0 ∨ j = 1 ∨ j = 2 ∨ j = 3 ∨ j = 4 by omega) with rfl | rfl | rfl | rfl | rfl <;> rfl) (Nat.le_of_ble_eq_true rfl) (Nat.le_of_ble_eq_true rfl) d8_1_26 (fun q14 H hP hD hS => ?_)
  have hP : va_P G.1 vwCl [(h0, .inr (6, [.ref q1, .int 0])), (q1, .inl (G.2 7, 8, .inr (.inr (.inr (.inr (va_up (va_up (va_up (va_up (va_up (va_up (fun _ => none) 0 (some q2)) 1 (some q4)) 2 (some q6)) 3 (some q8)) 4 (some q10)) 5 (some q12))))))), (q2, .inr (7, [.int 0, .int 0, .int 0, .ref (Zd 0), .int 0])), (q4, .inr (7, [.int 0, .int 0, .int 0, .ref (Zd 0), .int 0])), (q6, .inr (7, [.int 0, .int 0, .int 0, .ref (Zd 0), .int 0])), (q8, .inr (7, [.int 0, .int 0, .int 0, .ref (Zd 0), .int 0])), (q10, .inr (7, [.int 0, .int 0, .int 0, .ref (Zd 0), .int 0])), (q12, .inr (7, [.int 0, .int 0, .int 0, .ref (Zd 0), .int 0])), (q14, .inr (7, [.int 0, .int 0, .int 0, .null, .int 0]))] H := hP
  have hD : va_D A [(h0, .inr (6, [.ref q1, .int 0])), (q1, .inl (G.2 7, 8, .inr (.inr (.inr (.inr (va_up (va_up (va_up (va_up (va_up (va_up (fun _ => none) 0 (some q2)) 1 (some q4)) 2 (some q6)) 3 (some q8)) 4 (some q10)) 5 (some q12))))))), (q2, .inr (7, [.int 0, .int 0, .int 0, .ref (Zd 0), .int 0])), (q4, .inr (7, [.int 0, .int 0, .int 0, .ref (Zd 0), .int 0])), (q6, .inr (7, [.int 0, .int 0, .int 0, .ref (Zd 0), .int 0])), (q8, .inr (7, [.int 0, .int 0, .int 0, .ref (Zd 0), .int 0])), (q10, .inr (7, [.int 0, .int 0, .int 0, .ref (Zd 0), .int 0])), (q12, .inr (7, [.int 0, .int 0, .int 0, .ref (Zd 0), .int 0])), (q14, .inr (7, [.int 0, .int 0, .int 0, .null, .int 0]))] := hD
  refine lv_dup hx hb d8_1_29 rfl ?_
  refine jIN_v (As := []) (rest := [.ref q14, .int 6, .ref q1]) (wr := [(h0, .inr (6, [.ref q1, .int 0])), (q1, .inl (G.2 7, 8, .inr (.inr (.inr (.inr (va_up (va_up (va_up (va_up (va_up (va_up (fun _ => none) 0 (some q2)) 1 (some q4)) 2 (some q6)) 3 (some q8)) 4 (some q10)) 5 (some q12))))))), (q2, .inr (7, [.int 0, .int 0, .int 0, .ref (Zd 0), .int 0])), (q4, .inr (7, [.int 0, .int 0, .int 0, .ref (Zd 0), .int 0])), (q6, .inr (7, [.int 0, .int 0, .int 0, .ref (Zd 0), .int 0])), (q8, .inr (7, [.int 0, .int 0, .int 0, .ref (Zd 0), .int 0])), (q10, .inr (7, [.int 0, .int 0, .int 0, .ref (Zd 0), .int 0])), (q12, .inr (7, [.int 0, .int 0, .int 0, .ref (Zd 0), .int 0]))]) ⟨hx, hb, hml, hown, hts⟩ (ko_selector l G Zd q14 _) (kw_IN (n := 0) hts hZ.1 k141 kn139 k11 k140 rfl (by decide +kernel) ⟨Nat.le_of_ble_eq_true rfl, Nat.le_of_ble_eq_true rfl⟩) hP hD hK hS hA hZ [8] [0, 1, 2, 3, 4, 5, 6, 7] rfl rfl rfl rfl (by decide) rfl hl.1 rfl (Nat.le_of_ble_eq_true rfl) d8_1_30 ⟨Nat.le_of_ble_eq_true rfl, Nat.le_of_ble_eq_true rfl⟩ (fun u15 H locs hp hP hD hS => ?_)
  refine W.eq (g2 := F0 m 33 ls [.ref q14, .int 6, .ref q1]) rfl ?_
  have hP : va_P G.1 vwCl [(h0, .inr (6, [.ref q1, .int 0])), (q1, .inl (G.2 7, 8, .inr (.inr (.inr (.inr (va_up (va_up (va_up (va_up (va_up (va_up (fun _ => none) 0 (some q2)) 1 (some q4)) 2 (some q6)) 3 (some q8)) 4 (some q10)) 5 (some q12))))))), (q2, .inr (7, [.int 0, .int 0, .int 0, .ref (Zd 0), .int 0])), (q4, .inr (7, [.int 0, .int 0, .int 0, .ref (Zd 0), .int 0])), (q6, .inr (7, [.int 0, .int 0, .int 0, .ref (Zd 0), .int 0])), (q8, .inr (7, [.int 0, .int 0, .int 0, .ref (Zd 0), .int 0])), (q10, .inr (7, [.int 0, .int 0, .int 0, .ref (Zd 0), .int 0])), (q12, .inr (7, [.int 0, .int 0, .int 0, .ref (Zd 0), .int 0])), (q14, .inr (7, [.int 0, .int 0, .int 0, .ref (Zd 0), .int 0]))] H := hP
  have hD : va_D A [(h0, .inr (6, [.ref q1, .int 0])), (q1, .inl (G.2 7, 8, .inr (.inr (.inr (.inr (va_up (va_up (va_up (va_up (va_up (va_up (fun _ => none) 0 (some q2)) 1 (some q4)) 2 (some q6)) 3 (some q8)) 4 (some q10)) 5 (some q12))))))), (q2, .inr (7, [.int 0, .int 0, .int 0, .ref (Zd 0), .int 0])), (q4, .inr (7, [.int 0, .int 0, .int 0, .ref (Zd 0), .int 0])), (q6, .inr (7, [.int 0, .int 0, .int 0, .ref (Zd 0), .int 0])), (q8, .inr (7, [.int 0, .int 0, .int 0, .ref (Zd 0), .int 0])), (q10, .inr (7, [.int 0, .int 0, .int 0, .ref (Zd 0), .int 0])), (q12, .inr (7, [.int 0, .int 0, .int 0, .ref (Zd 0), .int 0])), (q14, .inr (7, [.int 0, .int 0, .int 0, .ref (Zd 0), .int 0]))] := hD
  refine va_astq (D := G.1) hx hb hK hP hD hS 1 7 8 7 rfl rfl rfl rfl (i := 6) (by unfold vp_in; decide) d8_1_33 (fun H locs hP hD hS => ?_)
  have hP : va_P G.1 vwCl [(h0, .inr (6, [.ref q1, .int 0])), (q1, .inl (G.2 7, 8, .inr (.inr (.inr (.inr (va_up (va_up (va_up (va_up (va_up (va_up (va_up (fun _ => none) 0 (some q2)) 1 (some q4)) 2 (some q6)) 3 (some q8)) 4 (some q10)) 5 (some q12)) 6 (some q14))))))), (q2, .inr (7, [.int 0, .int 0, .int 0, .ref (Zd 0), .int 0])), (q4, .inr (7, [.int 0, .int 0, .int 0, .ref (Zd 0), .int 0])), (q6, .inr (7, [.int 0, .int 0, .int 0, .ref (Zd 0), .int 0])), (q8, .inr (7, [.int 0, .int 0, .int 0, .ref (Zd 0), .int 0])), (q10, .inr (7, [.int 0, .int 0, .int 0, .ref (Zd 0), .int 0])), (q12, .inr (7, [.int 0, .int 0, .int 0, .ref (Zd 0), .int 0])), (q14, .inr (7, [.int 0, .int 0, .int 0, .ref (Zd 0), .int 0]))] H := hP
  have hD : va_D A [(h0, .inr (6, [.ref q1, .int 0])), (q1, .inl (G.2 7, 8, .inr (.inr (.inr (.inr (va_up (va_up (va_up (va_up (va_up (va_up (va_up (fun _ => none) 0 (some q2)) 1 (some q4)) 2 (some q6)) 3 (some q8)) 4 (some q10)) 5 (some q12)) 6 (some q14))))))), (q2, .inr (7, [.int 0, .int 0, .int 0, .ref (Zd 0), .int 0])), (q4, .inr (7, [.int 0, .int 0, .int 0, .ref (Zd 0), .int 0])), (q6, .inr (7, [.int 0, .int 0, .int 0, .ref (Zd 0), .int 0])), (q8, .inr (7, [.int 0, .int 0, .int 0, .ref (Zd 0), .int 0])), (q10, .inr (7, [.int 0, .int 0, .int 0, .ref (Zd 0), .int 0])), (q12, .inr (7, [.int 0, .int 0, .int 0, .ref (Zd 0), .int 0])), (q14, .inr (7, [.int 0, .int 0, .int 0, .ref (Zd 0), .int 0]))] := hD
  refine lv_iinc (k := 0) (v := 7) (lv' := [(1, .int 7), (0, .ref h0)]) hx hb d8_1_34 hl rfl (by first | decide | rfl) (by decide) rfl (fun ls hl => ?_)
  refine lv_goto (tgt := 15) hx hb d8_1_37 rfl ?_
  refine lv_iload_n hx hb d8_1_15 rfl (lv_at hl 0 rfl) ?_
  refine lv_bipush (v := 8) hx hb d8_1_16 (by decide) ?_
  refine lv_icmp_ge (tgt := 40) hx hb d8_1_18 rfl (fun hc => absurd hc (by decide)) (fun _ => ?_)
  refine lv_aload_n hx hb d8_1_21 rfl (lv_at hl 1 rfl) ?_
  refine va_get (D := G.1) (ci := 6) (v := .ref q1) (C := r_6) (T := f_6) (N := 2) (ref := "PagedValues$Query") hx hb hts (fun w h => List.mem_cons_of_mem _ (ly_6 w h)) hown hK hP 0 rfl rfl 0 (by decide) (hts _ (List.mem_cons_of_mem _ k166)) (fun _ h9 => h9) rfl d8_1_22 ?_
  refine lv_iload_n hx hb d8_1_25 rfl (lv_at hl 0 rfl) ?_
  refine va_new (D := G.1) (ci := 7) (fs := [.int 0, .int 0, .int 0, .null, .int 0]) (C := r_7) (T := f_7) (N := 5) hx hb hts (fun w h => List.mem_cons_of_mem _ (ly_7 w h)) ft_7 ft_7_ok hown (hts _ (List.mem_cons_of_mem _ k136)) (hts _ (List.mem_cons_of_mem _ k138)) (hts _ (List.mem_cons_of_mem _ k11)) hK hP hD hS hA rfl (fun j hj => by rcases (show j = 0 ∨ j = 1 ∨ j = 2 ∨ j = 3 ∨ j = 4 by omega) with rfl | rfl | rfl | rfl | rfl <;> rfl) (Nat.le_of_ble_eq_true rfl) (Nat.le_of_ble_eq_true rfl) d8_1_26 (fun q16 H hP hD hS => ?_)
  have hP : va_P G.1 vwCl [(h0, .inr (6, [.ref q1, .int 0])), (q1, .inl (G.2 7, 8, .inr (.inr (.inr (.inr (va_up (va_up (va_up (va_up (va_up (va_up (va_up (fun _ => none) 0 (some q2)) 1 (some q4)) 2 (some q6)) 3 (some q8)) 4 (some q10)) 5 (some q12)) 6 (some q14))))))), (q2, .inr (7, [.int 0, .int 0, .int 0, .ref (Zd 0), .int 0])), (q4, .inr (7, [.int 0, .int 0, .int 0, .ref (Zd 0), .int 0])), (q6, .inr (7, [.int 0, .int 0, .int 0, .ref (Zd 0), .int 0])), (q8, .inr (7, [.int 0, .int 0, .int 0, .ref (Zd 0), .int 0])), (q10, .inr (7, [.int 0, .int 0, .int 0, .ref (Zd 0), .int 0])), (q12, .inr (7, [.int 0, .int 0, .int 0, .ref (Zd 0), .int 0])), (q14, .inr (7, [.int 0, .int 0, .int 0, .ref (Zd 0), .int 0])), (q16, .inr (7, [.int 0, .int 0, .int 0, .null, .int 0]))] H := hP
  have hD : va_D A [(h0, .inr (6, [.ref q1, .int 0])), (q1, .inl (G.2 7, 8, .inr (.inr (.inr (.inr (va_up (va_up (va_up (va_up (va_up (va_up (va_up (fun _ => none) 0 (some q2)) 1 (some q4)) 2 (some q6)) 3 (some q8)) 4 (some q10)) 5 (some q12)) 6 (some q14))))))), (q2, .inr (7, [.int 0, .int 0, .int 0, .ref (Zd 0), .int 0])), (q4, .inr (7, [.int 0, .int 0, .int 0, .ref (Zd 0), .int 0])), (q6, .inr (7, [.int 0, .int 0, .int 0, .ref (Zd 0), .int 0])), (q8, .inr (7, [.int 0, .int 0, .int 0, .ref (Zd 0), .int 0])), (q10, .inr (7, [.int 0, .int 0, .int 0, .ref (Zd 0), .int 0])), (q12, .inr (7, [.int 0, .int 0, .int 0, .ref (Zd 0), .int 0])), (q14, .inr (7, [.int 0, .int 0, .int 0, .ref (Zd 0), .int 0])), (q16, .inr (7, [.int 0, .int 0, .int 0, .null, .int 0]))] := hD
  refine lv_dup hx hb d8_1_29 rfl ?_
  refine jIN_v (As := []) (rest := [.ref q16, .int 7, .ref q1]) (wr := [(h0, .inr (6, [.ref q1, .int 0])), (q1, .inl (G.2 7, 8, .inr (.inr (.inr (.inr (va_up (va_up (va_up (va_up (va_up (va_up (va_up (fun _ => none) 0 (some q2)) 1 (some q4)) 2 (some q6)) 3 (some q8)) 4 (some q10)) 5 (some q12)) 6 (some q14))))))), (q2, .inr (7, [.int 0, .int 0, .int 0, .ref (Zd 0), .int 0])), (q4, .inr (7, [.int 0, .int 0, .int 0, .ref (Zd 0), .int 0])), (q6, .inr (7, [.int 0, .int 0, .int 0, .ref (Zd 0), .int 0])), (q8, .inr (7, [.int 0, .int 0, .int 0, .ref (Zd 0), .int 0])), (q10, .inr (7, [.int 0, .int 0, .int 0, .ref (Zd 0), .int 0])), (q12, .inr (7, [.int 0, .int 0, .int 0, .ref (Zd 0), .int 0])), (q14, .inr (7, [.int 0, .int 0, .int 0, .ref (Zd 0), .int 0]))]) ⟨hx, hb, hml, hown, hts⟩ (ko_selector l G Zd q16 _) (kw_IN (n := 0) hts hZ.1 k141 kn139 k11 k140 rfl (by decide +kernel) ⟨Nat.le_of_ble_eq_true rfl, Nat.le_of_ble_eq_true rfl⟩) hP hD hK hS hA hZ [9] [0, 1, 2, 3, 4, 5, 6, 7, 8] rfl rfl rfl rfl (by decide) rfl hl.1 rfl (Nat.le_of_ble_eq_true rfl) d8_1_30 ⟨Nat.le_of_ble_eq_true rfl, Nat.le_of_ble_eq_true rfl⟩ (fun u17 H locs hp hP hD hS => ?_)
  refine W.eq (g2 := F0 m 33 ls [.ref q16, .int 7, .ref q1]) rfl ?_
  have hP : va_P G.1 vwCl [(h0, .inr (6, [.ref q1, .int 0])), (q1, .inl (G.2 7, 8, .inr (.inr (.inr (.inr (va_up (va_up (va_up (va_up (va_up (va_up (va_up (fun _ => none) 0 (some q2)) 1 (some q4)) 2 (some q6)) 3 (some q8)) 4 (some q10)) 5 (some q12)) 6 (some q14))))))), (q2, .inr (7, [.int 0, .int 0, .int 0, .ref (Zd 0), .int 0])), (q4, .inr (7, [.int 0, .int 0, .int 0, .ref (Zd 0), .int 0])), (q6, .inr (7, [.int 0, .int 0, .int 0, .ref (Zd 0), .int 0])), (q8, .inr (7, [.int 0, .int 0, .int 0, .ref (Zd 0), .int 0])), (q10, .inr (7, [.int 0, .int 0, .int 0, .ref (Zd 0), .int 0])), (q12, .inr (7, [.int 0, .int 0, .int 0, .ref (Zd 0), .int 0])), (q14, .inr (7, [.int 0, .int 0, .int 0, .ref (Zd 0), .int 0])), (q16, .inr (7, [.int 0, .int 0, .int 0, .ref (Zd 0), .int 0]))] H := hP
  have hD : va_D A [(h0, .inr (6, [.ref q1, .int 0])), (q1, .inl (G.2 7, 8, .inr (.inr (.inr (.inr (va_up (va_up (va_up (va_up (va_up (va_up (va_up (fun _ => none) 0 (some q2)) 1 (some q4)) 2 (some q6)) 3 (some q8)) 4 (some q10)) 5 (some q12)) 6 (some q14))))))), (q2, .inr (7, [.int 0, .int 0, .int 0, .ref (Zd 0), .int 0])), (q4, .inr (7, [.int 0, .int 0, .int 0, .ref (Zd 0), .int 0])), (q6, .inr (7, [.int 0, .int 0, .int 0, .ref (Zd 0), .int 0])), (q8, .inr (7, [.int 0, .int 0, .int 0, .ref (Zd 0), .int 0])), (q10, .inr (7, [.int 0, .int 0, .int 0, .ref (Zd 0), .int 0])), (q12, .inr (7, [.int 0, .int 0, .int 0, .ref (Zd 0), .int 0])), (q14, .inr (7, [.int 0, .int 0, .int 0, .ref (Zd 0), .int 0])), (q16, .inr (7, [.int 0, .int 0, .int 0, .ref (Zd 0), .int 0]))] := hD
  refine va_astq (D := G.1) hx hb hK hP hD hS 1 7 9 7 rfl rfl rfl rfl (i := 7) (by unfold vp_in; decide) d8_1_33 (fun H locs hP hD hS => ?_)
  have hP : va_P G.1 vwCl [(h0, .inr (6, [.ref q1, .int 0])), (q1, .inl (G.2 7, 8, .inr (.inr (.inr (.inr (va_up (va_up (va_up (va_up (va_up (va_up (va_up (va_up (fun _ => none) 0 (some q2)) 1 (some q4)) 2 (some q6)) 3 (some q8)) 4 (some q10)) 5 (some q12)) 6 (some q14)) 7 (some q16))))))), (q2, .inr (7, [.int 0, .int 0, .int 0, .ref (Zd 0), .int 0])), (q4, .inr (7, [.int 0, .int 0, .int 0, .ref (Zd 0), .int 0])), (q6, .inr (7, [.int 0, .int 0, .int 0, .ref (Zd 0), .int 0])), (q8, .inr (7, [.int 0, .int 0, .int 0, .ref (Zd 0), .int 0])), (q10, .inr (7, [.int 0, .int 0, .int 0, .ref (Zd 0), .int 0])), (q12, .inr (7, [.int 0, .int 0, .int 0, .ref (Zd 0), .int 0])), (q14, .inr (7, [.int 0, .int 0, .int 0, .ref (Zd 0), .int 0])), (q16, .inr (7, [.int 0, .int 0, .int 0, .ref (Zd 0), .int 0]))] H := hP
  have hD : va_D A [(h0, .inr (6, [.ref q1, .int 0])), (q1, .inl (G.2 7, 8, .inr (.inr (.inr (.inr (va_up (va_up (va_up (va_up (va_up (va_up (va_up (va_up (fun _ => none) 0 (some q2)) 1 (some q4)) 2 (some q6)) 3 (some q8)) 4 (some q10)) 5 (some q12)) 6 (some q14)) 7 (some q16))))))), (q2, .inr (7, [.int 0, .int 0, .int 0, .ref (Zd 0), .int 0])), (q4, .inr (7, [.int 0, .int 0, .int 0, .ref (Zd 0), .int 0])), (q6, .inr (7, [.int 0, .int 0, .int 0, .ref (Zd 0), .int 0])), (q8, .inr (7, [.int 0, .int 0, .int 0, .ref (Zd 0), .int 0])), (q10, .inr (7, [.int 0, .int 0, .int 0, .ref (Zd 0), .int 0])), (q12, .inr (7, [.int 0, .int 0, .int 0, .ref (Zd 0), .int 0])), (q14, .inr (7, [.int 0, .int 0, .int 0, .ref (Zd 0), .int 0])), (q16, .inr (7, [.int 0, .int 0, .int 0, .ref (Zd 0), .int 0]))] := hD
  refine lv_iinc (k := 0) (v := 8) (lv' := [(1, .int 8), (0, .ref h0)]) hx hb d8_1_34 hl rfl (by first | decide | rfl) (by decide) rfl (fun ls hl => ?_)
  refine lv_goto (tgt := 15) hx hb d8_1_37 rfl ?_
  refine lv_iload_n hx hb d8_1_15 rfl (lv_at hl 0 rfl) ?_
  refine lv_bipush (v := 8) hx hb d8_1_16 (by decide) ?_
  refine lv_icmp_ge (tgt := 40) hx hb d8_1_18 rfl (fun _ => ?_) (fun hc => absurd hc (by decide))
  exact fin_v hx hb hr hlk hS (fun k => ([q1, q2, q4, q6, q8, q10, q12, q14, q16] : List Nat).getD k 0) trivial hP hD (Nat.le_of_ble_eq_true rfl) (Nat.le_of_ble_eq_true rfl) d8_1_40
abbrev wk_ko_finder (G : Gk) (Zd : Nat → Nat) (h0 : Nat) (u : Nat → Nat) : va_W := [(h0, .inr (8, [.ref (u 0), .ref (u 1), .ref (u 2), .ref (u 3), .int 0, .int 0, .int 0, .int 0])), (u 0, .inl (G.2 5, 32, .inr (.inr (.inr (.inr (fun _ => none)))))), (u 1, .inl (G.2 1, 32, .inl (fun _ => 0))), (u 2, .inl (G.2 5, 32, .inr (.inr (.inr (.inr (fun _ => none)))))), (u 3, .inl (G.2 5, 32, .inr (.inr (.inr (.inr (fun _ => none))))))]
set_option maxHeartbeats 4000000 in
set_option maxRecDepth 100000 in
theorem ko_finder (l : Launch) (G : Gk) (Zd : Nat → Nat) (h0 : Nat) (sz : Nat) : Met l y3_1 (Cond.code y3_1 prog_3_method_1_code 1 none :: TB) (rmD 1 4 128) (va_Pc [.ref h0] (pcW G Zd [(h0, .inr (8, [.null, .null, .null, .null, .int 0, .int 0, .int 0, .int 0]))] sz)) (qV G (fun (_ : Nat → Nat) => True) (wk_ko_finder G Zd h0) (va_A [(h0, .inr (8, [.null, .null, .null, .null, .int 0, .int 0, .int 0, .int 0]))] sz)) 4 128 (va_A [(h0, .inr (8, [.null, .null, .null, .null, .int 0, .int 0, .int 0, .int 0]))] sz) := by
  refine go (y := y3_1) (cc := prog_3_method_1_code) (maxL := 1) (ret := none) (av := [.ref h0]) (Qc := qV G (fun (_ : Nat → Nat) => True) (wk_ko_finder G Zd h0)) "PagedValues$Finder" rfl (by decide) (Nat.le_of_ble_eq_true rfl) ?_
  intro p e s m below meth c ls A hx hb hr hlk hml hown hts hin hl hP hD hK hS hA hZ
  have hl : lv_has ls 1 [(0, .ref h0)] := hl
  refine lv_aload_n hx hb d3_1_0 rfl (lv_at hl 0 rfl) ?_
  refine W.objInit hx hb hown (hts _ (List.mem_cons_of_mem _ k180)) (hts _ (List.mem_cons_of_mem _ k33)) (hts _ (List.mem_cons_of_mem _ kobj)) rfl (by rw [hml]; exact hl.1) rfl d3_1_1 (Nat.le_of_ble_eq_true rfl) (Nat.le_of_ble_eq_true rfl) ?_
  refine W.eq (g2 := F0 m 4 ls []) rfl ?_
  refine lv_aload_n hx hb d3_1_4 rfl (lv_at hl 0 rfl) ?_
  refine lv_bipush (v := 32) hx hb d3_1_5 (by decide) ?_
  refine wn_q (D := G.1) (N' := 32) hx hb hown (hts _ (List.mem_cons_of_mem _ k181)) hZ.2.2.2.1 hK 5 rfl hP hD hS hA (by decide) (by decide) (by decide) (Nat.le_of_ble_eq_true rfl) (Nat.le_of_ble_eq_true rfl) d3_1_7 (fun q1 H hP hD hS => ?_)
  have hP : va_P G.1 vwCl [(h0, .inr (8, [.null, .null, .null, .null, .int 0, .int 0, .int 0, .int 0])), (q1, .inl (G.2 5, 32, .inr (.inr (.inr (.inr (fun _ => none))))))] H := hP
  have hD : va_D A [(h0, .inr (8, [.null, .null, .null, .null, .int 0, .int 0, .int 0, .int 0])), (q1, .inl (G.2 5, 32, .inr (.inr (.inr (.inr (fun _ => none))))))] := hD
  refine va_putF (D := G.1) (ci := 8) (v := .ref q1) (ty := (ft_8 0)) (C := r_8) (T := f_8) (N := 8) (ref := "PagedValues$Finder") hx hb hts (fun w h => List.mem_cons_of_mem _ (ly_8 w h)) ft_8 ft_8_ok nm_8 hown hK hP hD hS 0 rfl rfl 0 (by decide) (hts _ (List.mem_cons_of_mem _ k183)) (fun _ h9 => h9) rfl hin rfl (by decide +kernel) rfl rfl (Nat.le_of_ble_eq_true rfl) d3_1_10 (fun H locs hP hD hS => ?_)
  have hP : va_P G.1 vwCl [(h0, .inr (8, [.ref q1, .null, .null, .null, .int 0, .int 0, .int 0, .int 0])), (q1, .inl (G.2 5, 32, .inr (.inr (.inr (.inr (fun _ => none))))))] H := hP
  have hD : va_D A [(h0, .inr (8, [.ref q1, .null, .null, .null, .int 0, .int 0, .int 0, .int 0])), (q1, .inl (G.2 5, 32, .inr (.inr (.inr (.inr (fun _ => none))))))] := hD
  refine lv_aload_n hx hb d3_1_13 rfl (lv_at hl 0 rfl) ?_
  refine lv_bipush (v := 32) hx hb d3_1_14 (by decide) ?_
  refine wn_a (D := G.1) (atype := .int) (ty := .int) (N' := 32) (a0 := (32, .inl (fun _ => 0))) hx hb (hts _ (List.mem_cons_of_mem _ k210)) rfl hK 1 rfl hP hD hS hA (fun _ => rfl) (by decide) (by decide) (by decide) (Nat.le_of_ble_eq_true rfl) (Nat.le_of_ble_eq_true rfl) d3_1_16 (fun q2 H hP hD hS => ?_)
  have hP : va_P G.1 vwCl [(h0, .inr (8, [.ref q1, .null, .null, .null, .int 0, .int 0, .int 0, .int 0])), (q1, .inl (G.2 5, 32, .inr (.inr (.inr (.inr (fun _ => none)))))), (q2, .inl (G.2 1, 32, .inl (fun _ => 0)))] H := hP
  have hD : va_D A [(h0, .inr (8, [.ref q1, .null, .null, .null, .int 0, .int 0, .int 0, .int 0])), (q1, .inl (G.2 5, 32, .inr (.inr (.inr (.inr (fun _ => none)))))), (q2, .inl (G.2 1, 32, .inl (fun _ => 0)))] := hD
  refine va_putF (D := G.1) (ci := 8) (v := .ref q2) (ty := (ft_8 1)) (C := r_8) (T := f_8) (N := 8) (ref := "PagedValues$Finder") hx hb hts (fun w h => List.mem_cons_of_mem _ (ly_8 w h)) ft_8 ft_8_ok nm_8 hown hK hP hD hS 0 rfl rfl 1 (by decide) (hts _ (List.mem_cons_of_mem _ k185)) (fun _ h9 => h9) rfl hin rfl (by decide +kernel) rfl rfl (Nat.le_of_ble_eq_true rfl) d3_1_18 (fun H locs hP hD hS => ?_)
  have hP : va_P G.1 vwCl [(h0, .inr (8, [.ref q1, .ref q2, .null, .null, .int 0, .int 0, .int 0, .int 0])), (q1, .inl (G.2 5, 32, .inr (.inr (.inr (.inr (fun _ => none)))))), (q2, .inl (G.2 1, 32, .inl (fun _ => 0)))] H := hP
  have hD : va_D A [(h0, .inr (8, [.ref q1, .ref q2, .null, .null, .int 0, .int 0, .int 0, .int 0])), (q1, .inl (G.2 5, 32, .inr (.inr (.inr (.inr (fun _ => none)))))), (q2, .inl (G.2 1, 32, .inl (fun _ => 0)))] := hD
  refine lv_aload_n hx hb d3_1_21 rfl (lv_at hl 0 rfl) ?_
  refine lv_bipush (v := 32) hx hb d3_1_22 (by decide) ?_
  refine wn_q (D := G.1) (N' := 32) hx hb hown (hts _ (List.mem_cons_of_mem _ k181)) hZ.2.2.2.1 hK 5 rfl hP hD hS hA (by decide) (by decide) (by decide) (Nat.le_of_ble_eq_true rfl) (Nat.le_of_ble_eq_true rfl) d3_1_24 (fun q3 H hP hD hS => ?_)
  have hP : va_P G.1 vwCl [(h0, .inr (8, [.ref q1, .ref q2, .null, .null, .int 0, .int 0, .int 0, .int 0])), (q1, .inl (G.2 5, 32, .inr (.inr (.inr (.inr (fun _ => none)))))), (q2, .inl (G.2 1, 32, .inl (fun _ => 0))), (q3, .inl (G.2 5, 32, .inr (.inr (.inr (.inr (fun _ => none))))))] H := hP
  have hD : va_D A [(h0, .inr (8, [.ref q1, .ref q2, .null, .null, .int 0, .int 0, .int 0, .int 0])), (q1, .inl (G.2 5, 32, .inr (.inr (.inr (.inr (fun _ => none)))))), (q2, .inl (G.2 1, 32, .inl (fun _ => 0))), (q3, .inl (G.2 5, 32, .inr (.inr (.inr (.inr (fun _ => none))))))] := hD
  refine va_putF (D := G.1) (ci := 8) (v := .ref q3) (ty := (ft_8 2)) (C := r_8) (T := f_8) (N := 8) (ref := "PagedValues$Finder") hx hb hts (fun w h => List.mem_cons_of_mem _ (ly_8 w h)) ft_8 ft_8_ok nm_8 hown hK hP hD hS 0 rfl rfl 2 (by decide) (hts _ (List.mem_cons_of_mem _ k187)) (fun _ h9 => h9) rfl hin rfl (by decide +kernel) rfl rfl (Nat.le_of_ble_eq_true rfl) d3_1_27 (fun H locs hP hD hS => ?_)
  have hP : va_P G.1 vwCl [(h0, .inr (8, [.ref q1, .ref q2, .ref q3, .null, .int 0, .int 0, .int 0, .int 0])), (q1, .inl (G.2 5, 32, .inr (.inr (.inr (.inr (fun _ => none)))))), (q2, .inl (G.2 1, 32, .inl (fun _ => 0))), (q3, .inl (G.2 5, 32, .inr (.inr (.inr (.inr (fun _ => none))))))] H := hP
  have hD : va_D A [(h0, .inr (8, [.ref q1, .ref q2, .ref q3, .null, .int 0, .int 0, .int 0, .int 0])), (q1, .inl (G.2 5, 32, .inr (.inr (.inr (.inr (fun _ => none)))))), (q2, .inl (G.2 1, 32, .inl (fun _ => 0))), (q3, .inl (G.2 5, 32, .inr (.inr (.inr (.inr (fun _ => none))))))] := hD
  refine lv_aload_n hx hb d3_1_30 rfl (lv_at hl 0 rfl) ?_
  refine lv_bipush (v := 32) hx hb d3_1_31 (by decide) ?_
  refine wn_q (D := G.1) (N' := 32) hx hb hown (hts _ (List.mem_cons_of_mem _ k181)) hZ.2.2.2.1 hK 5 rfl hP hD hS hA (by decide) (by decide) (by decide) (Nat.le_of_ble_eq_true rfl) (Nat.le_of_ble_eq_true rfl) d3_1_33 (fun q4 H hP hD hS => ?_)
  have hP : va_P G.1 vwCl [(h0, .inr (8, [.ref q1, .ref q2, .ref q3, .null, .int 0, .int 0, .int 0, .int 0])), (q1, .inl (G.2 5, 32, .inr (.inr (.inr (.inr (fun _ => none)))))), (q2, .inl (G.2 1, 32, .inl (fun _ => 0))), (q3, .inl (G.2 5, 32, .inr (.inr (.inr (.inr (fun _ => none)))))), (q4, .inl (G.2 5, 32, .inr (.inr (.inr (.inr (fun _ => none))))))] H := hP
  have hD : va_D A [(h0, .inr (8, [.ref q1, .ref q2, .ref q3, .null, .int 0, .int 0, .int 0, .int 0])), (q1, .inl (G.2 5, 32, .inr (.inr (.inr (.inr (fun _ => none)))))), (q2, .inl (G.2 1, 32, .inl (fun _ => 0))), (q3, .inl (G.2 5, 32, .inr (.inr (.inr (.inr (fun _ => none)))))), (q4, .inl (G.2 5, 32, .inr (.inr (.inr (.inr (fun _ => none))))))] := hD
  refine va_putF (D := G.1) (ci := 8) (v := .ref q4) (ty := (ft_8 3)) (C := r_8) (T := f_8) (N := 8) (ref := "PagedValues$Finder") hx hb hts (fun w h => List.mem_cons_of_mem _ (ly_8 w h)) ft_8 ft_8_ok nm_8 hown hK hP hD hS 0 rfl rfl 3 (by decide) (hts _ (List.mem_cons_of_mem _ k188)) (fun _ h9 => h9) rfl hin rfl (by decide +kernel) rfl rfl (Nat.le_of_ble_eq_true rfl) d3_1_36 (fun H locs hP hD hS => ?_)
  have hP : va_P G.1 vwCl [(h0, .inr (8, [.ref q1, .ref q2, .ref q3, .ref q4, .int 0, .int 0, .int 0, .int 0])), (q1, .inl (G.2 5, 32, .inr (.inr (.inr (.inr (fun _ => none)))))), (q2, .inl (G.2 1, 32, .inl (fun _ => 0))), (q3, .inl (G.2 5, 32, .inr (.inr (.inr (.inr (fun _ => none)))))), (q4, .inl (G.2 5, 32, .inr (.inr (.inr (.inr (fun _ => none))))))] H := hP
  have hD : va_D A [(h0, .inr (8, [.ref q1, .ref q2, .ref q3, .ref q4, .int 0, .int 0, .int 0, .int 0])), (q1, .inl (G.2 5, 32, .inr (.inr (.inr (.inr (fun _ => none)))))), (q2, .inl (G.2 1, 32, .inl (fun _ => 0))), (q3, .inl (G.2 5, 32, .inr (.inr (.inr (.inr (fun _ => none)))))), (q4, .inl (G.2 5, 32, .inr (.inr (.inr (.inr (fun _ => none))))))] := hD
  exact fin_v hx hb hr hlk hS (fun k => ([q1, q2, q3, q4] : List Nat).getD k 0) trivial hP hD (Nat.le_of_ble_eq_true rfl) (Nat.le_of_ble_eq_true rfl) d3_1_39
abbrev wk_ko_page (G : Gk) (Zd : Nat → Nat) (h0 : Nat) (u : Nat → Nat) : va_W := [(h0, .inr (10, [.ref (u 0), .ref (u 1)])), (u 0, .inl (G.2 5, 4, .inr (.inr (.inr (.inr (fun _ => none)))))), (u 1, .inl (G.2 1, 2, .inl (fun _ => 0)))]
set_option maxHeartbeats 4000000 in
set_option maxRecDepth 100000 in
theorem ko_page (l : Launch) (G : Gk) (Zd : Nat → Nat) (h0 : Nat) (sz : Nat) : Met l y5_1 (Cond.code y5_1 prog_5_method_1_code 1 none :: TB) (rmD 1 2 6) (va_Pc [.ref h0] (pcW G Zd [(h0, .inr (10, [.null, .null]))] sz)) (qV G (fun (_ : Nat → Nat) => True) (wk_ko_page G Zd h0) (va_A [(h0, .inr (10, [.null, .null]))] sz)) 2 6 (va_A [(h0, .inr (10, [.null, .null]))] sz) := by
  refine go (y := y5_1) (cc := prog_5_method_1_code) (maxL := 1) (ret := none) (av := [.ref h0]) (Qc := qV G (fun (_ : Nat → Nat) => True) (wk_ko_page G Zd h0)) "PagedValues$Page" rfl (by decide) (Nat.le_of_ble_eq_true rfl) ?_
  intro p e s m below meth c ls A hx hb hr hlk hml hown hts hin hl hP hD hK hS hA hZ
  have hl : lv_has ls 1 [(0, .ref h0)] := hl
  refine lv_aload_n hx hb d5_1_0 rfl (lv_at hl 0 rfl) ?_
  refine W.objInit hx hb hown (hts _ (List.mem_cons_of_mem _ k224)) (hts _ (List.mem_cons_of_mem _ k33)) (hts _ (List.mem_cons_of_mem _ kobj)) rfl (by rw [hml]; exact hl.1) rfl d5_1_1 (Nat.le_of_ble_eq_true rfl) (Nat.le_of_ble_eq_true rfl) ?_
  refine W.eq (g2 := F0 m 4 ls []) rfl ?_
  refine lv_aload_n hx hb d5_1_4 rfl (lv_at hl 0 rfl) ?_
  refine lv_iconst (v := 4) hx hb d5_1_5 (by decide) ?_
  refine wn_q (D := G.1) (N' := 4) hx hb hown (hts _ (List.mem_cons_of_mem _ k225)) hZ.2.2.2.1 hK 5 rfl hP hD hS hA (by decide) (by decide) (by decide) (Nat.le_of_ble_eq_true rfl) (Nat.le_of_ble_eq_true rfl) d5_1_6 (fun q1 H hP hD hS => ?_)
  have hP : va_P G.1 vwCl [(h0, .inr (10, [.null, .null])), (q1, .inl (G.2 5, 4, .inr (.inr (.inr (.inr (fun _ => none))))))] H := hP
  have hD : va_D A [(h0, .inr (10, [.null, .null])), (q1, .inl (G.2 5, 4, .inr (.inr (.inr (.inr (fun _ => none))))))] := hD
  refine va_putF (D := G.1) (ci := 10) (v := .ref q1) (ty := (ft_10 0)) (C := r_10) (T := f_10) (N := 2) (ref := "PagedValues$Page") hx hb hts (fun w h => List.mem_cons_of_mem _ (ly_10 w h)) ft_10 ft_10_ok nm_10 hown hK hP hD hS 0 rfl rfl 0 (by decide) (hts _ (List.mem_cons_of_mem _ k226)) (fun _ h9 => h9) rfl hin rfl (by decide +kernel) rfl rfl (Nat.le_of_ble_eq_true rfl) d5_1_9 (fun H locs hP hD hS => ?_)
  have hP : va_P G.1 vwCl [(h0, .inr (10, [.ref q1, .null])), (q1, .inl (G.2 5, 4, .inr (.inr (.inr (.inr (fun _ => none))))))] H := hP
  have hD : va_D A [(h0, .inr (10, [.ref q1, .null])), (q1, .inl (G.2 5, 4, .inr (.inr (.inr (.inr (fun _ => none))))))] := hD
  refine lv_aload_n hx hb d5_1_12 rfl (lv_at hl 0 rfl) ?_
  refine lv_iconst (v := 2) hx hb d5_1_13 (by decide) ?_
  refine wn_a (D := G.1) (atype := .int) (ty := .int) (N' := 2) (a0 := (2, .inl (fun _ => 0))) hx hb (hts _ (List.mem_cons_of_mem _ k210)) rfl hK 1 rfl hP hD hS hA (fun _ => rfl) (by decide) (by decide) (by decide) (Nat.le_of_ble_eq_true rfl) (Nat.le_of_ble_eq_true rfl) d5_1_14 (fun q2 H hP hD hS => ?_)
  have hP : va_P G.1 vwCl [(h0, .inr (10, [.ref q1, .null])), (q1, .inl (G.2 5, 4, .inr (.inr (.inr (.inr (fun _ => none)))))), (q2, .inl (G.2 1, 2, .inl (fun _ => 0)))] H := hP
  have hD : va_D A [(h0, .inr (10, [.ref q1, .null])), (q1, .inl (G.2 5, 4, .inr (.inr (.inr (.inr (fun _ => none)))))), (q2, .inl (G.2 1, 2, .inl (fun _ => 0)))] := hD
  refine va_putF (D := G.1) (ci := 10) (v := .ref q2) (ty := (ft_10 1)) (C := r_10) (T := f_10) (N := 2) (ref := "PagedValues$Page") hx hb hts (fun w h => List.mem_cons_of_mem _ (ly_10 w h)) ft_10 ft_10_ok nm_10 hown hK hP hD hS 0 rfl rfl 1 (by decide) (hts _ (List.mem_cons_of_mem _ k228)) (fun _ h9 => h9) rfl hin rfl (by decide +kernel) rfl rfl (Nat.le_of_ble_eq_true rfl) d5_1_16 (fun H locs hP hD hS => ?_)
  have hP : va_P G.1 vwCl [(h0, .inr (10, [.ref q1, .ref q2])), (q1, .inl (G.2 5, 4, .inr (.inr (.inr (.inr (fun _ => none)))))), (q2, .inl (G.2 1, 2, .inl (fun _ => 0)))] H := hP
  have hD : va_D A [(h0, .inr (10, [.ref q1, .ref q2])), (q1, .inl (G.2 5, 4, .inr (.inr (.inr (.inr (fun _ => none)))))), (q2, .inl (G.2 1, 2, .inl (fun _ => 0)))] := hD
  exact fin_v hx hb hr hlk hS (fun k => ([q1, q2] : List Nat).getD k 0) trivial hP hD (Nat.le_of_ble_eq_true rfl) (Nat.le_of_ble_eq_true rfl) d5_1_19
