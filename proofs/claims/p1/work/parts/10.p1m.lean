theorem d15_2_0 : decode prog_15_method_2_code 0 = .ok (.iload_n 0, 1) := by decide +kernel
theorem d15_2_1 : decode prog_15_method_2_code 1 = .ok (.iload_n 1, 1) := by decide +kernel
theorem d15_2_2 : decode prog_15_method_2_code 2 = .ok (.if_icmp .lt 12, 3) := by decide +kernel
theorem d15_2_14 : decode prog_15_method_2_code 14 = .ok (.iconst 0, 1) := by decide +kernel
theorem d15_2_15 : decode prog_15_method_2_code 15 = .ok (.ireturn, 1) := by decide +kernel
theorem d15_2_5 : decode prog_15_method_2_code 5 = .ok (.iload_n 0, 1) := by decide +kernel
theorem d15_2_6 : decode prog_15_method_2_code 6 = .ok (.iload_n 2, 1) := by decide +kernel
theorem d15_2_7 : decode prog_15_method_2_code 7 = .ok (.if_icmp .gt 7, 3) := by decide +kernel
theorem d15_2_10 : decode prog_15_method_2_code 10 = .ok (.iconst 1, 1) := by decide +kernel
theorem d15_2_11 : decode prog_15_method_2_code 11 = .ok (.goto 4, 3) := by decide +kernel
def y15_2 : MethodName := { cls := "PagedValuesModel", name := "within", desc := "(III)Z" }
theorem d15_61_0 : decode prog_15_method_61_code 0 = .ok (.aload_n 0, 1) := by decide +kernel
theorem d15_61_1 : decode prog_15_method_61_code 1 = .ok (.getfield 308, 3) := by decide +kernel
theorem k1191 : (Jvm.Cond.fieldLink "PagedValuesModel" (308 : Nat) "PagedValuesModel" "down" "Z") ∈ TB := tk_5 231 rfl rfl
theorem d15_61_4 : decode prog_15_method_61_code 4 = .ok (.ifCond .ne 12, 3) := by decide +kernel
theorem d15_61_7 : decode prog_15_method_61_code 7 = .ok (.aload_n 0, 1) := by decide +kernel
theorem d15_61_8 : decode prog_15_method_61_code 8 = .ok (.getfield 108, 3) := by decide +kernel
theorem k1152 : (Jvm.Cond.fieldLink "PagedValuesModel" (108 : Nat) "PagedValuesModel" "length" "I") ∈ TB := tk_5 192 rfl rfl
theorem d15_61_11 : decode prog_15_method_61_code 11 = .ok (.bipush 80, 2) := by decide +kernel
theorem d15_61_13 : decode prog_15_method_61_code 13 = .ok (.if_icmp .ne 17, 3) := by decide +kernel
theorem d15_61_30 : decode prog_15_method_61_code 30 = .ok (.aload_n 0, 1) := by decide +kernel
theorem d15_61_31 : decode prog_15_method_61_code 31 = .ok (.getfield 7, 3) := by decide +kernel
theorem d15_61_34 : decode prog_15_method_61_code 34 = .ok (.aload_n 0, 1) := by decide +kernel
theorem d15_61_35 : decode prog_15_method_61_code 35 = .ok (.getfield 108, 3) := by decide +kernel
theorem d15_61_38 : decode prog_15_method_61_code 38 = .ok (.iload_n 1, 1) := by decide +kernel
theorem d15_61_39 : decode prog_15_method_61_code 39 = .ok (.castore, 1) := by decide +kernel
theorem d15_61_40 : decode prog_15_method_61_code 40 = .ok (.aload_n 0, 1) := by decide +kernel
theorem d15_61_41 : decode prog_15_method_61_code 41 = .ok (.dup, 1) := by decide +kernel
theorem d15_61_42 : decode prog_15_method_61_code 42 = .ok (.getfield 108, 3) := by decide +kernel
theorem d15_61_45 : decode prog_15_method_61_code 45 = .ok (.iconst 1, 1) := by decide +kernel
theorem d15_61_46 : decode prog_15_method_61_code 46 = .ok (.iadd, 1) := by decide +kernel
theorem d15_61_47 : decode prog_15_method_61_code 47 = .ok (.putfield 108, 3) := by decide +kernel
theorem d15_61_50 : decode prog_15_method_61_code 50 = .ok (.aload_n 0, 1) := by decide +kernel
theorem d15_61_51 : decode prog_15_method_61_code 51 = .ok (.getfield 108, 3) := by decide +kernel
theorem d15_61_54 : decode prog_15_method_61_code 54 = .ok (.ireturn, 1) := by decide +kernel
def y15_61 : MethodName := { cls := "PagedValuesModel", name := "type", desc := "(C)I" }
theorem d15_62_0 : decode prog_15_method_62_code 0 = .ok (.aload_n 0, 1) := by decide +kernel
theorem d15_62_1 : decode prog_15_method_62_code 1 = .ok (.getfield 308, 3) := by decide +kernel
theorem d15_62_4 : decode prog_15_method_62_code 4 = .ok (.ifCond .ne 13, 3) := by decide +kernel
theorem d15_62_7 : decode prog_15_method_62_code 7 = .ok (.iload_n 1, 1) := by decide +kernel
theorem d15_62_8 : decode prog_15_method_62_code 8 = .ok (.iconst 0, 1) := by decide +kernel
theorem d15_62_9 : decode prog_15_method_62_code 9 = .ok (.bipush 7, 2) := by decide +kernel
theorem d15_62_11 : decode prog_15_method_62_code 11 = .ok (.invokestatic 260, 3) := by decide +kernel
theorem k1289 : (Jvm.Cond.code ({ cls := "PagedValuesModel", name := "within", desc := "(III)Z" } : Jvm.MethodName) prog_15_method_2_code (3 : Nat) (Option.some Jvm.ClassFile.FieldType.boolean)) ∈ TB := tk_6 89 rfl rfl
theorem k15 : (Jvm.Cond.initialized "PagedValuesModel") ∈ TB := tk_1 15 rfl rfl
theorem k1287 : (Jvm.Cond.methodLink "PagedValuesModel" (260 : Nat) ({ cls := "PagedValuesModel", name := "within", desc := "(III)Z" } : Jvm.MethodName)) ∈ TB := tk_6 87 rfl rfl
theorem k1288 : (Jvm.Cond.static ({ cls := "PagedValuesModel", name := "within", desc := "(III)Z" } : Jvm.MethodName)) ∈ TB := tk_6 88 rfl rfl
theorem d15_62_14 : decode prog_15_method_62_code 14 = .ok (.ifCond .ne 17, 3) := by decide +kernel
theorem d15_62_31 : decode prog_15_method_62_code 31 = .ok (.aload_n 0, 1) := by decide +kernel
theorem d15_62_32 : decode prog_15_method_62_code 32 = .ok (.invokevirtual 329, 3) := by decide +kernel
theorem d15_28_0 : decode prog_15_method_28_code 0 = .ok (.aload_n 0, 1) := by decide +kernel
theorem d15_28_1 : decode prog_15_method_28_code 1 = .ok (.iconst 0, 1) := by decide +kernel
theorem d15_28_2 : decode prog_15_method_28_code 2 = .ok (.putfield 104, 3) := by decide +kernel
theorem k1153 : (Jvm.Cond.fieldLink "PagedValuesModel" (104 : Nat) "PagedValuesModel" "p" "I") ∈ TB := tk_5 193 rfl rfl
theorem d15_28_5 : decode prog_15_method_28_code 5 = .ok (.aload_n 0, 1) := by decide +kernel
theorem d15_28_6 : decode prog_15_method_28_code 6 = .ok (.iconst (-1), 1) := by decide +kernel
theorem d15_28_7 : decode prog_15_method_28_code 7 = .ok (.putfield 111, 3) := by decide +kernel
theorem k1154 : (Jvm.Cond.fieldLink "PagedValuesModel" (111 : Nat) "PagedValuesModel" "bad" "I") ∈ TB := tk_5 194 rfl rfl
theorem d15_28_10 : decode prog_15_method_28_code 10 = .ok (.aload_n 0, 1) := by decide +kernel
theorem d15_28_11 : decode prog_15_method_28_code 11 = .ok (.iconst 0, 1) := by decide +kernel
theorem d15_28_12 : decode prog_15_method_28_code 12 = .ok (.putfield 162, 3) := by decide +kernel
theorem k1161 : (Jvm.Cond.fieldLink "PagedValuesModel" (162 : Nat) "PagedValuesModel" "nodes" "I") ∈ TB := tk_5 201 rfl rfl
theorem d15_28_15 : decode prog_15_method_28_code 15 = .ok (.aload_n 0, 1) := by decide +kernel
theorem d15_28_16 : decode prog_15_method_28_code 16 = .ok (.iconst 0, 1) := by decide +kernel
theorem d15_28_17 : decode prog_15_method_28_code 17 = .ok (.putfield 165, 3) := by decide +kernel
theorem k1164 : (Jvm.Cond.fieldLink "PagedValuesModel" (165 : Nat) "PagedValuesModel" "level" "I") ∈ TB := tk_5 204 rfl rfl
theorem d15_28_20 : decode prog_15_method_28_code 20 = .ok (.aload_n 0, 1) := by decide +kernel
theorem d15_28_21 : decode prog_15_method_28_code 21 = .ok (.invokevirtual 176, 3) := by decide +kernel
theorem d15_13_0 : decode prog_15_method_13_code 0 = .ok (.aload_n 0, 1) := by decide +kernel
theorem d15_13_1 : decode prog_15_method_13_code 1 = .ok (.bipush 32, 2) := by decide +kernel
theorem d15_13_3 : decode prog_15_method_13_code 3 = .ok (.invokevirtual 121, 3) := by decide +kernel
theorem d15_10_0 : decode prog_15_method_10_code 0 = .ok (.aload_n 0, 1) := by decide +kernel
theorem d15_10_1 : decode prog_15_method_10_code 1 = .ok (.getfield 111, 3) := by decide +kernel
theorem d15_10_4 : decode prog_15_method_10_code 4 = .ok (.ifCond .ge 15, 3) := by decide +kernel
theorem d15_10_7 : decode prog_15_method_10_code 7 = .ok (.aload_n 0, 1) := by decide +kernel
theorem d15_10_8 : decode prog_15_method_10_code 8 = .ok (.invokevirtual 114, 3) := by decide +kernel
theorem d15_7_0 : decode prog_15_method_7_code 0 = .ok (.aload_n 0, 1) := by decide +kernel
theorem d15_7_1 : decode prog_15_method_7_code 1 = .ok (.getfield 104, 3) := by decide +kernel
theorem d15_7_4 : decode prog_15_method_7_code 4 = .ok (.aload_n 0, 1) := by decide +kernel
theorem d15_7_5 : decode prog_15_method_7_code 5 = .ok (.getfield 108, 3) := by decide +kernel
theorem d15_7_8 : decode prog_15_method_7_code 8 = .ok (.if_icmp .ge 15, 3) := by decide +kernel
theorem d15_7_23 : decode prog_15_method_7_code 23 = .ok (.iconst (-1), 1) := by decide +kernel
theorem d15_7_24 : decode prog_15_method_7_code 24 = .ok (.ireturn, 1) := by decide +kernel
def y15_7 : MethodName := { cls := "PagedValuesModel", name := "here", desc := "()I" }
theorem k1305 : (Jvm.Cond.code ({ cls := "PagedValuesModel", name := "here", desc := "()I" } : Jvm.MethodName) prog_15_method_7_code (1 : Nat) (Option.some Jvm.ClassFile.FieldType.int)) ∈ TB := tk_6 105 rfl rfl
theorem k1302 : (Jvm.Cond.methodLink "PagedValuesModel" (114 : Nat) ({ cls := "PagedValuesModel", name := "here", desc := "()I" } : Jvm.MethodName)) ∈ TB := tk_6 102 rfl rfl
theorem k1304 : (Jvm.Cond.instanceMethod ({ cls := "PagedValuesModel", name := "here", desc := "()I" } : Jvm.MethodName)) ∈ TB := tk_6 104 rfl rfl
theorem ks37 : Cond.selects y15_7.cls y15_7 y15_7 ∈ TB := List.mem_filter.mpr ⟨List.mem_append_left _ (List.mem_of_getElem? (i := 37) (by decide +kernel)), rfl⟩
theorem d15_10_11 : decode prog_15_method_10_code 11 = .ok (.iload_n 1, 1) := by decide +kernel
theorem d15_10_12 : decode prog_15_method_10_code 12 = .ok (.if_icmp .ne 7, 3) := by decide +kernel
theorem d15_10_19 : decode prog_15_method_10_code 19 = .ok (.iconst 0, 1) := by decide +kernel
theorem d15_10_20 : decode prog_15_method_10_code 20 = .ok (.ireturn, 1) := by decide +kernel
def y15_10 : MethodName := { cls := "PagedValuesModel", name := "sees", desc := "(I)Z" }
theorem k1301 : (Jvm.Cond.code ({ cls := "PagedValuesModel", name := "sees", desc := "(I)Z" } : Jvm.MethodName) prog_15_method_10_code (2 : Nat) (Option.some Jvm.ClassFile.FieldType.boolean)) ∈ TB := tk_6 101 rfl rfl
theorem k1298 : (Jvm.Cond.methodLink "PagedValuesModel" (121 : Nat) ({ cls := "PagedValuesModel", name := "sees", desc := "(I)Z" } : Jvm.MethodName)) ∈ TB := tk_6 98 rfl rfl
theorem k1300 : (Jvm.Cond.instanceMethod ({ cls := "PagedValuesModel", name := "sees", desc := "(I)Z" } : Jvm.MethodName)) ∈ TB := tk_6 100 rfl rfl
theorem ks36 : Cond.selects y15_10.cls y15_10 y15_10 ∈ TB := List.mem_filter.mpr ⟨List.mem_append_left _ (List.mem_of_getElem? (i := 36) (by decide +kernel)), rfl⟩
theorem d15_13_6 : decode prog_15_method_13_code 6 = .ok (.ifCond .ne 30, 3) := by decide +kernel
theorem d15_13_9 : decode prog_15_method_13_code 9 = .ok (.aload_n 0, 1) := by decide +kernel
theorem d15_13_10 : decode prog_15_method_13_code 10 = .ok (.bipush 9, 2) := by decide +kernel
theorem d15_13_12 : decode prog_15_method_13_code 12 = .ok (.invokevirtual 121, 3) := by decide +kernel
theorem d15_13_15 : decode prog_15_method_13_code 15 = .ok (.ifCond .ne 21, 3) := by decide +kernel
theorem d15_13_18 : decode prog_15_method_13_code 18 = .ok (.aload_n 0, 1) := by decide +kernel
theorem d15_13_19 : decode prog_15_method_13_code 19 = .ok (.bipush 10, 2) := by decide +kernel
theorem d15_13_21 : decode prog_15_method_13_code 21 = .ok (.invokevirtual 121, 3) := by decide +kernel
theorem d15_13_24 : decode prog_15_method_13_code 24 = .ok (.ifCond .ne 12, 3) := by decide +kernel
theorem d15_13_27 : decode prog_15_method_13_code 27 = .ok (.aload_n 0, 1) := by decide +kernel
theorem d15_13_28 : decode prog_15_method_13_code 28 = .ok (.bipush 13, 2) := by decide +kernel
theorem d15_13_30 : decode prog_15_method_13_code 30 = .ok (.invokevirtual 121, 3) := by decide +kernel
theorem d15_13_33 : decode prog_15_method_13_code 33 = .ok (.ifCond .eq 16, 3) := by decide +kernel
theorem d15_13_49 : decode prog_15_method_13_code 49 = .ok (.return_, 1) := by decide +kernel
def y15_13 : MethodName := { cls := "PagedValuesModel", name := "blanks", desc := "()V" }
theorem k1297 : (Jvm.Cond.code ({ cls := "PagedValuesModel", name := "blanks", desc := "()V" } : Jvm.MethodName) prog_15_method_13_code (1 : Nat) (Option.none : Option Jvm.ClassFile.FieldType)) ∈ TB := tk_6 97 rfl rfl
theorem k1294 : (Jvm.Cond.methodLink "PagedValuesModel" (176 : Nat) ({ cls := "PagedValuesModel", name := "blanks", desc := "()V" } : Jvm.MethodName)) ∈ TB := tk_6 94 rfl rfl
theorem k1296 : (Jvm.Cond.instanceMethod ({ cls := "PagedValuesModel", name := "blanks", desc := "()V" } : Jvm.MethodName)) ∈ TB := tk_6 96 rfl rfl
theorem ks35 : Cond.selects y15_13.cls y15_13 y15_13 ∈ TB := List.mem_filter.mpr ⟨List.mem_append_left _ (List.mem_of_getElem? (i := 35) (by decide +kernel)), rfl⟩
theorem d15_28_24 : decode prog_15_method_28_code 24 = .ok (.aload_n 0, 1) := by decide +kernel
theorem d15_28_25 : decode prog_15_method_28_code 25 = .ok (.lconst 0, 1) := by decide +kernel
theorem d15_28_26 : decode prog_15_method_28_code 26 = .ok (.lconst 0, 1) := by decide +kernel
theorem d15_28_27 : decode prog_15_method_28_code 27 = .ok (.invokevirtual 172, 3) := by decide +kernel
theorem d15_23_0 : decode prog_15_method_23_code 0 = .ok (.aload_n 0, 1) := by decide +kernel
theorem d15_23_1 : decode prog_15_method_23_code 1 = .ok (.getfield 27, 3) := by decide +kernel
theorem d15_23_4 : decode prog_15_method_23_code 4 = .ok (.bipush 80, 2) := by decide +kernel
theorem d15_23_6 : decode prog_15_method_23_code 6 = .ok (.invokestatic 159, 3) := by decide +kernel
theorem d15_20_0 : decode prog_15_method_20_code 0 = .ok (.iload_n 0, 1) := by decide +kernel
theorem d15_20_1 : decode prog_15_method_20_code 1 = .ok (.bipush 80, 2) := by decide +kernel
theorem d15_20_3 : decode prog_15_method_20_code 3 = .ok (.if_icmp .ge 10, 3) := by decide +kernel
theorem d15_20_13 : decode prog_15_method_20_code 13 = .ok (.sipush 1920, 3) := by decide +kernel
theorem d15_20_16 : decode prog_15_method_20_code 16 = .ok (.bipush 60, 2) := by decide +kernel
theorem d15_20_18 : decode prog_15_method_20_code 18 = .ok (.iload_n 0, 1) := by decide +kernel
theorem d15_20_19 : decode prog_15_method_20_code 19 = .ok (.bipush 80, 2) := by decide +kernel
theorem d15_20_21 : decode prog_15_method_20_code 21 = .ok (.isub, 1) := by decide +kernel
theorem d15_20_22 : decode prog_15_method_20_code 22 = .ok (.imul, 1) := by decide +kernel
theorem d15_20_23 : decode prog_15_method_20_code 23 = .ok (.iadd, 1) := by decide +kernel
theorem d15_20_24 : decode prog_15_method_20_code 24 = .ok (.ireturn, 1) := by decide +kernel
def y15_20 : MethodName := { cls := "PagedValuesModel", name := "at", desc := "(I)I" }
theorem k1312 : (Jvm.Cond.code ({ cls := "PagedValuesModel", name := "at", desc := "(I)I" } : Jvm.MethodName) prog_15_method_20_code (1 : Nat) (Option.some Jvm.ClassFile.FieldType.int)) ∈ TB := tk_6 112 rfl rfl
theorem k1310 : (Jvm.Cond.methodLink "PagedValuesModel" (159 : Nat) ({ cls := "PagedValuesModel", name := "at", desc := "(I)I" } : Jvm.MethodName)) ∈ TB := tk_6 110 rfl rfl
theorem k1311 : (Jvm.Cond.static ({ cls := "PagedValuesModel", name := "at", desc := "(I)I" } : Jvm.MethodName)) ∈ TB := tk_6 111 rfl rfl
theorem d15_23_9 : decode prog_15_method_23_code 9 = .ok (.aload_n 0, 1) := by decide +kernel
theorem d15_23_10 : decode prog_15_method_23_code 10 = .ok (.getfield 162, 3) := by decide +kernel
theorem d15_23_13 : decode prog_15_method_23_code 13 = .ok (.iadd, 1) := by decide +kernel
theorem d15_23_14 : decode prog_15_method_23_code 14 = .ok (.lload_n 1, 1) := by decide +kernel
theorem d15_23_15 : decode prog_15_method_23_code 15 = .ok (.lastore, 1) := by decide +kernel
theorem d15_23_16 : decode prog_15_method_23_code 16 = .ok (.aload_n 0, 1) := by decide +kernel
theorem d15_23_17 : decode prog_15_method_23_code 17 = .ok (.getfield 30, 3) := by decide +kernel
theorem d15_23_20 : decode prog_15_method_23_code 20 = .ok (.bipush 80, 2) := by decide +kernel
theorem d15_23_22 : decode prog_15_method_23_code 22 = .ok (.invokestatic 159, 3) := by decide +kernel
theorem d15_23_25 : decode prog_15_method_23_code 25 = .ok (.aload_n 0, 1) := by decide +kernel
theorem d15_23_26 : decode prog_15_method_23_code 26 = .ok (.getfield 162, 3) := by decide +kernel
theorem d15_23_29 : decode prog_15_method_23_code 29 = .ok (.iadd, 1) := by decide +kernel
theorem d15_23_30 : decode prog_15_method_23_code 30 = .ok (.lload_n 3, 1) := by decide +kernel
theorem d15_23_31 : decode prog_15_method_23_code 31 = .ok (.lastore, 1) := by decide +kernel
theorem d15_23_32 : decode prog_15_method_23_code 32 = .ok (.return_, 1) := by decide +kernel
def y15_23 : MethodName := { cls := "PagedValuesModel", name := "named", desc := "(JJ)V" }
theorem k1309 : (Jvm.Cond.code ({ cls := "PagedValuesModel", name := "named", desc := "(JJ)V" } : Jvm.MethodName) prog_15_method_23_code (5 : Nat) (Option.none : Option Jvm.ClassFile.FieldType)) ∈ TB := tk_6 109 rfl rfl
theorem k1306 : (Jvm.Cond.methodLink "PagedValuesModel" (172 : Nat) ({ cls := "PagedValuesModel", name := "named", desc := "(JJ)V" } : Jvm.MethodName)) ∈ TB := tk_6 106 rfl rfl
theorem k1308 : (Jvm.Cond.instanceMethod ({ cls := "PagedValuesModel", name := "named", desc := "(JJ)V" } : Jvm.MethodName)) ∈ TB := tk_6 108 rfl rfl
theorem ks38 : Cond.selects y15_23.cls y15_23 y15_23 ∈ TB := List.mem_filter.mpr ⟨List.mem_append_left _ (List.mem_of_getElem? (i := 38) (by decide +kernel)), rfl⟩
theorem d15_28_30 : decode prog_15_method_28_code 30 = .ok (.aload_n 0, 1) := by decide +kernel
theorem d15_28_31 : decode prog_15_method_28_code 31 = .ok (.invokevirtual 186, 3) := by decide +kernel
theorem d15_25_0 : decode prog_15_method_25_code 0 = .ok (.aload_n 0, 1) := by decide +kernel
theorem d15_25_1 : decode prog_15_method_25_code 1 = .ok (.getfield 162, 3) := by decide +kernel
theorem d15_25_4 : decode prog_15_method_25_code 4 = .ok (.bipush 24, 2) := by decide +kernel
theorem d15_25_6 : decode prog_15_method_25_code 6 = .ok (.if_icmp .ne 9, 3) := by decide +kernel
theorem d15_25_15 : decode prog_15_method_25_code 15 = .ok (.aload_n 0, 1) := by decide +kernel
theorem d15_25_16 : decode prog_15_method_25_code 16 = .ok (.bipush 91, 2) := by decide +kernel
theorem d15_25_18 : decode prog_15_method_25_code 18 = .ok (.invokevirtual 121, 3) := by decide +kernel
theorem d15_25_21 : decode prog_15_method_25_code 21 = .ok (.istore_n 1, 1) := by decide +kernel
theorem d15_25_22 : decode prog_15_method_25_code 22 = .ok (.iload_n 1, 1) := by decide +kernel
theorem d15_25_23 : decode prog_15_method_25_code 23 = .ok (.ifCond .ne 32, 3) := by decide +kernel
theorem d15_25_26 : decode prog_15_method_25_code 26 = .ok (.aload_n 0, 1) := by decide +kernel
theorem d15_25_27 : decode prog_15_method_25_code 27 = .ok (.bipush 123, 2) := by decide +kernel
theorem d15_25_29 : decode prog_15_method_25_code 29 = .ok (.invokevirtual 121, 3) := by decide +kernel
theorem d15_25_32 : decode prog_15_method_25_code 32 = .ok (.ifCond .ne 23, 3) := by decide +kernel
theorem d15_25_35 : decode prog_15_method_25_code 35 = .ok (.aload_n 0, 1) := by decide +kernel
theorem d15_25_36 : decode prog_15_method_25_code 36 = .ok (.invokevirtual 179, 3) := by decide +kernel
theorem d15_18_0 : decode prog_15_method_18_code 0 = .ok (.aload_n 0, 1) := by decide +kernel
theorem d15_18_1 : decode prog_15_method_18_code 1 = .ok (.invokevirtual 114, 3) := by decide +kernel
theorem d15_18_4 : decode prog_15_method_18_code 4 = .ok (.istore_n 1, 1) := by decide +kernel
theorem d15_18_5 : decode prog_15_method_18_code 5 = .ok (.iload_n 1, 1) := by decide +kernel
theorem d15_18_6 : decode prog_15_method_18_code 6 = .ok (.bipush 34, 2) := by decide +kernel
theorem d15_18_8 : decode prog_15_method_18_code 8 = .ok (.if_icmp .ne 9, 3) := by decide +kernel
theorem d15_18_17 : decode prog_15_method_18_code 17 = .ok (.iload_n 1, 1) := by decide +kernel
theorem d15_18_18 : decode prog_15_method_18_code 18 = .ok (.bipush 45, 2) := by decide +kernel
theorem d15_18_20 : decode prog_15_method_18_code 20 = .ok (.if_icmp .eq 10, 3) := by decide +kernel
theorem d15_18_23 : decode prog_15_method_18_code 23 = .ok (.iload_n 1, 1) := by decide +kernel
theorem d15_18_24 : decode prog_15_method_18_code 24 = .ok (.invokestatic 141, 3) := by decide +kernel
theorem d15_12_0 : decode prog_15_method_12_code 0 = .ok (.iload_n 0, 1) := by decide +kernel
theorem d15_12_1 : decode prog_15_method_12_code 1 = .ok (.bipush 48, 2) := by decide +kernel
theorem d15_12_3 : decode prog_15_method_12_code 3 = .ok (.if_icmp .lt 13, 3) := by decide +kernel
theorem d15_12_16 : decode prog_15_method_12_code 16 = .ok (.iconst 0, 1) := by decide +kernel
theorem d15_12_17 : decode prog_15_method_12_code 17 = .ok (.ireturn, 1) := by decide +kernel
def y15_12 : MethodName := { cls := "PagedValuesModel", name := "isDigit", desc := "(I)Z" }
theorem k1351 : (Jvm.Cond.code ({ cls := "PagedValuesModel", name := "isDigit", desc := "(I)Z" } : Jvm.MethodName) prog_15_method_12_code (1 : Nat) (Option.some Jvm.ClassFile.FieldType.boolean)) ∈ TB := tk_6 151 rfl rfl
theorem k1349 : (Jvm.Cond.methodLink "PagedValuesModel" (141 : Nat) ({ cls := "PagedValuesModel", name := "isDigit", desc := "(I)Z" } : Jvm.MethodName)) ∈ TB := tk_6 149 rfl rfl
theorem k1350 : (Jvm.Cond.static ({ cls := "PagedValuesModel", name := "isDigit", desc := "(I)Z" } : Jvm.MethodName)) ∈ TB := tk_6 150 rfl rfl
theorem d15_18_27 : decode prog_15_method_18_code 27 = .ok (.ifCond .eq 9, 3) := by decide +kernel
theorem d15_18_36 : decode prog_15_method_18_code 36 = .ok (.aload_n 0, 1) := by decide +kernel
theorem d15_18_37 : decode prog_15_method_18_code 37 = .ok (.invokevirtual 129, 3) := by decide +kernel
theorem d15_6_0 : decode prog_15_method_6_code 0 = .ok (.aload_n 0, 1) := by decide +kernel
theorem d15_6_1 : decode prog_15_method_6_code 1 = .ok (.lconst 0, 1) := by decide +kernel
theorem d15_6_2 : decode prog_15_method_6_code 2 = .ok (.putfield 91, 3) := by decide +kernel
theorem k1162 : (Jvm.Cond.fieldLink "PagedValuesModel" (91 : Nat) "PagedValuesModel" "strA" "J") ∈ TB := tk_5 202 rfl rfl
theorem d15_6_5 : decode prog_15_method_6_code 5 = .ok (.aload_n 0, 1) := by decide +kernel
theorem d15_6_6 : decode prog_15_method_6_code 6 = .ok (.lconst 0, 1) := by decide +kernel
theorem d15_6_7 : decode prog_15_method_6_code 7 = .ok (.putfield 99, 3) := by decide +kernel
theorem k1163 : (Jvm.Cond.fieldLink "PagedValuesModel" (99 : Nat) "PagedValuesModel" "strB" "J") ∈ TB := tk_5 203 rfl rfl
theorem d15_6_10 : decode prog_15_method_6_code 10 = .ok (.return_, 1) := by decide +kernel
def y15_6 : MethodName := { cls := "PagedValuesModel", name := "clear", desc := "()V" }
theorem k1332 : (Jvm.Cond.code ({ cls := "PagedValuesModel", name := "clear", desc := "()V" } : Jvm.MethodName) prog_15_method_6_code (1 : Nat) (Option.none : Option Jvm.ClassFile.FieldType)) ∈ TB := tk_6 132 rfl rfl
theorem k1329 : (Jvm.Cond.methodLink "PagedValuesModel" (129 : Nat) ({ cls := "PagedValuesModel", name := "clear", desc := "()V" } : Jvm.MethodName)) ∈ TB := tk_6 129 rfl rfl
theorem k1331 : (Jvm.Cond.instanceMethod ({ cls := "PagedValuesModel", name := "clear", desc := "()V" } : Jvm.MethodName)) ∈ TB := tk_6 131 rfl rfl
theorem ks43 : Cond.selects y15_6.cls y15_6 y15_6 ∈ TB := List.mem_filter.mpr ⟨List.mem_append_left _ (List.mem_of_getElem? (i := 43) (by decide +kernel)), rfl⟩
theorem d15_18_40 : decode prog_15_method_18_code 40 = .ok (.aload_n 0, 1) := by decide +kernel
theorem d15_18_41 : decode prog_15_method_18_code 41 = .ok (.iload_n 1, 1) := by decide +kernel
theorem d15_18_42 : decode prog_15_method_18_code 42 = .ok (.invokevirtual 151, 3) := by decide +kernel
theorem d15_19_0 : decode prog_15_method_19_code 0 = .ok (.iload_n 1, 1) := by decide +kernel
theorem d15_19_1 : decode prog_15_method_19_code 1 = .ok (.bipush 110, 2) := by decide +kernel
theorem d15_19_3 : decode prog_15_method_19_code 3 = .ok (.if_icmp .ne 17, 3) := by decide +kernel
theorem d15_19_20 : decode prog_15_method_19_code 20 = .ok (.iload_n 1, 1) := by decide +kernel
theorem d15_19_21 : decode prog_15_method_19_code 21 = .ok (.bipush 116, 2) := by decide +kernel
theorem d15_19_23 : decode prog_15_method_19_code 23 = .ok (.if_icmp .ne 17, 3) := by decide +kernel
theorem d15_19_40 : decode prog_15_method_19_code 40 = .ok (.aload_n 0, 1) := by decide +kernel
theorem d15_19_41 : decode prog_15_method_19_code 41 = .ok (.bipush 102, 2) := by decide +kernel
theorem d15_19_43 : decode prog_15_method_19_code 43 = .ok (.invokevirtual 132, 3) := by decide +kernel
theorem d15_9_0 : decode prog_15_method_9_code 0 = .ok (.aload_n 0, 1) := by decide +kernel
theorem d15_9_1 : decode prog_15_method_9_code 1 = .ok (.getfield 111, 3) := by decide +kernel
theorem d15_9_4 : decode prog_15_method_9_code 4 = .ok (.ifCond .ge 24, 3) := by decide +kernel
theorem d15_9_7 : decode prog_15_method_9_code 7 = .ok (.aload_n 0, 1) := by decide +kernel
theorem d15_9_8 : decode prog_15_method_9_code 8 = .ok (.invokevirtual 114, 3) := by decide +kernel
theorem d15_9_11 : decode prog_15_method_9_code 11 = .ok (.iload_n 1, 1) := by decide +kernel
theorem d15_9_12 : decode prog_15_method_9_code 12 = .ok (.if_icmp .ne 16, 3) := by decide +kernel
theorem d15_9_28 : decode prog_15_method_9_code 28 = .ok (.aload_n 0, 1) := by decide +kernel
theorem d15_9_29 : decode prog_15_method_9_code 29 = .ok (.invokevirtual 118, 3) := by decide +kernel
theorem d15_8_0 : decode prog_15_method_8_code 0 = .ok (.aload_n 0, 1) := by decide +kernel
theorem d15_8_1 : decode prog_15_method_8_code 1 = .ok (.aload_n 0, 1) := by decide +kernel
theorem d15_8_2 : decode prog_15_method_8_code 2 = .ok (.getfield 111, 3) := by decide +kernel
theorem d15_8_5 : decode prog_15_method_8_code 5 = .ok (.ifCond .ge 10, 3) := by decide +kernel
theorem d15_8_8 : decode prog_15_method_8_code 8 = .ok (.aload_n 0, 1) := by decide +kernel
theorem d15_8_9 : decode prog_15_method_8_code 9 = .ok (.getfield 104, 3) := by decide +kernel
theorem d15_8_12 : decode prog_15_method_8_code 12 = .ok (.goto 7, 3) := by decide +kernel
theorem d15_8_19 : decode prog_15_method_8_code 19 = .ok (.putfield 111, 3) := by decide +kernel
theorem d15_8_22 : decode prog_15_method_8_code 22 = .ok (.return_, 1) := by decide +kernel
def y15_8 : MethodName := { cls := "PagedValuesModel", name := "fault", desc := "()V" }
theorem k1320 : (Jvm.Cond.code ({ cls := "PagedValuesModel", name := "fault", desc := "()V" } : Jvm.MethodName) prog_15_method_8_code (1 : Nat) (Option.none : Option Jvm.ClassFile.FieldType)) ∈ TB := tk_6 120 rfl rfl
theorem k1317 : (Jvm.Cond.methodLink "PagedValuesModel" (118 : Nat) ({ cls := "PagedValuesModel", name := "fault", desc := "()V" } : Jvm.MethodName)) ∈ TB := tk_6 117 rfl rfl
theorem k1319 : (Jvm.Cond.instanceMethod ({ cls := "PagedValuesModel", name := "fault", desc := "()V" } : Jvm.MethodName)) ∈ TB := tk_6 119 rfl rfl
theorem ks40 : Cond.selects y15_8.cls y15_8 y15_8 ∈ TB := List.mem_filter.mpr ⟨List.mem_append_left _ (List.mem_of_getElem? (i := 40) (by decide +kernel)), rfl⟩
theorem d15_9_32 : decode prog_15_method_9_code 32 = .ok (.return_, 1) := by decide +kernel
def y15_9 : MethodName := { cls := "PagedValuesModel", name := "must", desc := "(I)V" }
theorem k1336 : (Jvm.Cond.code ({ cls := "PagedValuesModel", name := "must", desc := "(I)V" } : Jvm.MethodName) prog_15_method_9_code (2 : Nat) (Option.none : Option Jvm.ClassFile.FieldType)) ∈ TB := tk_6 136 rfl rfl
theorem k1333 : (Jvm.Cond.methodLink "PagedValuesModel" (132 : Nat) ({ cls := "PagedValuesModel", name := "must", desc := "(I)V" } : Jvm.MethodName)) ∈ TB := tk_6 133 rfl rfl
theorem k1335 : (Jvm.Cond.instanceMethod ({ cls := "PagedValuesModel", name := "must", desc := "(I)V" } : Jvm.MethodName)) ∈ TB := tk_6 135 rfl rfl
theorem ks44 : Cond.selects y15_9.cls y15_9 y15_9 ∈ TB := List.mem_filter.mpr ⟨List.mem_append_left _ (List.mem_of_getElem? (i := 44) (by decide +kernel)), rfl⟩
theorem d15_19_46 : decode prog_15_method_19_code 46 = .ok (.aload_n 0, 1) := by decide +kernel
theorem d15_19_47 : decode prog_15_method_19_code 47 = .ok (.bipush 97, 2) := by decide +kernel
theorem d15_19_49 : decode prog_15_method_19_code 49 = .ok (.bipush 108, 2) := by decide +kernel
theorem d15_19_51 : decode prog_15_method_19_code 51 = .ok (.bipush 115, 2) := by decide +kernel
theorem d15_19_53 : decode prog_15_method_19_code 53 = .ok (.bipush 101, 2) := by decide +kernel
theorem d15_19_55 : decode prog_15_method_19_code 55 = .ok (.invokevirtual 155, 3) := by decide +kernel
theorem d15_17_0 : decode prog_15_method_17_code 0 = .ok (.aload_n 0, 1) := by decide +kernel
theorem d15_17_1 : decode prog_15_method_17_code 1 = .ok (.iload_n 1, 1) := by decide +kernel
theorem d15_17_2 : decode prog_15_method_17_code 2 = .ok (.invokevirtual 132, 3) := by decide +kernel
theorem d15_8_15 : decode prog_15_method_8_code 15 = .ok (.aload_n 0, 1) := by decide +kernel
theorem d15_8_16 : decode prog_15_method_8_code 16 = .ok (.getfield 111, 3) := by decide +kernel
theorem d15_17_5 : decode prog_15_method_17_code 5 = .ok (.aload_n 0, 1) := by decide +kernel
theorem d15_17_6 : decode prog_15_method_17_code 6 = .ok (.iload_n 2, 1) := by decide +kernel
theorem d15_17_7 : decode prog_15_method_17_code 7 = .ok (.invokevirtual 132, 3) := by decide +kernel
theorem d15_17_10 : decode prog_15_method_17_code 10 = .ok (.aload_n 0, 1) := by decide +kernel
theorem d15_17_11 : decode prog_15_method_17_code 11 = .ok (.iload_n 3, 1) := by decide +kernel
theorem d15_17_12 : decode prog_15_method_17_code 12 = .ok (.invokevirtual 132, 3) := by decide +kernel
theorem d15_17_15 : decode prog_15_method_17_code 15 = .ok (.aload_n 0, 1) := by decide +kernel
theorem d15_17_16 : decode prog_15_method_17_code 16 = .ok (.iload 4, 2) := by decide +kernel
theorem d15_17_18 : decode prog_15_method_17_code 18 = .ok (.invokevirtual 132, 3) := by decide +kernel
theorem d15_17_21 : decode prog_15_method_17_code 21 = .ok (.return_, 1) := by decide +kernel
def y15_17 : MethodName := { cls := "PagedValuesModel", name := "four", desc := "(IIII)V" }
theorem k1368 : (Jvm.Cond.code ({ cls := "PagedValuesModel", name := "four", desc := "(IIII)V" } : Jvm.MethodName) prog_15_method_17_code (5 : Nat) (Option.none : Option Jvm.ClassFile.FieldType)) ∈ TB := tk_6 168 rfl rfl
theorem k1365 : (Jvm.Cond.methodLink "PagedValuesModel" (155 : Nat) ({ cls := "PagedValuesModel", name := "four", desc := "(IIII)V" } : Jvm.MethodName)) ∈ TB := tk_6 165 rfl rfl
theorem k1367 : (Jvm.Cond.instanceMethod ({ cls := "PagedValuesModel", name := "four", desc := "(IIII)V" } : Jvm.MethodName)) ∈ TB := tk_6 167 rfl rfl
theorem ks50 : Cond.selects y15_17.cls y15_17 y15_17 ∈ TB := List.mem_filter.mpr ⟨List.mem_append_left _ (List.mem_of_getElem? (i := 50) (by decide +kernel)), rfl⟩
theorem d15_19_58 : decode prog_15_method_19_code 58 = .ok (.iconst 2, 1) := by decide +kernel
theorem d15_19_59 : decode prog_15_method_19_code 59 = .ok (.ireturn, 1) := by decide +kernel
def y15_19 : MethodName := { cls := "PagedValuesModel", name := "constant", desc := "(I)I" }
theorem k1364 : (Jvm.Cond.code ({ cls := "PagedValuesModel", name := "constant", desc := "(I)I" } : Jvm.MethodName) prog_15_method_19_code (2 : Nat) (Option.some Jvm.ClassFile.FieldType.int)) ∈ TB := tk_6 164 rfl rfl
theorem k1361 : (Jvm.Cond.methodLink "PagedValuesModel" (151 : Nat) ({ cls := "PagedValuesModel", name := "constant", desc := "(I)I" } : Jvm.MethodName)) ∈ TB := tk_6 161 rfl rfl
theorem k1363 : (Jvm.Cond.instanceMethod ({ cls := "PagedValuesModel", name := "constant", desc := "(I)I" } : Jvm.MethodName)) ∈ TB := tk_6 163 rfl rfl
theorem ks49 : Cond.selects y15_19.cls y15_19 y15_19 ∈ TB := List.mem_filter.mpr ⟨List.mem_append_left _ (List.mem_of_getElem? (i := 49) (by decide +kernel)), rfl⟩
theorem d15_18_45 : decode prog_15_method_18_code 45 = .ok (.ireturn, 1) := by decide +kernel
def y15_18 : MethodName := { cls := "PagedValuesModel", name := "plain", desc := "()I" }
theorem k1324 : (Jvm.Cond.code ({ cls := "PagedValuesModel", name := "plain", desc := "()I" } : Jvm.MethodName) prog_15_method_18_code (2 : Nat) (Option.some Jvm.ClassFile.FieldType.int)) ∈ TB := tk_6 124 rfl rfl
theorem k1321 : (Jvm.Cond.methodLink "PagedValuesModel" (179 : Nat) ({ cls := "PagedValuesModel", name := "plain", desc := "()I" } : Jvm.MethodName)) ∈ TB := tk_6 121 rfl rfl
theorem k1323 : (Jvm.Cond.instanceMethod ({ cls := "PagedValuesModel", name := "plain", desc := "()I" } : Jvm.MethodName)) ∈ TB := tk_6 123 rfl rfl
theorem ks41 : Cond.selects y15_18.cls y15_18 y15_18 ∈ TB := List.mem_filter.mpr ⟨List.mem_append_left _ (List.mem_of_getElem? (i := 41) (by decide +kernel)), rfl⟩
theorem d15_25_39 : decode prog_15_method_25_code 39 = .ok (.istore_n 2, 1) := by decide +kernel
theorem d15_25_40 : decode prog_15_method_25_code 40 = .ok (.aload_n 0, 1) := by decide +kernel
theorem d15_25_41 : decode prog_15_method_25_code 41 = .ok (.iload_n 2, 1) := by decide +kernel
theorem d15_25_42 : decode prog_15_method_25_code 42 = .ok (.aload_n 0, 1) := by decide +kernel
theorem d15_25_43 : decode prog_15_method_25_code 43 = .ok (.getfield 91, 3) := by decide +kernel
theorem d15_25_46 : decode prog_15_method_25_code 46 = .ok (.aload_n 0, 1) := by decide +kernel
theorem d15_25_47 : decode prog_15_method_25_code 47 = .ok (.getfield 99, 3) := by decide +kernel
theorem d15_25_50 : decode prog_15_method_25_code 50 = .ok (.invokevirtual 182, 3) := by decide +kernel
theorem d15_21_0 : decode prog_15_method_21_code 0 = .ok (.bipush 80, 2) := by decide +kernel
theorem d15_21_2 : decode prog_15_method_21_code 2 = .ok (.invokestatic 159, 3) := by decide +kernel
theorem d15_21_5 : decode prog_15_method_21_code 5 = .ok (.aload_n 0, 1) := by decide +kernel
theorem d15_21_6 : decode prog_15_method_21_code 6 = .ok (.getfield 162, 3) := by decide +kernel
theorem d15_21_9 : decode prog_15_method_21_code 9 = .ok (.iadd, 1) := by decide +kernel
theorem d15_21_10 : decode prog_15_method_21_code 10 = .ok (.istore 6, 2) := by decide +kernel
theorem d15_21_12 : decode prog_15_method_21_code 12 = .ok (.aload_n 0, 1) := by decide +kernel
theorem d15_21_13 : decode prog_15_method_21_code 13 = .ok (.getfield 13, 3) := by decide +kernel
theorem d15_21_16 : decode prog_15_method_21_code 16 = .ok (.iload 6, 2) := by decide +kernel
theorem d15_21_18 : decode prog_15_method_21_code 18 = .ok (.iload_n 1, 1) := by decide +kernel
theorem d15_21_19 : decode prog_15_method_21_code 19 = .ok (.i2b, 1) := by decide +kernel
theorem d15_21_20 : decode prog_15_method_21_code 20 = .ok (.bastore, 1) := by decide +kernel
theorem d15_21_21 : decode prog_15_method_21_code 21 = .ok (.aload_n 0, 1) := by decide +kernel
theorem d15_21_22 : decode prog_15_method_21_code 22 = .ok (.getfield 17, 3) := by decide +kernel
theorem d15_21_25 : decode prog_15_method_21_code 25 = .ok (.iload 6, 2) := by decide +kernel
theorem d15_21_27 : decode prog_15_method_21_code 27 = .ok (.iconst 1, 1) := by decide +kernel
theorem d15_21_28 : decode prog_15_method_21_code 28 = .ok (.bastore, 1) := by decide +kernel
theorem d15_21_29 : decode prog_15_method_21_code 29 = .ok (.aload_n 0, 1) := by decide +kernel
theorem d15_21_30 : decode prog_15_method_21_code 30 = .ok (.getfield 20, 3) := by decide +kernel
theorem d15_21_33 : decode prog_15_method_21_code 33 = .ok (.iload 6, 2) := by decide +kernel
theorem d15_21_35 : decode prog_15_method_21_code 35 = .ok (.lload_n 2, 1) := by decide +kernel
theorem d15_21_36 : decode prog_15_method_21_code 36 = .ok (.lastore, 1) := by decide +kernel
theorem d15_21_37 : decode prog_15_method_21_code 37 = .ok (.aload_n 0, 1) := by decide +kernel
theorem d15_21_38 : decode prog_15_method_21_code 38 = .ok (.getfield 24, 3) := by decide +kernel
theorem d15_21_41 : decode prog_15_method_21_code 41 = .ok (.iload 6, 2) := by decide +kernel
theorem d15_21_43 : decode prog_15_method_21_code 43 = .ok (.lload 4, 2) := by decide +kernel
theorem d15_21_45 : decode prog_15_method_21_code 45 = .ok (.lastore, 1) := by decide +kernel
theorem d15_21_46 : decode prog_15_method_21_code 46 = .ok (.aload_n 0, 1) := by decide +kernel
theorem d15_21_47 : decode prog_15_method_21_code 47 = .ok (.dup, 1) := by decide +kernel
theorem d15_21_48 : decode prog_15_method_21_code 48 = .ok (.getfield 162, 3) := by decide +kernel
theorem d15_21_51 : decode prog_15_method_21_code 51 = .ok (.iconst 1, 1) := by decide +kernel
theorem d15_21_52 : decode prog_15_method_21_code 52 = .ok (.iadd, 1) := by decide +kernel
theorem d15_21_53 : decode prog_15_method_21_code 53 = .ok (.putfield 162, 3) := by decide +kernel
theorem d15_21_56 : decode prog_15_method_21_code 56 = .ok (.return_, 1) := by decide +kernel
def y15_21 : MethodName := { cls := "PagedValuesModel", name := "node", desc := "(IJJ)V" }
theorem k1372 : (Jvm.Cond.code ({ cls := "PagedValuesModel", name := "node", desc := "(IJJ)V" } : Jvm.MethodName) prog_15_method_21_code (7 : Nat) (Option.none : Option Jvm.ClassFile.FieldType)) ∈ TB := tk_6 172 rfl rfl
theorem k1369 : (Jvm.Cond.methodLink "PagedValuesModel" (182 : Nat) ({ cls := "PagedValuesModel", name := "node", desc := "(IJJ)V" } : Jvm.MethodName)) ∈ TB := tk_6 169 rfl rfl
theorem k1371 : (Jvm.Cond.instanceMethod ({ cls := "PagedValuesModel", name := "node", desc := "(IJJ)V" } : Jvm.MethodName)) ∈ TB := tk_6 171 rfl rfl
theorem ks51 : Cond.selects y15_21.cls y15_21 y15_21 ∈ TB := List.mem_filter.mpr ⟨List.mem_append_left _ (List.mem_of_getElem? (i := 51) (by decide +kernel)), rfl⟩
theorem d15_25_53 : decode prog_15_method_25_code 53 = .ok (.iconst 0, 1) := by decide +kernel
theorem d15_25_54 : decode prog_15_method_25_code 54 = .ok (.ireturn, 1) := by decide +kernel
def y15_25 : MethodName := { cls := "PagedValuesModel", name := "begins", desc := "()Z" }
theorem k1316 : (Jvm.Cond.code ({ cls := "PagedValuesModel", name := "begins", desc := "()Z" } : Jvm.MethodName) prog_15_method_25_code (3 : Nat) (Option.some Jvm.ClassFile.FieldType.boolean)) ∈ TB := tk_6 116 rfl rfl
theorem k1313 : (Jvm.Cond.methodLink "PagedValuesModel" (186 : Nat) ({ cls := "PagedValuesModel", name := "begins", desc := "()Z" } : Jvm.MethodName)) ∈ TB := tk_6 113 rfl rfl
theorem k1315 : (Jvm.Cond.instanceMethod ({ cls := "PagedValuesModel", name := "begins", desc := "()Z" } : Jvm.MethodName)) ∈ TB := tk_6 115 rfl rfl
theorem ks39 : Cond.selects y15_25.cls y15_25 y15_25 ∈ TB := List.mem_filter.mpr ⟨List.mem_append_left _ (List.mem_of_getElem? (i := 39) (by decide +kernel)), rfl⟩
theorem d15_28_34 : decode prog_15_method_28_code 34 = .ok (.istore_n 1, 1) := by decide +kernel
theorem d15_28_35 : decode prog_15_method_28_code 35 = .ok (.iconst 0, 1) := by decide +kernel
theorem d15_28_36 : decode prog_15_method_28_code 36 = .ok (.istore_n 2, 1) := by decide +kernel
theorem d15_28_37 : decode prog_15_method_28_code 37 = .ok (.iload_n 2, 1) := by decide +kernel
theorem d15_28_38 : decode prog_15_method_28_code 38 = .ok (.sipush 200, 3) := by decide +kernel
theorem d15_28_41 : decode prog_15_method_28_code 41 = .ok (.if_icmp .ge 130, 3) := by decide +kernel
theorem d15_28_44 : decode prog_15_method_28_code 44 = .ok (.aload_n 0, 1) := by decide +kernel
theorem d15_28_45 : decode prog_15_method_28_code 45 = .ok (.getfield 111, 3) := by decide +kernel
theorem d15_28_48 : decode prog_15_method_28_code 48 = .ok (.ifCond .ge 123, 3) := by decide +kernel
theorem d15_28_171 : decode prog_15_method_28_code 171 = .ok (.aload_n 0, 1) := by decide +kernel
theorem d15_28_172 : decode prog_15_method_28_code 172 = .ok (.invokevirtual 176, 3) := by decide +kernel
theorem d15_28_175 : decode prog_15_method_28_code 175 = .ok (.aload_n 0, 1) := by decide +kernel
theorem d15_28_176 : decode prog_15_method_28_code 176 = .ok (.getfield 111, 3) := by decide +kernel
theorem d15_28_179 : decode prog_15_method_28_code 179 = .ok (.ifCond .ge 18, 3) := by decide +kernel
theorem d15_28_197 : decode prog_15_method_28_code 197 = .ok (.return_, 1) := by decide +kernel
def y15_28 : MethodName := { cls := "PagedValuesModel", name := "readValue", desc := "()V" }
theorem k1293 : (Jvm.Cond.code ({ cls := "PagedValuesModel", name := "readValue", desc := "()V" } : Jvm.MethodName) prog_15_method_28_code (4 : Nat) (Option.none : Option Jvm.ClassFile.FieldType)) ∈ TB := tk_6 93 rfl rfl
theorem k1290 : (Jvm.Cond.methodLink "PagedValuesModel" (329 : Nat) ({ cls := "PagedValuesModel", name := "readValue", desc := "()V" } : Jvm.MethodName)) ∈ TB := tk_6 90 rfl rfl
theorem k1292 : (Jvm.Cond.instanceMethod ({ cls := "PagedValuesModel", name := "readValue", desc := "()V" } : Jvm.MethodName)) ∈ TB := tk_6 92 rfl rfl
theorem ks34 : Cond.selects y15_28.cls y15_28 y15_28 ∈ TB := List.mem_filter.mpr ⟨List.mem_append_left _ (List.mem_of_getElem? (i := 34) (by decide +kernel)), rfl⟩
theorem d15_62_35 : decode prog_15_method_62_code 35 = .ok (.aload_n 0, 1) := by decide +kernel
theorem d15_62_36 : decode prog_15_method_62_code 36 = .ok (.iconst 0, 1) := by decide +kernel
theorem d15_62_37 : decode prog_15_method_62_code 37 = .ok (.putfield 108, 3) := by decide +kernel
theorem d15_62_40 : decode prog_15_method_62_code 40 = .ok (.aload_n 0, 1) := by decide +kernel
theorem d15_62_41 : decode prog_15_method_62_code 41 = .ok (.getfield 111, 3) := by decide +kernel
theorem d15_62_44 : decode prog_15_method_62_code 44 = .ok (.ifCond .lt 11, 3) := by decide +kernel
theorem d15_62_47 : decode prog_15_method_62_code 47 = .ok (.bipush (-100), 2) := by decide +kernel
theorem d15_62_49 : decode prog_15_method_62_code 49 = .ok (.aload_n 0, 1) := by decide +kernel
theorem d15_62_50 : decode prog_15_method_62_code 50 = .ok (.getfield 111, 3) := by decide +kernel
theorem d15_62_53 : decode prog_15_method_62_code 53 = .ok (.isub, 1) := by decide +kernel
theorem d15_62_54 : decode prog_15_method_62_code 54 = .ok (.ireturn, 1) := by decide +kernel
theorem d15_62_17 : decode prog_15_method_62_code 17 = .ok (.aload_n 0, 1) := by decide +kernel
theorem d15_62_18 : decode prog_15_method_62_code 18 = .ok (.getfield 308, 3) := by decide +kernel
theorem d15_62_21 : decode prog_15_method_62_code 21 = .ok (.ifCond .eq 8, 3) := by decide +kernel
theorem d15_62_29 : decode prog_15_method_62_code 29 = .ok (.iconst (-1), 1) := by decide +kernel
theorem d15_62_30 : decode prog_15_method_62_code 30 = .ok (.ireturn, 1) := by decide +kernel
def y15_62 : MethodName := { cls := "PagedValuesModel", name := "put", desc := "(I)I" }
theorem d15_63_0 : decode prog_15_method_63_code 0 = .ok (.aload_n 0, 1) := by decide +kernel
theorem d15_63_1 : decode prog_15_method_63_code 1 = .ok (.aload_n 0, 1) := by decide +kernel
theorem d15_63_2 : decode prog_15_method_63_code 2 = .ok (.getfield 77, 3) := by decide +kernel
theorem d15_63_5 : decode prog_15_method_63_code 5 = .ok (.aload_n 0, 1) := by decide +kernel
theorem d15_63_6 : decode prog_15_method_63_code 6 = .ok (.invokevirtual 312, 3) := by decide +kernel
theorem d15_52_0 : decode prog_15_method_52_code 0 = .ok (.aload_n 0, 1) := by decide +kernel
theorem d15_52_1 : decode prog_15_method_52_code 1 = .ok (.getfield 80, 3) := by decide +kernel
theorem d15_52_4 : decode prog_15_method_52_code 4 = .ok (.iconst 1, 1) := by decide +kernel
theorem d15_52_5 : decode prog_15_method_52_code 5 = .ok (.iaload, 1) := by decide +kernel
theorem d15_52_6 : decode prog_15_method_52_code 6 = .ok (.aload_n 0, 1) := by decide +kernel
theorem d15_52_7 : decode prog_15_method_52_code 7 = .ok (.getfield 80, 3) := by decide +kernel
theorem d15_52_10 : decode prog_15_method_52_code 10 = .ok (.iconst 0, 1) := by decide +kernel
theorem d15_52_11 : decode prog_15_method_52_code 11 = .ok (.iaload, 1) := by decide +kernel
theorem d15_52_12 : decode prog_15_method_52_code 12 = .ok (.if_icmp .le 7, 3) := by decide +kernel
theorem d15_52_19 : decode prog_15_method_52_code 19 = .ok (.iconst 0, 1) := by decide +kernel
theorem d15_52_20 : decode prog_15_method_52_code 20 = .ok (.ireturn, 1) := by decide +kernel
def y15_52 : MethodName := { cls := "PagedValuesModel", name := "current", desc := "()I" }
theorem k1396 : (Jvm.Cond.code ({ cls := "PagedValuesModel", name := "current", desc := "()I" } : Jvm.MethodName) prog_15_method_52_code (1 : Nat) (Option.some Jvm.ClassFile.FieldType.int)) ∈ TB := tk_6 196 rfl rfl
theorem k1393 : (Jvm.Cond.methodLink "PagedValuesModel" (312 : Nat) ({ cls := "PagedValuesModel", name := "current", desc := "()I" } : Jvm.MethodName)) ∈ TB := tk_6 193 rfl rfl
theorem k1395 : (Jvm.Cond.instanceMethod ({ cls := "PagedValuesModel", name := "current", desc := "()I" } : Jvm.MethodName)) ∈ TB := tk_6 195 rfl rfl
theorem ks57 : Cond.selects y15_52.cls y15_52 y15_52 ∈ TB := List.mem_filter.mpr ⟨List.mem_append_left _ (List.mem_of_getElem? (i := 57) (by decide +kernel)), rfl⟩
theorem d15_63_9 : decode prog_15_method_63_code 9 = .ok (.iaload, 1) := by decide +kernel
theorem d15_63_10 : decode prog_15_method_63_code 10 = .ok (.iload_n 1, 1) := by decide +kernel
theorem d15_63_11 : decode prog_15_method_63_code 11 = .ok (.invokevirtual 299, 3) := by decide +kernel
theorem d15_56_0 : decode prog_15_method_56_code 0 = .ok (.iload_n 1, 1) := by decide +kernel
theorem d15_56_1 : decode prog_15_method_56_code 1 = .ok (.ifCond .lt 13, 3) := by decide +kernel
theorem d15_56_14 : decode prog_15_method_56_code 14 = .ok (.iconst (-1), 1) := by decide +kernel
theorem d15_56_15 : decode prog_15_method_56_code 15 = .ok (.goto 15, 3) := by decide +kernel
theorem d15_56_30 : decode prog_15_method_56_code 30 = .ok (.istore_n 3, 1) := by decide +kernel
theorem d15_56_31 : decode prog_15_method_56_code 31 = .ok (.iload_n 3, 1) := by decide +kernel
theorem d15_56_32 : decode prog_15_method_56_code 32 = .ok (.ifCond .lt 28, 3) := by decide +kernel
theorem d15_56_60 : decode prog_15_method_56_code 60 = .ok (.iconst (-1), 1) := by decide +kernel
theorem d15_56_61 : decode prog_15_method_56_code 61 = .ok (.ireturn, 1) := by decide +kernel
def y15_56 : MethodName := { cls := "PagedValuesModel", name := "rowOf", desc := "(II)I" }
theorem k1400 : (Jvm.Cond.code ({ cls := "PagedValuesModel", name := "rowOf", desc := "(II)I" } : Jvm.MethodName) prog_15_method_56_code (4 : Nat) (Option.some Jvm.ClassFile.FieldType.int)) ∈ TB := tk_6 200 rfl rfl
theorem k1397 : (Jvm.Cond.methodLink "PagedValuesModel" (299 : Nat) ({ cls := "PagedValuesModel", name := "rowOf", desc := "(II)I" } : Jvm.MethodName)) ∈ TB := tk_6 197 rfl rfl
theorem k1399 : (Jvm.Cond.instanceMethod ({ cls := "PagedValuesModel", name := "rowOf", desc := "(II)I" } : Jvm.MethodName)) ∈ TB := tk_6 199 rfl rfl
theorem ks58 : Cond.selects y15_56.cls y15_56 y15_56 ∈ TB := List.mem_filter.mpr ⟨List.mem_append_left _ (List.mem_of_getElem? (i := 58) (by decide +kernel)), rfl⟩
theorem d15_63_14 : decode prog_15_method_63_code 14 = .ok (.istore_n 2, 1) := by decide +kernel
theorem d15_63_15 : decode prog_15_method_63_code 15 = .ok (.aload_n 0, 1) := by decide +kernel
theorem d15_63_16 : decode prog_15_method_63_code 16 = .ok (.getfield 308, 3) := by decide +kernel
theorem d15_63_19 : decode prog_15_method_63_code 19 = .ok (.ifCond .ne 7, 3) := by decide +kernel
theorem d15_63_22 : decode prog_15_method_63_code 22 = .ok (.iload_n 2, 1) := by decide +kernel
theorem d15_63_23 : decode prog_15_method_63_code 23 = .ok (.ifCond .ge 17, 3) := by decide +kernel
theorem d15_63_26 : decode prog_15_method_63_code 26 = .ok (.aload_n 0, 1) := by decide +kernel
theorem d15_63_27 : decode prog_15_method_63_code 27 = .ok (.getfield 308, 3) := by decide +kernel
theorem d15_63_30 : decode prog_15_method_63_code 30 = .ok (.ifCond .eq 8, 3) := by decide +kernel
theorem d15_63_38 : decode prog_15_method_63_code 38 = .ok (.iconst (-1), 1) := by decide +kernel
theorem d15_63_39 : decode prog_15_method_63_code 39 = .ok (.ireturn, 1) := by decide +kernel
def y15_63 : MethodName := { cls := "PagedValuesModel", name := "patch", desc := "(I)I" }
theorem d15_64_0 : decode prog_15_method_64_code 0 = .ok (.aload_n 0, 1) := by decide +kernel
theorem d15_64_1 : decode prog_15_method_64_code 1 = .ok (.aload_n 0, 1) := by decide +kernel
theorem d15_64_2 : decode prog_15_method_64_code 2 = .ok (.getfield 77, 3) := by decide +kernel
theorem d15_64_5 : decode prog_15_method_64_code 5 = .ok (.aload_n 0, 1) := by decide +kernel
theorem d15_64_6 : decode prog_15_method_64_code 6 = .ok (.invokevirtual 312, 3) := by decide +kernel
theorem d15_64_9 : decode prog_15_method_64_code 9 = .ok (.iaload, 1) := by decide +kernel
theorem d15_64_10 : decode prog_15_method_64_code 10 = .ok (.iload_n 1, 1) := by decide +kernel
theorem d15_64_11 : decode prog_15_method_64_code 11 = .ok (.invokevirtual 299, 3) := by decide +kernel
theorem d15_64_14 : decode prog_15_method_64_code 14 = .ok (.istore_n 2, 1) := by decide +kernel
theorem d15_64_15 : decode prog_15_method_64_code 15 = .ok (.aload_n 0, 1) := by decide +kernel
theorem d15_64_16 : decode prog_15_method_64_code 16 = .ok (.getfield 308, 3) := by decide +kernel
theorem d15_64_19 : decode prog_15_method_64_code 19 = .ok (.ifCond .ne 7, 3) := by decide +kernel
theorem d15_64_22 : decode prog_15_method_64_code 22 = .ok (.iload_n 2, 1) := by decide +kernel
theorem d15_64_23 : decode prog_15_method_64_code 23 = .ok (.ifCond .ge 17, 3) := by decide +kernel
theorem d15_64_26 : decode prog_15_method_64_code 26 = .ok (.aload_n 0, 1) := by decide +kernel
theorem d15_64_27 : decode prog_15_method_64_code 27 = .ok (.getfield 308, 3) := by decide +kernel
theorem d15_64_30 : decode prog_15_method_64_code 30 = .ok (.ifCond .eq 8, 3) := by decide +kernel
theorem d15_64_38 : decode prog_15_method_64_code 38 = .ok (.iconst (-1), 1) := by decide +kernel
theorem d15_64_39 : decode prog_15_method_64_code 39 = .ok (.ireturn, 1) := by decide +kernel
def y15_64 : MethodName := { cls := "PagedValuesModel", name := "remove", desc := "(I)I" }
theorem d15_79_0 : decode prog_15_method_79_code 0 = .ok (.iload_n 1, 1) := by decide +kernel
theorem d15_79_1 : decode prog_15_method_79_code 1 = .ok (.iconst 0, 1) := by decide +kernel
theorem d15_79_2 : decode prog_15_method_79_code 2 = .ok (.aload_n 0, 1) := by decide +kernel
theorem d15_79_3 : decode prog_15_method_79_code 3 = .ok (.getfield 383, 3) := by decide +kernel
theorem k1179 : (Jvm.Cond.fieldLink "PagedValuesModel" (383 : Nat) "PagedValuesModel" "results" "I") ∈ TB := tk_5 219 rfl rfl
theorem d15_79_6 : decode prog_15_method_79_code 6 = .ok (.iconst 1, 1) := by decide +kernel
theorem d15_79_7 : decode prog_15_method_79_code 7 = .ok (.isub, 1) := by decide +kernel
theorem d15_79_8 : decode prog_15_method_79_code 8 = .ok (.invokestatic 260, 3) := by decide +kernel
theorem d15_79_11 : decode prog_15_method_79_code 11 = .ok (.ifCond .eq 12, 3) := by decide +kernel
theorem d15_79_23 : decode prog_15_method_79_code 23 = .ok (.iconst (-1), 1) := by decide +kernel
theorem d15_79_24 : decode prog_15_method_79_code 24 = .ok (.ireturn, 1) := by decide +kernel
def y15_79 : MethodName := { cls := "PagedValuesModel", name := "result", desc := "(I)I" }
theorem d15_86_0 : decode prog_15_method_86_code 0 = .ok (.iload_n 1, 1) := by decide +kernel
theorem d15_86_1 : decode prog_15_method_86_code 1 = .ok (.iconst 0, 1) := by decide +kernel
theorem d15_86_2 : decode prog_15_method_86_code 2 = .ok (.aload_n 0, 1) := by decide +kernel
theorem d15_86_3 : decode prog_15_method_86_code 3 = .ok (.getfield 383, 3) := by decide +kernel
theorem d15_86_6 : decode prog_15_method_86_code 6 = .ok (.iconst 1, 1) := by decide +kernel
theorem d15_86_7 : decode prog_15_method_86_code 7 = .ok (.isub, 1) := by decide +kernel
theorem d15_86_8 : decode prog_15_method_86_code 8 = .ok (.invokestatic 260, 3) := by decide +kernel
theorem d15_86_11 : decode prog_15_method_86_code 11 = .ok (.ifCond .ne 5, 3) := by decide +kernel
theorem d15_86_14 : decode prog_15_method_86_code 14 = .ok (.iconst (-1), 1) := by decide +kernel
theorem d15_86_15 : decode prog_15_method_86_code 15 = .ok (.ireturn, 1) := by decide +kernel
def y15_86 : MethodName := { cls := "PagedValuesModel", name := "show", desc := "(I)I" }
theorem d15_88_0 : decode prog_15_method_88_code 0 = .ok (.iload_n 1, 1) := by decide +kernel
theorem d15_88_1 : decode prog_15_method_88_code 1 = .ok (.iconst 0, 1) := by decide +kernel
theorem d15_88_2 : decode prog_15_method_88_code 2 = .ok (.aload_n 0, 1) := by decide +kernel
theorem d15_88_3 : decode prog_15_method_88_code 3 = .ok (.getfield 398, 3) := by decide +kernel
theorem k1181 : (Jvm.Cond.fieldLink "PagedValuesModel" (398 : Nat) "PagedValuesModel" "outputs" "I") ∈ TB := tk_5 221 rfl rfl
theorem d15_88_6 : decode prog_15_method_88_code 6 = .ok (.iconst 1, 1) := by decide +kernel
theorem d15_88_7 : decode prog_15_method_88_code 7 = .ok (.isub, 1) := by decide +kernel
theorem d15_88_8 : decode prog_15_method_88_code 8 = .ok (.invokestatic 260, 3) := by decide +kernel
theorem d15_88_11 : decode prog_15_method_88_code 11 = .ok (.ifCond .eq 12, 3) := by decide +kernel
theorem d15_88_23 : decode prog_15_method_88_code 23 = .ok (.iconst (-1), 1) := by decide +kernel
theorem d15_88_24 : decode prog_15_method_88_code 24 = .ok (.ireturn, 1) := by decide +kernel
def y15_88 : MethodName := { cls := "PagedValuesModel", name := "output", desc := "(I)I" }
theorem d15_89_0 : decode prog_15_method_89_code 0 = .ok (.aload_n 0, 1) := by decide +kernel
theorem d15_89_1 : decode prog_15_method_89_code 1 = .ok (.getfield 308, 3) := by decide +kernel
theorem d15_89_4 : decode prog_15_method_89_code 4 = .ok (.ifCond .eq 6, 3) := by decide +kernel
theorem d15_89_10 : decode prog_15_method_89_code 10 = .ok (.iconst 0, 1) := by decide +kernel
theorem d15_89_11 : decode prog_15_method_89_code 11 = .ok (.istore_n 1, 1) := by decide +kernel
theorem d15_89_12 : decode prog_15_method_89_code 12 = .ok (.iload_n 1, 1) := by decide +kernel
theorem d15_89_13 : decode prog_15_method_89_code 13 = .ok (.iconst 3, 1) := by decide +kernel
theorem d15_89_14 : decode prog_15_method_89_code 14 = .ok (.if_icmp .ge 42, 3) := by decide +kernel
theorem d15_89_17 : decode prog_15_method_89_code 17 = .ok (.aload_n 0, 1) := by decide +kernel
theorem d15_89_18 : decode prog_15_method_89_code 18 = .ok (.getfield 83, 3) := by decide +kernel
theorem d15_89_21 : decode prog_15_method_89_code 21 = .ok (.iload_n 1, 1) := by decide +kernel
theorem d15_89_22 : decode prog_15_method_89_code 22 = .ok (.baload, 1) := by decide +kernel
theorem d15_89_23 : decode prog_15_method_89_code 23 = .ok (.ifCond .ne 27, 3) := by decide +kernel
theorem d15_89_26 : decode prog_15_method_89_code 26 = .ok (.aload_n 0, 1) := by decide +kernel
theorem d15_89_27 : decode prog_15_method_89_code 27 = .ok (.getfield 83, 3) := by decide +kernel
theorem d15_89_30 : decode prog_15_method_89_code 30 = .ok (.iload_n 1, 1) := by decide +kernel
theorem d15_89_31 : decode prog_15_method_89_code 31 = .ok (.iconst 1, 1) := by decide +kernel
theorem d15_89_32 : decode prog_15_method_89_code 32 = .ok (.bastore, 1) := by decide +kernel
theorem d15_89_33 : decode prog_15_method_89_code 33 = .ok (.aload_n 0, 1) := by decide +kernel
theorem d15_89_34 : decode prog_15_method_89_code 34 = .ok (.getfield 86, 3) := by decide +kernel
theorem d15_89_37 : decode prog_15_method_89_code 37 = .ok (.iload_n 1, 1) := by decide +kernel
theorem d15_89_38 : decode prog_15_method_89_code 38 = .ok (.aload_n 0, 1) := by decide +kernel
theorem d15_89_39 : decode prog_15_method_89_code 39 = .ok (.getfield 77, 3) := by decide +kernel
theorem d15_89_42 : decode prog_15_method_89_code 42 = .ok (.aload_n 0, 1) := by decide +kernel
theorem d15_89_43 : decode prog_15_method_89_code 43 = .ok (.invokevirtual 312, 3) := by decide +kernel
theorem d15_89_46 : decode prog_15_method_89_code 46 = .ok (.iaload, 1) := by decide +kernel
theorem d15_89_47 : decode prog_15_method_89_code 47 = .ok (.iastore, 1) := by decide +kernel
theorem d15_89_48 : decode prog_15_method_89_code 48 = .ok (.iload_n 1, 1) := by decide +kernel
theorem d15_89_49 : decode prog_15_method_89_code 49 = .ok (.ireturn, 1) := by decide +kernel
def y15_89 : MethodName := { cls := "PagedValuesModel", name := "open", desc := "()I" }
theorem d15_92_0 : decode prog_15_method_92_code 0 = .ok (.aload_n 0, 1) := by decide +kernel
theorem d15_92_1 : decode prog_15_method_92_code 1 = .ok (.getfield 308, 3) := by decide +kernel
theorem d15_92_4 : decode prog_15_method_92_code 4 = .ok (.istore_n 1, 1) := by decide +kernel
theorem d15_92_5 : decode prog_15_method_92_code 5 = .ok (.aload_n 0, 1) := by decide +kernel
theorem d15_92_6 : decode prog_15_method_92_code 6 = .ok (.iconst 0, 1) := by decide +kernel
theorem d15_92_7 : decode prog_15_method_92_code 7 = .ok (.putfield 308, 3) := by decide +kernel
theorem d15_92_10 : decode prog_15_method_92_code 10 = .ok (.iload_n 1, 1) := by decide +kernel
theorem d15_92_11 : decode prog_15_method_92_code 11 = .ok (.ireturn, 1) := by decide +kernel
def y15_92 : MethodName := { cls := "PagedValuesModel", name := "restart", desc := "()Z" }
theorem d15_91_0 : decode prog_15_method_91_code 0 = .ok (.aload_n 0, 1) := by decide +kernel
theorem d15_91_1 : decode prog_15_method_91_code 1 = .ok (.getfield 308, 3) := by decide +kernel
theorem d15_91_4 : decode prog_15_method_91_code 4 = .ok (.ifCond .ne 13, 3) := by decide +kernel
theorem d15_91_7 : decode prog_15_method_91_code 7 = .ok (.iload_n 1, 1) := by decide +kernel
theorem d15_91_8 : decode prog_15_method_91_code 8 = .ok (.iconst 1, 1) := by decide +kernel
theorem d15_91_9 : decode prog_15_method_91_code 9 = .ok (.bipush 20, 2) := by decide +kernel
theorem d15_91_11 : decode prog_15_method_91_code 11 = .ok (.invokestatic 260, 3) := by decide +kernel
theorem d15_91_14 : decode prog_15_method_91_code 14 = .ok (.ifCond .ne 5, 3) := by decide +kernel
theorem d15_91_19 : decode prog_15_method_91_code 19 = .ok (.aload_n 0, 1) := by decide +kernel
theorem d15_91_20 : decode prog_15_method_91_code 20 = .ok (.iload_n 1, 1) := by decide +kernel
theorem d15_91_21 : decode prog_15_method_91_code 21 = .ok (.putfield 305, 3) := by decide +kernel
theorem k1190 : (Jvm.Cond.fieldLink "PagedValuesModel" (305 : Nat) "PagedValuesModel" "fuse" "I") ∈ TB := tk_5 230 rfl rfl
theorem d15_91_24 : decode prog_15_method_91_code 24 = .ok (.iconst 1, 1) := by decide +kernel
theorem d15_91_25 : decode prog_15_method_91_code 25 = .ok (.ireturn, 1) := by decide +kernel
theorem d15_91_17 : decode prog_15_method_91_code 17 = .ok (.iconst 0, 1) := by decide +kernel
theorem d15_91_18 : decode prog_15_method_91_code 18 = .ok (.ireturn, 1) := by decide +kernel
def y15_91 : MethodName := { cls := "PagedValuesModel", name := "fuse", desc := "(I)Z" }
theorem d15_93_0 : decode prog_15_method_93_code 0 = .ok (.iload_n 1, 1) := by decide +kernel
theorem d15_93_1 : decode prog_15_method_93_code 1 = .ok (.iconst 0, 1) := by decide +kernel
theorem d15_93_2 : decode prog_15_method_93_code 2 = .ok (.bipush 11, 2) := by decide +kernel
theorem d15_93_4 : decode prog_15_method_93_code 4 = .ok (.invokestatic 260, 3) := by decide +kernel
theorem d15_93_7 : decode prog_15_method_93_code 7 = .ok (.ifCond .ne 7, 3) := by decide +kernel
theorem d15_93_14 : decode prog_15_method_93_code 14 = .ok (.aload_n 0, 1) := by decide +kernel
theorem d15_93_15 : decode prog_15_method_93_code 15 = .ok (.iload_n 1, 1) := by decide +kernel
theorem d15_93_16 : decode prog_15_method_93_code 16 = .ok (.invokevirtual 296, 3) := by decide +kernel
theorem d15_54_0 : decode prog_15_method_54_code 0 = .ok (.aload_n 0, 1) := by decide +kernel
theorem d15_54_1 : decode prog_15_method_54_code 1 = .ok (.aload_n 0, 1) := by decide +kernel
theorem d15_54_2 : decode prog_15_method_54_code 2 = .ok (.getfield 77, 3) := by decide +kernel
theorem d15_54_5 : decode prog_15_method_54_code 5 = .ok (.iconst 0, 1) := by decide +kernel
theorem d15_54_6 : decode prog_15_method_54_code 6 = .ok (.iaload, 1) := by decide +kernel
theorem d15_54_7 : decode prog_15_method_54_code 7 = .ok (.iload_n 1, 1) := by decide +kernel
theorem d15_54_8 : decode prog_15_method_54_code 8 = .ok (.invokevirtual 292, 3) := by decide +kernel
theorem d15_53_0 : decode prog_15_method_53_code 0 = .ok (.iload_n 1, 1) := by decide +kernel
theorem d15_53_1 : decode prog_15_method_53_code 1 = .ok (.ifCond .lt 38, 3) := by decide +kernel
theorem d15_53_39 : decode prog_15_method_53_code 39 = .ok (.iconst 0, 1) := by decide +kernel
theorem d15_53_40 : decode prog_15_method_53_code 40 = .ok (.ireturn, 1) := by decide +kernel
def y15_53 : MethodName := { cls := "PagedValuesModel", name := "reaches", desc := "(II)Z" }
theorem k1412 : (Jvm.Cond.code ({ cls := "PagedValuesModel", name := "reaches", desc := "(II)Z" } : Jvm.MethodName) prog_15_method_53_code (3 : Nat) (Option.some Jvm.ClassFile.FieldType.boolean)) ∈ TB := tk_6 212 rfl rfl
theorem k1409 : (Jvm.Cond.methodLink "PagedValuesModel" (292 : Nat) ({ cls := "PagedValuesModel", name := "reaches", desc := "(II)Z" } : Jvm.MethodName)) ∈ TB := tk_6 209 rfl rfl
theorem k1411 : (Jvm.Cond.instanceMethod ({ cls := "PagedValuesModel", name := "reaches", desc := "(II)Z" } : Jvm.MethodName)) ∈ TB := tk_6 211 rfl rfl
theorem ks61 : Cond.selects y15_53.cls y15_53 y15_53 ∈ TB := List.mem_filter.mpr ⟨List.mem_append_left _ (List.mem_of_getElem? (i := 61) (by decide +kernel)), rfl⟩
theorem d15_54_11 : decode prog_15_method_54_code 11 = .ok (.ifCond .ne 17, 3) := by decide +kernel
theorem d15_54_14 : decode prog_15_method_54_code 14 = .ok (.aload_n 0, 1) := by decide +kernel
theorem d15_54_15 : decode prog_15_method_54_code 15 = .ok (.aload_n 0, 1) := by decide +kernel
theorem d15_54_16 : decode prog_15_method_54_code 16 = .ok (.getfield 77, 3) := by decide +kernel
theorem d15_54_19 : decode prog_15_method_54_code 19 = .ok (.iconst 1, 1) := by decide +kernel
theorem d15_54_20 : decode prog_15_method_54_code 20 = .ok (.iaload, 1) := by decide +kernel
theorem d15_54_21 : decode prog_15_method_54_code 21 = .ok (.iload_n 1, 1) := by decide +kernel
theorem d15_54_22 : decode prog_15_method_54_code 22 = .ok (.invokevirtual 292, 3) := by decide +kernel
theorem d15_54_25 : decode prog_15_method_54_code 25 = .ok (.ifCond .eq 7, 3) := by decide +kernel
theorem d15_54_32 : decode prog_15_method_54_code 32 = .ok (.iconst 0, 1) := by decide +kernel
theorem d15_54_33 : decode prog_15_method_54_code 33 = .ok (.istore_n 2, 1) := by decide +kernel
theorem d15_54_34 : decode prog_15_method_54_code 34 = .ok (.iconst 0, 1) := by decide +kernel
theorem d15_54_35 : decode prog_15_method_54_code 35 = .ok (.istore_n 3, 1) := by decide +kernel
theorem d15_54_36 : decode prog_15_method_54_code 36 = .ok (.iload_n 3, 1) := by decide +kernel
theorem d15_54_37 : decode prog_15_method_54_code 37 = .ok (.iconst 3, 1) := by decide +kernel
theorem d15_54_38 : decode prog_15_method_54_code 38 = .ok (.if_icmp .ge 42, 3) := by decide +kernel
theorem d15_54_41 : decode prog_15_method_54_code 41 = .ok (.iload_n 2, 1) := by decide +kernel
theorem d15_54_42 : decode prog_15_method_54_code 42 = .ok (.ifCond .ne 26, 3) := by decide +kernel
theorem d15_54_45 : decode prog_15_method_54_code 45 = .ok (.aload_n 0, 1) := by decide +kernel
theorem d15_54_46 : decode prog_15_method_54_code 46 = .ok (.getfield 83, 3) := by decide +kernel
theorem d15_54_49 : decode prog_15_method_54_code 49 = .ok (.iload_n 3, 1) := by decide +kernel
theorem d15_54_50 : decode prog_15_method_54_code 50 = .ok (.baload, 1) := by decide +kernel
theorem d15_54_51 : decode prog_15_method_54_code 51 = .ok (.ifCond .eq 21, 3) := by decide +kernel
theorem d15_54_72 : decode prog_15_method_54_code 72 = .ok (.iconst 0, 1) := by decide +kernel
theorem d15_54_73 : decode prog_15_method_54_code 73 = .ok (.istore_n 2, 1) := by decide +kernel
theorem d15_54_74 : decode prog_15_method_54_code 74 = .ok (.iinc 3 1, 3) := by decide +kernel
theorem d15_54_77 : decode prog_15_method_54_code 77 = .ok (.goto (-41), 3) := by decide +kernel
theorem d15_54_80 : decode prog_15_method_54_code 80 = .ok (.iload_n 2, 1) := by decide +kernel
theorem d15_54_81 : decode prog_15_method_54_code 81 = .ok (.ifCond .ne 7, 3) := by decide +kernel
theorem d15_54_84 : decode prog_15_method_54_code 84 = .ok (.iconst 1, 1) := by decide +kernel
theorem d15_54_85 : decode prog_15_method_54_code 85 = .ok (.goto 4, 3) := by decide +kernel
theorem d15_54_89 : decode prog_15_method_54_code 89 = .ok (.ireturn, 1) := by decide +kernel
def y15_54 : MethodName := { cls := "PagedValuesModel", name := "isFree", desc := "(I)Z" }
theorem k1408 : (Jvm.Cond.code ({ cls := "PagedValuesModel", name := "isFree", desc := "(I)Z" } : Jvm.MethodName) prog_15_method_54_code (4 : Nat) (Option.some Jvm.ClassFile.FieldType.boolean)) ∈ TB := tk_6 208 rfl rfl
theorem k1405 : (Jvm.Cond.methodLink "PagedValuesModel" (296 : Nat) ({ cls := "PagedValuesModel", name := "isFree", desc := "(I)Z" } : Jvm.MethodName)) ∈ TB := tk_6 205 rfl rfl
theorem k1407 : (Jvm.Cond.instanceMethod ({ cls := "PagedValuesModel", name := "isFree", desc := "(I)Z" } : Jvm.MethodName)) ∈ TB := tk_6 207 rfl rfl
theorem ks60 : Cond.selects y15_54.cls y15_54 y15_54 ∈ TB := List.mem_filter.mpr ⟨List.mem_append_left _ (List.mem_of_getElem? (i := 60) (by decide +kernel)), rfl⟩
theorem d15_93_19 : decode prog_15_method_93_code 19 = .ok (.ifCond .eq 7, 3) := by decide +kernel
theorem d15_93_22 : decode prog_15_method_93_code 22 = .ok (.iconst 0, 1) := by decide +kernel
theorem d15_93_23 : decode prog_15_method_93_code 23 = .ok (.goto 9, 3) := by decide +kernel
theorem d15_93_32 : decode prog_15_method_93_code 32 = .ok (.ireturn, 1) := by decide +kernel
theorem d15_93_10 : decode prog_15_method_93_code 10 = .ok (.iconst (-1), 1) := by decide +kernel
theorem d15_93_11 : decode prog_15_method_93_code 11 = .ok (.goto 21, 3) := by decide +kernel
def y15_93 : MethodName := { cls := "PagedValuesModel", name := "page", desc := "(I)I" }
theorem d15_76_0 : decode prog_15_method_76_code 0 = .ok (.iload_n 1, 1) := by decide +kernel
theorem d15_76_1 : decode prog_15_method_76_code 1 = .ok (.iconst (-1), 1) := by decide +kernel
theorem d15_76_2 : decode prog_15_method_76_code 2 = .ok (.if_icmp .eq 21, 3) := by decide +kernel
theorem d15_76_23 : decode prog_15_method_76_code 23 = .ok (.iconst 1, 1) := by decide +kernel
theorem d15_76_24 : decode prog_15_method_76_code 24 = .ok (.goto 4, 3) := by decide +kernel
theorem d15_76_28 : decode prog_15_method_76_code 28 = .ok (.ireturn, 1) := by decide +kernel
theorem d15_76_5 : decode prog_15_method_76_code 5 = .ok (.iload_n 1, 1) := by decide +kernel
theorem d15_76_6 : decode prog_15_method_76_code 6 = .ok (.iconst 0, 1) := by decide +kernel
theorem d15_76_7 : decode prog_15_method_76_code 7 = .ok (.iconst 2, 1) := by decide +kernel
theorem d15_76_8 : decode prog_15_method_76_code 8 = .ok (.invokestatic 260, 3) := by decide +kernel
theorem d15_76_11 : decode prog_15_method_76_code 11 = .ok (.ifCond .eq 16, 3) := by decide +kernel
theorem d15_76_27 : decode prog_15_method_76_code 27 = .ok (.iconst 0, 1) := by decide +kernel
theorem d15_76_14 : decode prog_15_method_76_code 14 = .ok (.aload_n 0, 1) := by decide +kernel
theorem d15_76_15 : decode prog_15_method_76_code 15 = .ok (.getfield 83, 3) := by decide +kernel
theorem d15_76_18 : decode prog_15_method_76_code 18 = .ok (.iload_n 1, 1) := by decide +kernel
theorem d15_76_19 : decode prog_15_method_76_code 19 = .ok (.baload, 1) := by decide +kernel
theorem d15_76_20 : decode prog_15_method_76_code 20 = .ok (.ifCond .eq 7, 3) := by decide +kernel
def y15_76 : MethodName := { cls := "PagedValuesModel", name := "isReader", desc := "(I)Z" }
theorem d15_78_0 : decode prog_15_method_78_code 0 = .ok (.aload_n 0, 1) := by decide +kernel
theorem d15_78_1 : decode prog_15_method_78_code 1 = .ok (.getfield 308, 3) := by decide +kernel
theorem d15_78_4 : decode prog_15_method_78_code 4 = .ok (.ifCond .eq 6, 3) := by decide +kernel
theorem d15_78_10 : decode prog_15_method_78_code 10 = .ok (.aload_n 0, 1) := by decide +kernel
theorem d15_78_11 : decode prog_15_method_78_code 11 = .ok (.iload_n 1, 1) := by decide +kernel
theorem d15_78_12 : decode prog_15_method_78_code 12 = .ok (.invokevirtual 386, 3) := by decide +kernel
theorem k1542 : (Jvm.Cond.code ({ cls := "PagedValuesModel", name := "isReader", desc := "(I)Z" } : Jvm.MethodName) prog_15_method_76_code (2 : Nat) (Option.some Jvm.ClassFile.FieldType.boolean)) ∈ TB := tk_7 102 rfl rfl
theorem k1539 : (Jvm.Cond.methodLink "PagedValuesModel" (386 : Nat) ({ cls := "PagedValuesModel", name := "isReader", desc := "(I)Z" } : Jvm.MethodName)) ∈ TB := tk_7 99 rfl rfl
theorem k1541 : (Jvm.Cond.instanceMethod ({ cls := "PagedValuesModel", name := "isReader", desc := "(I)Z" } : Jvm.MethodName)) ∈ TB := tk_7 101 rfl rfl
theorem ks86 : Cond.selects y15_76.cls y15_76 y15_76 ∈ TB := List.mem_filter.mpr ⟨List.mem_append_left _ (List.mem_of_getElem? (i := 86) (by decide +kernel)), rfl⟩
theorem d15_78_15 : decode prog_15_method_78_code 15 = .ok (.ifCond .eq 21, 3) := by decide +kernel
theorem d15_78_36 : decode prog_15_method_78_code 36 = .ok (.iconst (-1), 1) := by decide +kernel
theorem d15_78_37 : decode prog_15_method_78_code 37 = .ok (.ireturn, 1) := by decide +kernel
theorem d15_78_18 : decode prog_15_method_78_code 18 = .ok (.iload_n 2, 1) := by decide +kernel
theorem d15_78_19 : decode prog_15_method_78_code 19 = .ok (.iconst (-1), 1) := by decide +kernel
theorem d15_78_20 : decode prog_15_method_78_code 20 = .ok (.if_icmp .eq 18, 3) := by decide +kernel
theorem d15_78_38 : decode prog_15_method_78_code 38 = .ok (.aload_n 0, 1) := by decide +kernel
theorem d15_78_39 : decode prog_15_method_78_code 39 = .ok (.iconst 0, 1) := by decide +kernel
theorem d15_78_40 : decode prog_15_method_78_code 40 = .ok (.putfield 383, 3) := by decide +kernel
theorem d15_78_43 : decode prog_15_method_78_code 43 = .ok (.aload_n 0, 1) := by decide +kernel
theorem d15_78_44 : decode prog_15_method_78_code 44 = .ok (.invokevirtual 392, 3) := by decide +kernel
theorem d15_72_0 : decode prog_15_method_72_code 0 = .ok (.aload_n 0, 1) := by decide +kernel
theorem d15_72_1 : decode prog_15_method_72_code 1 = .ok (.iconst 0, 1) := by decide +kernel
theorem d15_72_2 : decode prog_15_method_72_code 2 = .ok (.putfield 104, 3) := by decide +kernel
theorem d15_72_5 : decode prog_15_method_72_code 5 = .ok (.aload_n 0, 1) := by decide +kernel
theorem d15_72_6 : decode prog_15_method_72_code 6 = .ok (.iconst (-1), 1) := by decide +kernel
theorem d15_72_7 : decode prog_15_method_72_code 7 = .ok (.putfield 111, 3) := by decide +kernel
theorem d15_72_10 : decode prog_15_method_72_code 10 = .ok (.aload_n 0, 1) := by decide +kernel
theorem d15_72_11 : decode prog_15_method_72_code 11 = .ok (.iconst 0, 1) := by decide +kernel
theorem d15_72_12 : decode prog_15_method_72_code 12 = .ok (.putfield 353, 3) := by decide +kernel
theorem k1166 : (Jvm.Cond.fieldLink "PagedValuesModel" (353 : Nat) "PagedValuesModel" "segments" "I") ∈ TB := tk_5 206 rfl rfl
theorem d15_72_15 : decode prog_15_method_72_code 15 = .ok (.aload_n 0, 1) := by decide +kernel
theorem d15_72_16 : decode prog_15_method_72_code 16 = .ok (.iconst 0, 1) := by decide +kernel
theorem d15_72_17 : decode prog_15_method_72_code 17 = .ok (.putfield 344, 3) := by decide +kernel
theorem k1169 : (Jvm.Cond.fieldLink "PagedValuesModel" (344 : Nat) "PagedValuesModel" "selectors" "I") ∈ TB := tk_5 209 rfl rfl
theorem d15_72_20 : decode prog_15_method_72_code 20 = .ok (.aload_n 0, 1) := by decide +kernel
theorem d15_72_21 : decode prog_15_method_72_code 21 = .ok (.bipush 36, 2) := by decide +kernel
theorem d15_72_23 : decode prog_15_method_72_code 23 = .ok (.invokevirtual 132, 3) := by decide +kernel
theorem d15_72_26 : decode prog_15_method_72_code 26 = .ok (.iconst 0, 1) := by decide +kernel
theorem d15_72_27 : decode prog_15_method_72_code 27 = .ok (.istore_n 1, 1) := by decide +kernel
theorem d15_72_28 : decode prog_15_method_72_code 28 = .ok (.iload_n 1, 1) := by decide +kernel
theorem d15_72_29 : decode prog_15_method_72_code 29 = .ok (.bipush 81, 2) := by decide +kernel
theorem d15_72_31 : decode prog_15_method_72_code 31 = .ok (.if_icmp .ge 31, 3) := by decide +kernel
theorem d15_72_34 : decode prog_15_method_72_code 34 = .ok (.aload_n 0, 1) := by decide +kernel
theorem d15_72_35 : decode prog_15_method_72_code 35 = .ok (.getfield 111, 3) := by decide +kernel
theorem d15_72_38 : decode prog_15_method_72_code 38 = .ok (.ifCond .ge 24, 3) := by decide +kernel
theorem d15_72_62 : decode prog_15_method_72_code 62 = .ok (.return_, 1) := by decide +kernel
def y15_72 : MethodName := { cls := "PagedValuesModel", name := "readQuery", desc := "()V" }
theorem k1550 : (Jvm.Cond.code ({ cls := "PagedValuesModel", name := "readQuery", desc := "()V" } : Jvm.MethodName) prog_15_method_72_code (2 : Nat) (Option.none : Option Jvm.ClassFile.FieldType)) ∈ TB := tk_7 110 rfl rfl
theorem k1547 : (Jvm.Cond.methodLink "PagedValuesModel" (392 : Nat) ({ cls := "PagedValuesModel", name := "readQuery", desc := "()V" } : Jvm.MethodName)) ∈ TB := tk_7 107 rfl rfl
theorem k1549 : (Jvm.Cond.instanceMethod ({ cls := "PagedValuesModel", name := "readQuery", desc := "()V" } : Jvm.MethodName)) ∈ TB := tk_7 109 rfl rfl
theorem ks88 : Cond.selects y15_72.cls y15_72 y15_72 ∈ TB := List.mem_filter.mpr ⟨List.mem_append_left _ (List.mem_of_getElem? (i := 88) (by decide +kernel)), rfl⟩
theorem d15_78_47 : decode prog_15_method_78_code 47 = .ok (.aload_n 0, 1) := by decide +kernel
theorem d15_78_48 : decode prog_15_method_78_code 48 = .ok (.iconst 0, 1) := by decide +kernel
theorem d15_78_49 : decode prog_15_method_78_code 49 = .ok (.putfield 108, 3) := by decide +kernel
theorem d15_78_52 : decode prog_15_method_78_code 52 = .ok (.aload_n 0, 1) := by decide +kernel
theorem d15_78_53 : decode prog_15_method_78_code 53 = .ok (.getfield 111, 3) := by decide +kernel
theorem d15_78_56 : decode prog_15_method_78_code 56 = .ok (.ifCond .lt 11, 3) := by decide +kernel
theorem d15_78_59 : decode prog_15_method_78_code 59 = .ok (.bipush (-100), 2) := by decide +kernel
theorem d15_78_61 : decode prog_15_method_78_code 61 = .ok (.aload_n 0, 1) := by decide +kernel
theorem d15_78_62 : decode prog_15_method_78_code 62 = .ok (.getfield 111, 3) := by decide +kernel
theorem d15_78_65 : decode prog_15_method_78_code 65 = .ok (.isub, 1) := by decide +kernel
theorem d15_78_66 : decode prog_15_method_78_code 66 = .ok (.ireturn, 1) := by decide +kernel
theorem d15_78_23 : decode prog_15_method_78_code 23 = .ok (.aload_n 0, 1) := by decide +kernel
theorem d15_78_24 : decode prog_15_method_78_code 24 = .ok (.aload_n 0, 1) := by decide +kernel
theorem d15_78_25 : decode prog_15_method_78_code 25 = .ok (.iload_n 1, 1) := by decide +kernel
theorem d15_78_26 : decode prog_15_method_78_code 26 = .ok (.invokevirtual 389, 3) := by decide +kernel
theorem d15_77_0 : decode prog_15_method_77_code 0 = .ok (.iload_n 1, 1) := by decide +kernel
theorem d15_77_1 : decode prog_15_method_77_code 1 = .ok (.ifCond .ge 15, 3) := by decide +kernel
theorem d15_77_4 : decode prog_15_method_77_code 4 = .ok (.aload_n 0, 1) := by decide +kernel
theorem d15_77_5 : decode prog_15_method_77_code 5 = .ok (.getfield 77, 3) := by decide +kernel
theorem d15_77_8 : decode prog_15_method_77_code 8 = .ok (.aload_n 0, 1) := by decide +kernel
theorem d15_77_9 : decode prog_15_method_77_code 9 = .ok (.invokevirtual 312, 3) := by decide +kernel
theorem d15_77_12 : decode prog_15_method_77_code 12 = .ok (.iaload, 1) := by decide +kernel
theorem d15_77_13 : decode prog_15_method_77_code 13 = .ok (.goto 9, 3) := by decide +kernel
theorem d15_77_22 : decode prog_15_method_77_code 22 = .ok (.ireturn, 1) := by decide +kernel
def y15_77 : MethodName := { cls := "PagedValuesModel", name := "rootOf", desc := "(I)I" }
theorem k1546 : (Jvm.Cond.code ({ cls := "PagedValuesModel", name := "rootOf", desc := "(I)I" } : Jvm.MethodName) prog_15_method_77_code (2 : Nat) (Option.some Jvm.ClassFile.FieldType.int)) ∈ TB := tk_7 106 rfl rfl
theorem k1543 : (Jvm.Cond.methodLink "PagedValuesModel" (389 : Nat) ({ cls := "PagedValuesModel", name := "rootOf", desc := "(I)I" } : Jvm.MethodName)) ∈ TB := tk_7 103 rfl rfl
theorem k1545 : (Jvm.Cond.instanceMethod ({ cls := "PagedValuesModel", name := "rootOf", desc := "(I)I" } : Jvm.MethodName)) ∈ TB := tk_7 105 rfl rfl
theorem ks87 : Cond.selects y15_77.cls y15_77 y15_77 ∈ TB := List.mem_filter.mpr ⟨List.mem_append_left _ (List.mem_of_getElem? (i := 87) (by decide +kernel)), rfl⟩
theorem d15_78_29 : decode prog_15_method_78_code 29 = .ok (.iload_n 2, 1) := by decide +kernel
theorem d15_78_30 : decode prog_15_method_78_code 30 = .ok (.invokevirtual 299, 3) := by decide +kernel
theorem d15_78_33 : decode prog_15_method_78_code 33 = .ok (.ifCond .ge 5, 3) := by decide +kernel
def y15_78 : MethodName := { cls := "PagedValuesModel", name := "query", desc := "(II)I" }
theorem d15_87_0 : decode prog_15_method_87_code 0 = .ok (.aload_n 0, 1) := by decide +kernel
theorem d15_87_1 : decode prog_15_method_87_code 1 = .ok (.getfield 308, 3) := by decide +kernel
theorem d15_87_4 : decode prog_15_method_87_code 4 = .ok (.ifCond .eq 6, 3) := by decide +kernel
theorem d15_87_10 : decode prog_15_method_87_code 10 = .ok (.aload_n 0, 1) := by decide +kernel
theorem d15_87_11 : decode prog_15_method_87_code 11 = .ok (.iload_n 1, 1) := by decide +kernel
theorem d15_87_12 : decode prog_15_method_87_code 12 = .ok (.invokevirtual 386, 3) := by decide +kernel
theorem d15_87_15 : decode prog_15_method_87_code 15 = .ok (.ifCond .eq 16, 3) := by decide +kernel
theorem d15_87_31 : decode prog_15_method_87_code 31 = .ok (.iconst (-1), 1) := by decide +kernel
theorem d15_87_32 : decode prog_15_method_87_code 32 = .ok (.istore_n 3, 1) := by decide +kernel
theorem d15_87_33 : decode prog_15_method_87_code 33 = .ok (.iload_n 3, 1) := by decide +kernel
theorem d15_87_34 : decode prog_15_method_87_code 34 = .ok (.ifCond .ge 5, 3) := by decide +kernel
theorem d15_87_37 : decode prog_15_method_87_code 37 = .ok (.iconst (-1), 1) := by decide +kernel
theorem d15_87_38 : decode prog_15_method_87_code 38 = .ok (.ireturn, 1) := by decide +kernel
theorem d15_87_18 : decode prog_15_method_87_code 18 = .ok (.aload_n 0, 1) := by decide +kernel
theorem d15_87_19 : decode prog_15_method_87_code 19 = .ok (.aload_n 0, 1) := by decide +kernel
theorem d15_87_20 : decode prog_15_method_87_code 20 = .ok (.iload_n 1, 1) := by decide +kernel
theorem d15_87_21 : decode prog_15_method_87_code 21 = .ok (.invokevirtual 389, 3) := by decide +kernel
theorem d15_87_24 : decode prog_15_method_87_code 24 = .ok (.iload_n 2, 1) := by decide +kernel
theorem d15_87_25 : decode prog_15_method_87_code 25 = .ok (.invokevirtual 299, 3) := by decide +kernel
theorem d15_87_28 : decode prog_15_method_87_code 28 = .ok (.goto 4, 3) := by decide +kernel
def y15_87 : MethodName := { cls := "PagedValuesModel", name := "print", desc := "(II)I" }
theorem d15_90_0 : decode prog_15_method_90_code 0 = .ok (.aload_n 0, 1) := by decide +kernel
theorem d15_90_1 : decode prog_15_method_90_code 1 = .ok (.getfield 308, 3) := by decide +kernel
theorem d15_90_4 : decode prog_15_method_90_code 4 = .ok (.ifCond .ne 21, 3) := by decide +kernel
theorem d15_90_7 : decode prog_15_method_90_code 7 = .ok (.iload_n 1, 1) := by decide +kernel
theorem d15_90_8 : decode prog_15_method_90_code 8 = .ok (.iconst 0, 1) := by decide +kernel
theorem d15_90_9 : decode prog_15_method_90_code 9 = .ok (.iconst 2, 1) := by decide +kernel
theorem d15_90_10 : decode prog_15_method_90_code 10 = .ok (.invokestatic 260, 3) := by decide +kernel
theorem d15_90_13 : decode prog_15_method_90_code 13 = .ok (.ifCond .eq 12, 3) := by decide +kernel
theorem d15_90_25 : decode prog_15_method_90_code 25 = .ok (.iconst 0, 1) := by decide +kernel
theorem d15_90_26 : decode prog_15_method_90_code 26 = .ok (.ireturn, 1) := by decide +kernel
theorem d15_90_16 : decode prog_15_method_90_code 16 = .ok (.aload_n 0, 1) := by decide +kernel
theorem d15_90_17 : decode prog_15_method_90_code 17 = .ok (.getfield 83, 3) := by decide +kernel
theorem d15_90_20 : decode prog_15_method_90_code 20 = .ok (.iload_n 1, 1) := by decide +kernel
theorem d15_90_21 : decode prog_15_method_90_code 21 = .ok (.baload, 1) := by decide +kernel
theorem d15_90_22 : decode prog_15_method_90_code 22 = .ok (.ifCond .ne 5, 3) := by decide +kernel
def y15_90 : MethodName := { cls := "PagedValuesModel", name := "close", desc := "(I)Z" }
theorem d15_94_0 : decode prog_15_method_94_code 0 = .ok (.iconst 0, 1) := by decide +kernel
theorem d15_94_1 : decode prog_15_method_94_code 1 = .ok (.istore_n 2, 1) := by decide +kernel
theorem d15_94_2 : decode prog_15_method_94_code 2 = .ok (.iconst 0, 1) := by decide +kernel
theorem d15_94_3 : decode prog_15_method_94_code 3 = .ok (.istore_n 3, 1) := by decide +kernel
theorem d15_94_4 : decode prog_15_method_94_code 4 = .ok (.iload_n 3, 1) := by decide +kernel
theorem d15_94_5 : decode prog_15_method_94_code 5 = .ok (.iconst 3, 1) := by decide +kernel
theorem d15_94_6 : decode prog_15_method_94_code 6 = .ok (.if_icmp .ge 26, 3) := by decide +kernel
theorem d15_94_9 : decode prog_15_method_94_code 9 = .ok (.aload_n 0, 1) := by decide +kernel
theorem d15_94_10 : decode prog_15_method_94_code 10 = .ok (.getfield 83, 3) := by decide +kernel
theorem d15_94_13 : decode prog_15_method_94_code 13 = .ok (.iload_n 3, 1) := by decide +kernel
theorem d15_94_14 : decode prog_15_method_94_code 14 = .ok (.baload, 1) := by decide +kernel
theorem d15_94_15 : decode prog_15_method_94_code 15 = .ok (.ifCond .eq 9, 3) := by decide +kernel
theorem d15_94_24 : decode prog_15_method_94_code 24 = .ok (.iload_n 2, 1) := by decide +kernel
theorem d15_94_25 : decode prog_15_method_94_code 25 = .ok (.istore_n 2, 1) := by decide +kernel
theorem d15_94_26 : decode prog_15_method_94_code 26 = .ok (.iinc 3 1, 3) := by decide +kernel
theorem d15_94_29 : decode prog_15_method_94_code 29 = .ok (.goto (-25), 3) := by decide +kernel
theorem d15_94_32 : decode prog_15_method_94_code 32 = .ok (.iload_n 1, 1) := by decide +kernel
theorem d15_94_33 : decode prog_15_method_94_code 33 = .ok (.tableswitch 97 0 6 #[43, 48, 62, 64, 69, 74, 84], 43) := by decide +kernel
theorem d15_94_76 : decode prog_15_method_94_code 76 = .ok (.aload_n 0, 1) := by decide +kernel
theorem d15_94_77 : decode prog_15_method_94_code 77 = .ok (.getfield 108, 3) := by decide +kernel
theorem d15_94_80 : decode prog_15_method_94_code 80 = .ok (.ireturn, 1) := by decide +kernel
theorem d15_94_81 : decode prog_15_method_94_code 81 = .ok (.aload_n 0, 1) := by decide +kernel
theorem d15_94_82 : decode prog_15_method_94_code 82 = .ok (.aload_n 0, 1) := by decide +kernel
theorem d15_94_83 : decode prog_15_method_94_code 83 = .ok (.getfield 77, 3) := by decide +kernel
theorem d15_94_86 : decode prog_15_method_94_code 86 = .ok (.aload_n 0, 1) := by decide +kernel
theorem d15_94_87 : decode prog_15_method_94_code 87 = .ok (.invokevirtual 312, 3) := by decide +kernel
theorem d15_94_90 : decode prog_15_method_94_code 90 = .ok (.iaload, 1) := by decide +kernel
theorem d15_94_91 : decode prog_15_method_94_code 91 = .ok (.invokevirtual 338, 3) := by decide +kernel
theorem d15_57_0 : decode prog_15_method_57_code 0 = .ok (.iconst 0, 1) := by decide +kernel
theorem d15_57_1 : decode prog_15_method_57_code 1 = .ok (.istore_n 2, 1) := by decide +kernel
theorem d15_57_2 : decode prog_15_method_57_code 2 = .ok (.iconst 0, 1) := by decide +kernel
theorem d15_57_3 : decode prog_15_method_57_code 3 = .ok (.istore_n 3, 1) := by decide +kernel
theorem d15_57_4 : decode prog_15_method_57_code 4 = .ok (.iload_n 3, 1) := by decide +kernel
theorem d15_57_5 : decode prog_15_method_57_code 5 = .ok (.bipush 8, 2) := by decide +kernel
theorem d15_57_7 : decode prog_15_method_57_code 7 = .ok (.if_icmp .ge 26, 3) := by decide +kernel
theorem d15_57_10 : decode prog_15_method_57_code 10 = .ok (.aload_n 0, 1) := by decide +kernel
theorem d15_57_11 : decode prog_15_method_57_code 11 = .ok (.iload_n 1, 1) := by decide +kernel
theorem d15_57_12 : decode prog_15_method_57_code 12 = .ok (.iload_n 3, 1) := by decide +kernel
theorem d15_57_13 : decode prog_15_method_57_code 13 = .ok (.invokevirtual 299, 3) := by decide +kernel
theorem d15_57_16 : decode prog_15_method_57_code 16 = .ok (.ifCond .lt 9, 3) := by decide +kernel
theorem d15_57_25 : decode prog_15_method_57_code 25 = .ok (.iload_n 2, 1) := by decide +kernel
theorem d15_57_26 : decode prog_15_method_57_code 26 = .ok (.istore_n 2, 1) := by decide +kernel
theorem d15_57_27 : decode prog_15_method_57_code 27 = .ok (.iinc 3 1, 3) := by decide +kernel
theorem d15_57_30 : decode prog_15_method_57_code 30 = .ok (.goto (-26), 3) := by decide +kernel
theorem d15_57_33 : decode prog_15_method_57_code 33 = .ok (.iload_n 2, 1) := by decide +kernel
theorem d15_57_34 : decode prog_15_method_57_code 34 = .ok (.ireturn, 1) := by decide +kernel
def y15_57 : MethodName := { cls := "PagedValuesModel", name := "documents", desc := "(I)I" }
theorem k1534 : (Jvm.Cond.code ({ cls := "PagedValuesModel", name := "documents", desc := "(I)I" } : Jvm.MethodName) prog_15_method_57_code (4 : Nat) (Option.some Jvm.ClassFile.FieldType.int)) ∈ TB := tk_7 94 rfl rfl
theorem k1531 : (Jvm.Cond.methodLink "PagedValuesModel" (338 : Nat) ({ cls := "PagedValuesModel", name := "documents", desc := "(I)I" } : Jvm.MethodName)) ∈ TB := tk_7 91 rfl rfl
theorem k1533 : (Jvm.Cond.instanceMethod ({ cls := "PagedValuesModel", name := "documents", desc := "(I)I" } : Jvm.MethodName)) ∈ TB := tk_7 93 rfl rfl
theorem ks85 : Cond.selects y15_57.cls y15_57 y15_57 ∈ TB := List.mem_filter.mpr ⟨List.mem_append_left _ (List.mem_of_getElem? (i := 85) (by decide +kernel)), rfl⟩
theorem d15_94_94 : decode prog_15_method_94_code 94 = .ok (.ireturn, 1) := by decide +kernel
theorem d15_94_95 : decode prog_15_method_94_code 95 = .ok (.iload_n 2, 1) := by decide +kernel
theorem d15_94_96 : decode prog_15_method_94_code 96 = .ok (.ireturn, 1) := by decide +kernel
theorem d15_94_97 : decode prog_15_method_94_code 97 = .ok (.aload_n 0, 1) := by decide +kernel
theorem d15_94_98 : decode prog_15_method_94_code 98 = .ok (.getfield 302, 3) := by decide +kernel
theorem k1192 : (Jvm.Cond.fieldLink "PagedValuesModel" (302 : Nat) "PagedValuesModel" "written" "I") ∈ TB := tk_5 232 rfl rfl
theorem d15_94_101 : decode prog_15_method_94_code 101 = .ok (.ireturn, 1) := by decide +kernel
theorem d15_94_102 : decode prog_15_method_94_code 102 = .ok (.aload_n 0, 1) := by decide +kernel
theorem d15_94_103 : decode prog_15_method_94_code 103 = .ok (.invokevirtual 312, 3) := by decide +kernel
theorem d15_94_106 : decode prog_15_method_94_code 106 = .ok (.ireturn, 1) := by decide +kernel
theorem d15_94_107 : decode prog_15_method_94_code 107 = .ok (.aload_n 0, 1) := by decide +kernel
theorem d15_94_108 : decode prog_15_method_94_code 108 = .ok (.getfield 80, 3) := by decide +kernel
theorem d15_94_111 : decode prog_15_method_94_code 111 = .ok (.aload_n 0, 1) := by decide +kernel
theorem d15_94_112 : decode prog_15_method_94_code 112 = .ok (.invokevirtual 312, 3) := by decide +kernel
theorem d15_94_115 : decode prog_15_method_94_code 115 = .ok (.iaload, 1) := by decide +kernel
theorem d15_94_116 : decode prog_15_method_94_code 116 = .ok (.ireturn, 1) := by decide +kernel
theorem d15_94_117 : decode prog_15_method_94_code 117 = .ok (.aload_n 0, 1) := by decide +kernel
theorem d15_94_118 : decode prog_15_method_94_code 118 = .ok (.getfield 308, 3) := by decide +kernel
theorem d15_94_121 : decode prog_15_method_94_code 121 = .ok (.ifCond .eq 7, 3) := by decide +kernel
theorem d15_94_128 : decode prog_15_method_94_code 128 = .ok (.iconst 0, 1) := by decide +kernel
theorem d15_94_129 : decode prog_15_method_94_code 129 = .ok (.ireturn, 1) := by decide +kernel
theorem d15_94_130 : decode prog_15_method_94_code 130 = .ok (.iconst (-1), 1) := by decide +kernel
theorem d15_94_131 : decode prog_15_method_94_code 131 = .ok (.ireturn, 1) := by decide +kernel
def y15_94 : MethodName := { cls := "PagedValuesModel", name := "size", desc := "(I)I" }
set_option maxHeartbeats 4000000 in
set_option maxRecDepth 100000 in
theorem am_within (l : Launch) (G : Gk) (Zd q : Nat → Nat) (w0 : va_W) (v lo hi : Int32) (sz : Nat) : Met l y15_2 (Cond.code y15_2 prog_15_method_2_code 3 (some .boolean) :: TB) (rmD 0 0 0) (va_Pc [.int v, .int lo, .int hi] (pcW G Zd w0 sz)) (qI G (fun rr (_ : Unit) => rr = wt v lo hi) (fun _ => w0) (va_A w0 sz)) 0 0 (va_A w0 sz) := by
  refine go (Qc := qI G (fun rr (_ : Unit) => rr = wt v lo hi) (fun _ => w0)) "PagedValuesModel" rfl (by decide) (Nat.le_of_ble_eq_true rfl) ?_
  intro p e s m below meth c ls A hx hb hr hlk hml hown hts hin hl hP hD hK hS hA hZ
  have hl : lv_has ls 3 [(0, .int v), (1, .int lo), (2, .int hi)] := hl
  refine lv_iload_n hx hb d15_2_0 rfl (lv_at hl 0 rfl) ?_
  refine lv_iload_n hx hb d15_2_1 rfl (lv_at hl 1 rfl) ?_
  refine lv_icmp_lt (tgt := 14) hx hb d15_2_2 rfl (fun c1 => ?_) (fun c1 => ?_)
  ·
    refine lv_iconst (v := 0) hx hb d15_2_14 (by decide) ?_
    exact fin_z hx hb hr hlk (by decide) hS () (if_neg (show ¬ (lo.toInt ≤ v.toInt ∧ v.toInt ≤ hi.toInt) by have L9 := lits; have fc1 := c1; (first | replace fc1 := wt_0 fc1 | replace fc1 := wt_1 fc1 | replace fc1 := an_rd_0 fc1 | simp only [Int32.lt_iff_toInt_lt, Int32.le_iff_toInt_le, ← Int32.toInt_inj, ne_eq] at fc1 | skip); omega)).symm hP hD (Nat.le_of_ble_eq_true rfl) (Nat.le_of_ble_eq_true rfl) d15_2_15
  ·
    refine lv_iload_n hx hb d15_2_5 rfl (lv_at hl 0 rfl) ?_
    refine lv_iload_n hx hb d15_2_6 rfl (lv_at hl 2 rfl) ?_
    refine lv_icmp_gt (tgt := 14) hx hb d15_2_7 rfl (fun c2 => ?_) (fun c2 => ?_)
    ·
      refine lv_iconst (v := 0) hx hb d15_2_14 (by decide) ?_
      exact fin_z hx hb hr hlk (by decide) hS () (if_neg (show ¬ (lo.toInt ≤ v.toInt ∧ v.toInt ≤ hi.toInt) by have L9 := lits; have fc1 := c1; (first | replace fc1 := wt_0 fc1 | replace fc1 := wt_1 fc1 | replace fc1 := an_rd_0 fc1 | simp only [Int32.lt_iff_toInt_lt, Int32.le_iff_toInt_le, ← Int32.toInt_inj, ne_eq] at fc1 | skip); have fc2 := c2; (first | replace fc2 := wt_0 fc2 | replace fc2 := wt_1 fc2 | replace fc2 := an_rd_0 fc2 | simp only [Int32.lt_iff_toInt_lt, Int32.le_iff_toInt_le, ← Int32.toInt_inj, ne_eq] at fc2 | skip); omega)).symm hP hD (Nat.le_of_ble_eq_true rfl) (Nat.le_of_ble_eq_true rfl) d15_2_15
    ·
      refine lv_iconst (v := 1) hx hb d15_2_10 (by decide) ?_
      refine lv_goto (tgt := 15) hx hb d15_2_11 rfl ?_
      exact fin_z hx hb hr hlk (by decide) hS () (if_pos (show lo.toInt ≤ v.toInt ∧ v.toInt ≤ hi.toInt by have L9 := lits; have fc1 := c1; (first | replace fc1 := wt_0 fc1 | replace fc1 := wt_1 fc1 | replace fc1 := an_rd_0 fc1 | simp only [Int32.lt_iff_toInt_lt, Int32.le_iff_toInt_le, ← Int32.toInt_inj, ne_eq] at fc1 | skip); have fc2 := c2; (first | replace fc2 := wt_0 fc2 | replace fc2 := wt_1 fc2 | replace fc2 := an_rd_0 fc2 | simp only [Int32.lt_iff_toInt_lt, Int32.le_iff_toInt_le, ← Int32.toInt_inj, ne_eq] at fc2 | skip); omega)).symm hP hD (Nat.le_of_ble_eq_true rfl) (Nat.le_of_ble_eq_true rfl) d15_2_15
set_option maxHeartbeats 4000000 in
set_option maxRecDepth 100000 in
theorem tm_type (l : Launch) (G : Gk) (Zd q : Nat → Nat) (ch : Int32) (sz : Nat) : Met l y15_61 (Cond.code y15_61 prog_15_method_61_code 2 (some .int) :: TB) (rmD 0 0 0) (va_Pc [.ref (q 0), .int ch] (pcW G Zd (wM q G.2 mI0 mJ0 mA0 mB0) sz)) (qI G (fun rr (_ : Unit) => rr = 1) (fun _ => []) (va_A (wM q G.2 mI0 mJ0 mA0 mB0) sz)) 0 0 (va_A (wM q G.2 mI0 mJ0 mA0 mB0) sz) := by
  refine go (Qc := qI G (fun rr (_ : Unit) => rr = 1) (fun _ => [])) "PagedValuesModel" rfl (by decide) (Nat.le_of_ble_eq_true rfl) ?_
  intro p e s m below meth c ls A hx hb hr hlk hml hown hts hin hl hP hD hK hS hA hZ
  have hl : lv_has ls 2 [(0, .ref (q 0)), (1, .int ch)] := hl
  refine lv_aload_n hx hb d15_61_0 rfl (lv_at hl 0 rfl) ?_
  refine va_get (D := G.1) (ci := 13) (v := .int 0) (C := r_13) (T := f_13) (N := 42) (ref := "PagedValuesModel") hx hb hts (fun w h => List.mem_cons_of_mem _ (ly_13 w h)) hown hK hP 0 rfl rfl 40 (by decide) (hts _ (List.mem_cons_of_mem _ k1191)) (fun _ h9 => h9) rfl d15_61_1 ?_
  refine lv_if_ne (tgt := 16) hx hb d15_61_4 rfl (fun hc => absurd hc (by decide)) (fun _ => ?_)
  refine lv_aload_n hx hb d15_61_7 rfl (lv_at hl 0 rfl) ?_
  refine va_get (D := G.1) (ci := 13) (v := .int 0) (C := r_13) (T := f_13) (N := 42) (ref := "PagedValuesModel") hx hb hts (fun w h => List.mem_cons_of_mem _ (ly_13 w h)) hown hK hP 0 rfl rfl 1 (by decide) (hts _ (List.mem_cons_of_mem _ k1152)) (fun _ h9 => h9) rfl d15_61_8 ?_
  refine lv_bipush (v := 80) hx hb d15_61_11 (by decide) ?_
  refine lv_icmp_ne (tgt := 30) hx hb d15_61_13 rfl (fun _ => ?_) (fun hc => absurd hc (by decide))
  refine lv_aload_n hx hb d15_61_30 rfl (lv_at hl 0 rfl) ?_
  refine va_get (D := G.1) (ci := 13) (v := .ref (q 1)) (C := r_13) (T := f_13) (N := 42) (ref := "PagedValuesModel") hx hb hts (fun w h => List.mem_cons_of_mem _ (ly_13 w h)) hown hK hP 0 rfl rfl 0 (by decide) (hts _ (List.mem_cons_of_mem _ k1151)) (fun _ h9 => h9) rfl d15_61_31 ?_
  refine lv_aload_n hx hb d15_61_34 rfl (lv_at hl 0 rfl) ?_
  refine va_get (D := G.1) (ci := 13) (v := .int 0) (C := r_13) (T := f_13) (N := 42) (ref := "PagedValuesModel") hx hb hts (fun w h => List.mem_cons_of_mem _ (ly_13 w h)) hown hK hP 0 rfl rfl 1 (by decide) (hts _ (List.mem_cons_of_mem _ k1152)) (fun _ h9 => h9) rfl d15_61_35 ?_
  refine lv_iload_n hx hb d15_61_38 rfl (lv_at hl 1 rfl) ?_
  refine va_cast (D := G.1) hx hb hK hP hD hS 1 0 rfl rfl (i := 0) (x := ch) (by unfold vp_in; decide) d15_61_39 (fun H locs hP hD hS => ?_)
  have hP : va_P G.1 vwCl (wM q G.2 mI0 mJ0 (va_up mA0 0 (upd (mA0 0) (0 : Int32).toNatClampNeg (vp_nar .char ch))) mB0) H := hP
  have hD : va_D A (wM q G.2 mI0 mJ0 (va_up mA0 0 (upd (mA0 0) (0 : Int32).toNatClampNeg (vp_nar .char ch))) mB0) := hD
  refine lv_aload_n hx hb d15_61_40 rfl (lv_at hl 0 rfl) ?_
  refine lv_dup hx hb d15_61_41 rfl ?_
  refine va_get (D := G.1) (ci := 13) (v := .int 0) (C := r_13) (T := f_13) (N := 42) (ref := "PagedValuesModel") hx hb hts (fun w h => List.mem_cons_of_mem _ (ly_13 w h)) hown hK hP 0 rfl rfl 1 (by decide) (hts _ (List.mem_cons_of_mem _ k1152)) (fun _ h9 => h9) rfl d15_61_42 ?_
  refine lv_iconst (v := 1) hx hb d15_61_45 (by decide) ?_
  refine lv_iadd hx hb d15_61_46 ?_
  refine W.eq (g2 := F0 m 47 ls [.int 1, .ref (q 0)]) rfl ?_
  refine va_put (D := G.1) (ci := 13) (v := .int 1) (ty := .int) (C := r_13) (T := f_13) (N := 42) (ref := "PagedValuesModel") hx hb hts (fun w h => List.mem_cons_of_mem _ (ly_13 w h)) ft_13 ft_13_ok nm_13 hown hK hP hD hS 0 rfl rfl 1 (by decide) (hts _ (List.mem_cons_of_mem _ k1152)) (fun _ h9 => h9) rfl (by decide +kernel) rfl rfl (Nat.le_of_ble_eq_true rfl) d15_61_47 (fun H locs hP hD hS => ?_)
  have hP : va_P G.1 vwCl (wM q G.2 (upd mI0 0 1) mJ0 (va_up mA0 0 (upd (mA0 0) (0 : Int32).toNatClampNeg (vp_nar .char ch))) mB0) H := hP
  have hD : va_D A (wM q G.2 (upd mI0 0 1) mJ0 (va_up mA0 0 (upd (mA0 0) (0 : Int32).toNatClampNeg (vp_nar .char ch))) mB0) := hD
  refine lv_aload_n hx hb d15_61_50 rfl (lv_at hl 0 rfl) ?_
  refine va_get (D := G.1) (ci := 13) (v := .int 1) (C := r_13) (T := f_13) (N := 42) (ref := "PagedValuesModel") hx hb hts (fun w h => List.mem_cons_of_mem _ (ly_13 w h)) hown hK hP 0 rfl rfl 1 (by decide) (hts _ (List.mem_cons_of_mem _ k1152)) (fun _ h9 => h9) rfl d15_61_51 ?_
  exact fin_i hx hb hr hlk hS () rfl (fun k q h => by simp at h) ⟨fun i j x y h => by simp at h, fun k q h => by simp at h⟩ (Nat.le_of_ble_eq_true rfl) (Nat.le_of_ble_eq_true rfl) d15_61_54
set_option maxHeartbeats 4000000 in
set_option maxRecDepth 100000 in
theorem a15_7_1 (l : Launch) (G : Gk) (Zd q : Nat → Nat)  (sz : Nat) : Met l y15_7 (Cond.code y15_7 prog_15_method_7_code 1 (some .int) :: TB) (rmD 0 0 0) (va_Pc [.ref (q 0)] (pcW G Zd (wM q G.2 (upd (upd (upd (upd mI0 1 0) 2 (-1)) 3 0) 4 0) mJ0 mA0 mB0) sz)) (qI G (fun rr (_ : Unit) => rr = (-1)) (fun _ => (wM q G.2 (upd (upd (upd (upd mI0 1 0) 2 (-1)) 3 0) 4 0) mJ0 mA0 mB0)) (va_A (wM q G.2 (upd (upd (upd (upd mI0 1 0) 2 (-1)) 3 0) 4 0) mJ0 mA0 mB0) sz)) 0 0 (va_A (wM q G.2 (upd (upd (upd (upd mI0 1 0) 2 (-1)) 3 0) 4 0) mJ0 mA0 mB0) sz) := by
  refine go (Qc := qI G (fun rr (_ : Unit) => rr = (-1)) (fun _ => (wM q G.2 (upd (upd (upd (upd mI0 1 0) 2 (-1)) 3 0) 4 0) mJ0 mA0 mB0))) "PagedValuesModel" rfl (by decide) (Nat.le_of_ble_eq_true rfl) ?_
  intro p e s m below meth c ls A hx hb hr hlk hml hown hts hin hl hP hD hK hS hA hZ
  have hl : lv_has ls 1 [(0, .ref (q 0))] := hl
  refine lv_aload_n hx hb d15_7_0 rfl (lv_at hl 0 rfl) ?_
  refine va_get (D := G.1) (ci := 13) (v := .int 0) (C := r_13) (T := f_13) (N := 42) (ref := "PagedValuesModel") hx hb hts (fun w h => List.mem_cons_of_mem _ (ly_13 w h)) hown hK hP 0 rfl rfl 2 (by decide) (hts _ (List.mem_cons_of_mem _ k1153)) (fun _ h9 => h9) rfl d15_7_1 ?_
  refine lv_aload_n hx hb d15_7_4 rfl (lv_at hl 0 rfl) ?_
  refine va_get (D := G.1) (ci := 13) (v := .int 0) (C := r_13) (T := f_13) (N := 42) (ref := "PagedValuesModel") hx hb hts (fun w h => List.mem_cons_of_mem _ (ly_13 w h)) hown hK hP 0 rfl rfl 1 (by decide) (hts _ (List.mem_cons_of_mem _ k1152)) (fun _ h9 => h9) rfl d15_7_5 ?_
  refine lv_icmp_ge (tgt := 23) hx hb d15_7_8 rfl (fun _ => ?_) (fun hc => absurd hc (by decide))
  refine lv_iconst (v := (-1)) hx hb d15_7_23 (by decide) ?_
  exact fin_i hx hb hr hlk hS () rfl hP hD (Nat.le_of_ble_eq_true rfl) (Nat.le_of_ble_eq_true rfl) d15_7_24
set_option maxHeartbeats 4000000 in
set_option maxRecDepth 100000 in
theorem a15_10_2 (l : Launch) (G : Gk) (Zd q : Nat → Nat)  (sz : Nat) : Met l y15_10 (Cond.code y15_10 prog_15_method_10_code 2 (some .boolean) :: TB) (rmD 1 0 0) (va_Pc [.ref (q 0), .int 32] (pcW G Zd (wM q G.2 (upd (upd (upd (upd mI0 1 0) 2 (-1)) 3 0) 4 0) mJ0 mA0 mB0) sz)) (qI G (fun rr (_ : Unit) => rr = 0) (fun _ => (wM q G.2 (upd (upd (upd (upd mI0 1 0) 2 (-1)) 3 0) 4 0) mJ0 mA0 mB0)) (va_A (wM q G.2 (upd (upd (upd (upd mI0 1 0) 2 (-1)) 3 0) 4 0) mJ0 mA0 mB0) sz)) 0 0 (va_A (wM q G.2 (upd (upd (upd (upd mI0 1 0) 2 (-1)) 3 0) 4 0) mJ0 mA0 mB0) sz) := by
  refine go (Qc := qI G (fun rr (_ : Unit) => rr = 0) (fun _ => (wM q G.2 (upd (upd (upd (upd mI0 1 0) 2 (-1)) 3 0) 4 0) mJ0 mA0 mB0))) "PagedValuesModel" rfl (by decide) (Nat.le_of_ble_eq_true rfl) ?_
  intro p e s m below meth c ls A hx hb hr hlk hml hown hts hin hl hP hD hK hS hA hZ
  have hl : lv_has ls 2 [(0, .ref (q 0)), (1, .int 32)] := hl
  refine lv_aload_n hx hb d15_10_0 rfl (lv_at hl 0 rfl) ?_
  refine va_get (D := G.1) (ci := 13) (v := .int (-1)) (C := r_13) (T := f_13) (N := 42) (ref := "PagedValuesModel") hx hb hts (fun w h => List.mem_cons_of_mem _ (ly_13 w h)) hown hK hP 0 rfl rfl 3 (by decide) (hts _ (List.mem_cons_of_mem _ k1154)) (fun _ h9 => h9) rfl d15_10_1 ?_
  refine lv_if_ge (tgt := 19) hx hb d15_10_4 rfl (fun hc => absurd hc (by decide)) (fun _ => ?_)
  refine lv_aload_n hx hb d15_10_7 rfl (lv_at hl 0 rfl) ?_
  refine sV_i (As := []) (rest := []) ⟨hx, hb, hml, hown, hts⟩ (a15_7_1 l G Zd q  _) (kw_V (n := 0) hts k1305 k1302 k15 k1304 ks37 (by decide +kernel) ⟨Nat.le_of_ble_eq_true rfl, Nat.le_of_ble_eq_true rfl⟩) hP hD hK hS hA hZ (va_recv (ci := 13) (q0 := 0) hK hP rfl rfl) rfl hl.1 rfl (Nat.le_of_ble_eq_true rfl) d15_10_8 ⟨Nat.le_of_ble_eq_true rfl, Nat.le_of_ble_eq_true rfl⟩ (fun rr u H locs hp hP hD hS => ?_)
  obtain rfl := hp
  refine W.eq (g2 := F0 m 11 ls [.int (-1)]) rfl ?_
  have hP : va_P G.1 vwCl (wM q G.2 (upd (upd (upd (upd mI0 1 0) 2 (-1)) 3 0) 4 0) mJ0 mA0 mB0) H := hP
  have hD : va_D A (wM q G.2 (upd (upd (upd (upd mI0 1 0) 2 (-1)) 3 0) 4 0) mJ0 mA0 mB0) := hD
  refine lv_iload_n hx hb d15_10_11 rfl (lv_at hl 1 rfl) ?_
  refine lv_icmp_ne (tgt := 19) hx hb d15_10_12 rfl (fun _ => ?_) (fun hc => absurd hc (by decide))
  refine lv_iconst (v := 0) hx hb d15_10_19 (by decide) ?_
  exact fin_z hx hb hr hlk (by decide) hS () rfl hP hD (Nat.le_of_ble_eq_true rfl) (Nat.le_of_ble_eq_true rfl) d15_10_20
set_option maxHeartbeats 4000000 in
set_option maxRecDepth 100000 in
theorem a15_10_3 (l : Launch) (G : Gk) (Zd q : Nat → Nat)  (sz : Nat) : Met l y15_10 (Cond.code y15_10 prog_15_method_10_code 2 (some .boolean) :: TB) (rmD 1 0 0) (va_Pc [.ref (q 0), .int 9] (pcW G Zd (wM q G.2 (upd (upd (upd (upd mI0 1 0) 2 (-1)) 3 0) 4 0) mJ0 mA0 mB0) sz)) (qI G (fun rr (_ : Unit) => rr = 0) (fun _ => (wM q G.2 (upd (upd (upd (upd mI0 1 0) 2 (-1)) 3 0) 4 0) mJ0 mA0 mB0)) (va_A (wM q G.2 (upd (upd (upd (upd mI0 1 0) 2 (-1)) 3 0) 4 0) mJ0 mA0 mB0) sz)) 0 0 (va_A (wM q G.2 (upd (upd (upd (upd mI0 1 0) 2 (-1)) 3 0) 4 0) mJ0 mA0 mB0) sz) := by
  refine go (Qc := qI G (fun rr (_ : Unit) => rr = 0) (fun _ => (wM q G.2 (upd (upd (upd (upd mI0 1 0) 2 (-1)) 3 0) 4 0) mJ0 mA0 mB0))) "PagedValuesModel" rfl (by decide) (Nat.le_of_ble_eq_true rfl) ?_
  intro p e s m below meth c ls A hx hb hr hlk hml hown hts hin hl hP hD hK hS hA hZ
  have hl : lv_has ls 2 [(0, .ref (q 0)), (1, .int 9)] := hl
  refine lv_aload_n hx hb d15_10_0 rfl (lv_at hl 0 rfl) ?_
  refine va_get (D := G.1) (ci := 13) (v := .int (-1)) (C := r_13) (T := f_13) (N := 42) (ref := "PagedValuesModel") hx hb hts (fun w h => List.mem_cons_of_mem _ (ly_13 w h)) hown hK hP 0 rfl rfl 3 (by decide) (hts _ (List.mem_cons_of_mem _ k1154)) (fun _ h9 => h9) rfl d15_10_1 ?_
  refine lv_if_ge (tgt := 19) hx hb d15_10_4 rfl (fun hc => absurd hc (by decide)) (fun _ => ?_)
  refine lv_aload_n hx hb d15_10_7 rfl (lv_at hl 0 rfl) ?_
  refine sV_i (As := []) (rest := []) ⟨hx, hb, hml, hown, hts⟩ (a15_7_1 l G Zd q  _) (kw_V (n := 0) hts k1305 k1302 k15 k1304 ks37 (by decide +kernel) ⟨Nat.le_of_ble_eq_true rfl, Nat.le_of_ble_eq_true rfl⟩) hP hD hK hS hA hZ (va_recv (ci := 13) (q0 := 0) hK hP rfl rfl) rfl hl.1 rfl (Nat.le_of_ble_eq_true rfl) d15_10_8 ⟨Nat.le_of_ble_eq_true rfl, Nat.le_of_ble_eq_true rfl⟩ (fun rr u H locs hp hP hD hS => ?_)
  obtain rfl := hp
  refine W.eq (g2 := F0 m 11 ls [.int (-1)]) rfl ?_
  have hP : va_P G.1 vwCl (wM q G.2 (upd (upd (upd (upd mI0 1 0) 2 (-1)) 3 0) 4 0) mJ0 mA0 mB0) H := hP
  have hD : va_D A (wM q G.2 (upd (upd (upd (upd mI0 1 0) 2 (-1)) 3 0) 4 0) mJ0 mA0 mB0) := hD
  refine lv_iload_n hx hb d15_10_11 rfl (lv_at hl 1 rfl) ?_
  refine lv_icmp_ne (tgt := 19) hx hb d15_10_12 rfl (fun _ => ?_) (fun hc => absurd hc (by decide))
  refine lv_iconst (v := 0) hx hb d15_10_19 (by decide) ?_
  exact fin_z hx hb hr hlk (by decide) hS () rfl hP hD (Nat.le_of_ble_eq_true rfl) (Nat.le_of_ble_eq_true rfl) d15_10_20
set_option maxHeartbeats 4000000 in
set_option maxRecDepth 100000 in
theorem a15_10_4 (l : Launch) (G : Gk) (Zd q : Nat → Nat)  (sz : Nat) : Met l y15_10 (Cond.code y15_10 prog_15_method_10_code 2 (some .boolean) :: TB) (rmD 1 0 0) (va_Pc [.ref (q 0), .int 10] (pcW G Zd (wM q G.2 (upd (upd (upd (upd mI0 1 0) 2 (-1)) 3 0) 4 0) mJ0 mA0 mB0) sz)) (qI G (fun rr (_ : Unit) => rr = 0) (fun _ => (wM q G.2 (upd (upd (upd (upd mI0 1 0) 2 (-1)) 3 0) 4 0) mJ0 mA0 mB0)) (va_A (wM q G.2 (upd (upd (upd (upd mI0 1 0) 2 (-1)) 3 0) 4 0) mJ0 mA0 mB0) sz)) 0 0 (va_A (wM q G.2 (upd (upd (upd (upd mI0 1 0) 2 (-1)) 3 0) 4 0) mJ0 mA0 mB0) sz) := by
  refine go (Qc := qI G (fun rr (_ : Unit) => rr = 0) (fun _ => (wM q G.2 (upd (upd (upd (upd mI0 1 0) 2 (-1)) 3 0) 4 0) mJ0 mA0 mB0))) "PagedValuesModel" rfl (by decide) (Nat.le_of_ble_eq_true rfl) ?_
  intro p e s m below meth c ls A hx hb hr hlk hml hown hts hin hl hP hD hK hS hA hZ
  have hl : lv_has ls 2 [(0, .ref (q 0)), (1, .int 10)] := hl
  refine lv_aload_n hx hb d15_10_0 rfl (lv_at hl 0 rfl) ?_
  refine va_get (D := G.1) (ci := 13) (v := .int (-1)) (C := r_13) (T := f_13) (N := 42) (ref := "PagedValuesModel") hx hb hts (fun w h => List.mem_cons_of_mem _ (ly_13 w h)) hown hK hP 0 rfl rfl 3 (by decide) (hts _ (List.mem_cons_of_mem _ k1154)) (fun _ h9 => h9) rfl d15_10_1 ?_
  refine lv_if_ge (tgt := 19) hx hb d15_10_4 rfl (fun hc => absurd hc (by decide)) (fun _ => ?_)
  refine lv_aload_n hx hb d15_10_7 rfl (lv_at hl 0 rfl) ?_
  refine sV_i (As := []) (rest := []) ⟨hx, hb, hml, hown, hts⟩ (a15_7_1 l G Zd q  _) (kw_V (n := 0) hts k1305 k1302 k15 k1304 ks37 (by decide +kernel) ⟨Nat.le_of_ble_eq_true rfl, Nat.le_of_ble_eq_true rfl⟩) hP hD hK hS hA hZ (va_recv (ci := 13) (q0 := 0) hK hP rfl rfl) rfl hl.1 rfl (Nat.le_of_ble_eq_true rfl) d15_10_8 ⟨Nat.le_of_ble_eq_true rfl, Nat.le_of_ble_eq_true rfl⟩ (fun rr u H locs hp hP hD hS => ?_)
  obtain rfl := hp
  refine W.eq (g2 := F0 m 11 ls [.int (-1)]) rfl ?_
  have hP : va_P G.1 vwCl (wM q G.2 (upd (upd (upd (upd mI0 1 0) 2 (-1)) 3 0) 4 0) mJ0 mA0 mB0) H := hP
  have hD : va_D A (wM q G.2 (upd (upd (upd (upd mI0 1 0) 2 (-1)) 3 0) 4 0) mJ0 mA0 mB0) := hD
  refine lv_iload_n hx hb d15_10_11 rfl (lv_at hl 1 rfl) ?_
  refine lv_icmp_ne (tgt := 19) hx hb d15_10_12 rfl (fun _ => ?_) (fun hc => absurd hc (by decide))
  refine lv_iconst (v := 0) hx hb d15_10_19 (by decide) ?_
  exact fin_z hx hb hr hlk (by decide) hS () rfl hP hD (Nat.le_of_ble_eq_true rfl) (Nat.le_of_ble_eq_true rfl) d15_10_20
set_option maxHeartbeats 4000000 in
set_option maxRecDepth 100000 in
theorem a15_10_5 (l : Launch) (G : Gk) (Zd q : Nat → Nat)  (sz : Nat) : Met l y15_10 (Cond.code y15_10 prog_15_method_10_code 2 (some .boolean) :: TB) (rmD 1 0 0) (va_Pc [.ref (q 0), .int 13] (pcW G Zd (wM q G.2 (upd (upd (upd (upd mI0 1 0) 2 (-1)) 3 0) 4 0) mJ0 mA0 mB0) sz)) (qI G (fun rr (_ : Unit) => rr = 0) (fun _ => (wM q G.2 (upd (upd (upd (upd mI0 1 0) 2 (-1)) 3 0) 4 0) mJ0 mA0 mB0)) (va_A (wM q G.2 (upd (upd (upd (upd mI0 1 0) 2 (-1)) 3 0) 4 0) mJ0 mA0 mB0) sz)) 0 0 (va_A (wM q G.2 (upd (upd (upd (upd mI0 1 0) 2 (-1)) 3 0) 4 0) mJ0 mA0 mB0) sz) := by
  refine go (Qc := qI G (fun rr (_ : Unit) => rr = 0) (fun _ => (wM q G.2 (upd (upd (upd (upd mI0 1 0) 2 (-1)) 3 0) 4 0) mJ0 mA0 mB0))) "PagedValuesModel" rfl (by decide) (Nat.le_of_ble_eq_true rfl) ?_
  intro p e s m below meth c ls A hx hb hr hlk hml hown hts hin hl hP hD hK hS hA hZ
  have hl : lv_has ls 2 [(0, .ref (q 0)), (1, .int 13)] := hl
  refine lv_aload_n hx hb d15_10_0 rfl (lv_at hl 0 rfl) ?_
  refine va_get (D := G.1) (ci := 13) (v := .int (-1)) (C := r_13) (T := f_13) (N := 42) (ref := "PagedValuesModel") hx hb hts (fun w h => List.mem_cons_of_mem _ (ly_13 w h)) hown hK hP 0 rfl rfl 3 (by decide) (hts _ (List.mem_cons_of_mem _ k1154)) (fun _ h9 => h9) rfl d15_10_1 ?_
  refine lv_if_ge (tgt := 19) hx hb d15_10_4 rfl (fun hc => absurd hc (by decide)) (fun _ => ?_)
  refine lv_aload_n hx hb d15_10_7 rfl (lv_at hl 0 rfl) ?_
  refine sV_i (As := []) (rest := []) ⟨hx, hb, hml, hown, hts⟩ (a15_7_1 l G Zd q  _) (kw_V (n := 0) hts k1305 k1302 k15 k1304 ks37 (by decide +kernel) ⟨Nat.le_of_ble_eq_true rfl, Nat.le_of_ble_eq_true rfl⟩) hP hD hK hS hA hZ (va_recv (ci := 13) (q0 := 0) hK hP rfl rfl) rfl hl.1 rfl (Nat.le_of_ble_eq_true rfl) d15_10_8 ⟨Nat.le_of_ble_eq_true rfl, Nat.le_of_ble_eq_true rfl⟩ (fun rr u H locs hp hP hD hS => ?_)
  obtain rfl := hp
  refine W.eq (g2 := F0 m 11 ls [.int (-1)]) rfl ?_
  have hP : va_P G.1 vwCl (wM q G.2 (upd (upd (upd (upd mI0 1 0) 2 (-1)) 3 0) 4 0) mJ0 mA0 mB0) H := hP
  have hD : va_D A (wM q G.2 (upd (upd (upd (upd mI0 1 0) 2 (-1)) 3 0) 4 0) mJ0 mA0 mB0) := hD
  refine lv_iload_n hx hb d15_10_11 rfl (lv_at hl 1 rfl) ?_
  refine lv_icmp_ne (tgt := 19) hx hb d15_10_12 rfl (fun _ => ?_) (fun hc => absurd hc (by decide))
  refine lv_iconst (v := 0) hx hb d15_10_19 (by decide) ?_
  exact fin_z hx hb hr hlk (by decide) hS () rfl hP hD (Nat.le_of_ble_eq_true rfl) (Nat.le_of_ble_eq_true rfl) d15_10_20
set_option maxHeartbeats 4000000 in
set_option maxRecDepth 100000 in
theorem a15_13_6 (l : Launch) (G : Gk) (Zd q : Nat → Nat)  (sz : Nat) : Met l y15_13 (Cond.code y15_13 prog_15_method_13_code 1 none :: TB) (rmD 2 0 0) (va_Pc [.ref (q 0)] (pcW G Zd (wM q G.2 (upd (upd (upd (upd mI0 1 0) 2 (-1)) 3 0) 4 0) mJ0 mA0 mB0) sz)) (qV G (fun (_ : Unit) => True) (fun _ => (wM q G.2 (upd (upd (upd (upd mI0 1 0) 2 (-1)) 3 0) 4 0) mJ0 mA0 mB0)) (va_A (wM q G.2 (upd (upd (upd (upd mI0 1 0) 2 (-1)) 3 0) 4 0) mJ0 mA0 mB0) sz)) 0 0 (va_A (wM q G.2 (upd (upd (upd (upd mI0 1 0) 2 (-1)) 3 0) 4 0) mJ0 mA0 mB0) sz) := by
  refine go (Qc := qV G (fun (_ : Unit) => True) (fun _ => (wM q G.2 (upd (upd (upd (upd mI0 1 0) 2 (-1)) 3 0) 4 0) mJ0 mA0 mB0))) "PagedValuesModel" rfl (by decide) (Nat.le_of_ble_eq_true rfl) ?_
  intro p e s m below meth c ls A hx hb hr hlk hml hown hts hin hl hP hD hK hS hA hZ
  have hl : lv_has ls 1 [(0, .ref (q 0))] := hl
  refine lv_aload_n hx hb d15_13_0 rfl (lv_at hl 0 rfl) ?_
  refine lv_bipush (v := 32) hx hb d15_13_1 (by decide) ?_
  refine sV_i (As := [.int 32]) (rest := []) ⟨hx, hb, hml, hown, hts⟩ (a15_10_2 l G Zd q  _) (kw_V (n := 1) hts k1301 k1298 k15 k1300 ks36 (by decide +kernel) ⟨Nat.le_of_ble_eq_true rfl, Nat.le_of_ble_eq_true rfl⟩) hP hD hK hS hA hZ (va_recv (ci := 13) (q0 := 0) hK hP rfl rfl) rfl hl.1 rfl (Nat.le_of_ble_eq_true rfl) d15_13_3 ⟨Nat.le_of_ble_eq_true rfl, Nat.le_of_ble_eq_true rfl⟩ (fun rr u H locs hp hP hD hS => ?_)
  obtain rfl := hp
  refine W.eq (g2 := F0 m 6 ls [.int 0]) rfl ?_
  have hP : va_P G.1 vwCl (wM q G.2 (upd (upd (upd (upd mI0 1 0) 2 (-1)) 3 0) 4 0) mJ0 mA0 mB0) H := hP
  have hD : va_D A (wM q G.2 (upd (upd (upd (upd mI0 1 0) 2 (-1)) 3 0) 4 0) mJ0 mA0 mB0) := hD
  refine lv_if_ne (tgt := 36) hx hb d15_13_6 rfl (fun hc => absurd hc (by decide)) (fun _ => ?_)
  refine lv_aload_n hx hb d15_13_9 rfl (lv_at hl 0 rfl) ?_
  refine lv_bipush (v := 9) hx hb d15_13_10 (by decide) ?_
  refine sV_i (As := [.int 9]) (rest := []) ⟨hx, hb, hml, hown, hts⟩ (a15_10_3 l G Zd q  _) (kw_V (n := 1) hts k1301 k1298 k15 k1300 ks36 (by decide +kernel) ⟨Nat.le_of_ble_eq_true rfl, Nat.le_of_ble_eq_true rfl⟩) hP hD hK hS hA hZ (va_recv (ci := 13) (q0 := 0) hK hP rfl rfl) rfl hl.1 rfl (Nat.le_of_ble_eq_true rfl) d15_13_12 ⟨Nat.le_of_ble_eq_true rfl, Nat.le_of_ble_eq_true rfl⟩ (fun rr u H locs hp hP hD hS => ?_)
  obtain rfl := hp
  refine W.eq (g2 := F0 m 15 ls [.int 0]) rfl ?_
  have hP : va_P G.1 vwCl (wM q G.2 (upd (upd (upd (upd mI0 1 0) 2 (-1)) 3 0) 4 0) mJ0 mA0 mB0) H := hP
  have hD : va_D A (wM q G.2 (upd (upd (upd (upd mI0 1 0) 2 (-1)) 3 0) 4 0) mJ0 mA0 mB0) := hD
  refine lv_if_ne (tgt := 36) hx hb d15_13_15 rfl (fun hc => absurd hc (by decide)) (fun _ => ?_)
  refine lv_aload_n hx hb d15_13_18 rfl (lv_at hl 0 rfl) ?_
  refine lv_bipush (v := 10) hx hb d15_13_19 (by decide) ?_
  refine sV_i (As := [.int 10]) (rest := []) ⟨hx, hb, hml, hown, hts⟩ (a15_10_4 l G Zd q  _) (kw_V (n := 1) hts k1301 k1298 k15 k1300 ks36 (by decide +kernel) ⟨Nat.le_of_ble_eq_true rfl, Nat.le_of_ble_eq_true rfl⟩) hP hD hK hS hA hZ (va_recv (ci := 13) (q0 := 0) hK hP rfl rfl) rfl hl.1 rfl (Nat.le_of_ble_eq_true rfl) d15_13_21 ⟨Nat.le_of_ble_eq_true rfl, Nat.le_of_ble_eq_true rfl⟩ (fun rr u H locs hp hP hD hS => ?_)
  obtain rfl := hp
  refine W.eq (g2 := F0 m 24 ls [.int 0]) rfl ?_
  have hP : va_P G.1 vwCl (wM q G.2 (upd (upd (upd (upd mI0 1 0) 2 (-1)) 3 0) 4 0) mJ0 mA0 mB0) H := hP
  have hD : va_D A (wM q G.2 (upd (upd (upd (upd mI0 1 0) 2 (-1)) 3 0) 4 0) mJ0 mA0 mB0) := hD
  refine lv_if_ne (tgt := 36) hx hb d15_13_24 rfl (fun hc => absurd hc (by decide)) (fun _ => ?_)
  refine lv_aload_n hx hb d15_13_27 rfl (lv_at hl 0 rfl) ?_
  refine lv_bipush (v := 13) hx hb d15_13_28 (by decide) ?_
  refine sV_i (As := [.int 13]) (rest := []) ⟨hx, hb, hml, hown, hts⟩ (a15_10_5 l G Zd q  _) (kw_V (n := 1) hts k1301 k1298 k15 k1300 ks36 (by decide +kernel) ⟨Nat.le_of_ble_eq_true rfl, Nat.le_of_ble_eq_true rfl⟩) hP hD hK hS hA hZ (va_recv (ci := 13) (q0 := 0) hK hP rfl rfl) rfl hl.1 rfl (Nat.le_of_ble_eq_true rfl) d15_13_30 ⟨Nat.le_of_ble_eq_true rfl, Nat.le_of_ble_eq_true rfl⟩ (fun rr u H locs hp hP hD hS => ?_)
  obtain rfl := hp
  refine W.eq (g2 := F0 m 33 ls [.int 0]) rfl ?_
  have hP : va_P G.1 vwCl (wM q G.2 (upd (upd (upd (upd mI0 1 0) 2 (-1)) 3 0) 4 0) mJ0 mA0 mB0) H := hP
  have hD : va_D A (wM q G.2 (upd (upd (upd (upd mI0 1 0) 2 (-1)) 3 0) 4 0) mJ0 mA0 mB0) := hD
  refine lv_if_eq (tgt := 49) hx hb d15_13_33 rfl (fun _ => ?_) (fun hc => absurd hc (by decide))
  exact fin_v hx hb hr hlk hS () trivial hP hD (Nat.le_of_ble_eq_true rfl) (Nat.le_of_ble_eq_true rfl) d15_13_49
set_option maxHeartbeats 4000000 in
set_option maxRecDepth 100000 in
theorem a15_20_7 (l : Launch) (G : Gk) (Zd q : Nat → Nat)  (sz : Nat) : Met l y15_20 (Cond.code y15_20 prog_15_method_20_code 1 (some .int) :: TB) (rmD 0 0 0) (va_Pc [.int 80] (pcW G Zd (wM q G.2 (upd (upd (upd (upd mI0 1 0) 2 (-1)) 3 0) 4 0) mJ0 mA0 mB0) sz)) (qI G (fun rr (_ : Unit) => rr = 1920) (fun _ => (wM q G.2 (upd (upd (upd (upd mI0 1 0) 2 (-1)) 3 0) 4 0) mJ0 mA0 mB0)) (va_A (wM q G.2 (upd (upd (upd (upd mI0 1 0) 2 (-1)) 3 0) 4 0) mJ0 mA0 mB0) sz)) 0 0 (va_A (wM q G.2 (upd (upd (upd (upd mI0 1 0) 2 (-1)) 3 0) 4 0) mJ0 mA0 mB0) sz) := by
  refine go (Qc := qI G (fun rr (_ : Unit) => rr = 1920) (fun _ => (wM q G.2 (upd (upd (upd (upd mI0 1 0) 2 (-1)) 3 0) 4 0) mJ0 mA0 mB0))) "PagedValuesModel" rfl (by decide) (Nat.le_of_ble_eq_true rfl) ?_
  intro p e s m below meth c ls A hx hb hr hlk hml hown hts hin hl hP hD hK hS hA hZ
  have hl : lv_has ls 1 [(0, .int 80)] := hl
  refine lv_iload_n hx hb d15_20_0 rfl (lv_at hl 0 rfl) ?_
  refine lv_bipush (v := 80) hx hb d15_20_1 (by decide) ?_
  refine lv_icmp_ge (tgt := 13) hx hb d15_20_3 rfl (fun _ => ?_) (fun hc => absurd hc (by decide))
  refine lv_sipush (v := 1920) hx hb d15_20_13 (by decide) ?_
  refine lv_bipush (v := 60) hx hb d15_20_16 (by decide) ?_
  refine lv_iload_n hx hb d15_20_18 rfl (lv_at hl 0 rfl) ?_
  refine lv_bipush (v := 80) hx hb d15_20_19 (by decide) ?_
  refine lv_isub hx hb d15_20_21 ?_
  refine W.eq (g2 := F0 m 22 ls [.int 0, .int 60, .int 1920]) rfl ?_
  refine lv_imul hx hb d15_20_22 ?_
  refine W.eq (g2 := F0 m 23 ls [.int 0, .int 1920]) rfl ?_
  refine lv_iadd hx hb d15_20_23 ?_
  refine W.eq (g2 := F0 m 24 ls [.int 1920]) rfl ?_
  exact fin_i hx hb hr hlk hS () rfl hP hD (Nat.le_of_ble_eq_true rfl) (Nat.le_of_ble_eq_true rfl) d15_20_24
set_option maxHeartbeats 4000000 in
set_option maxRecDepth 100000 in
theorem a15_20_8 (l : Launch) (G : Gk) (Zd q : Nat → Nat)  (sz : Nat) : Met l y15_20 (Cond.code y15_20 prog_15_method_20_code 1 (some .int) :: TB) (rmD 0 0 0) (va_Pc [.int 80] (pcW G Zd (wM q G.2 (upd (upd (upd (upd mI0 1 0) 2 (-1)) 3 0) 4 0) mJ0 mA0 (va_up mB0 2 (vp_updL (mB0 2) (1920 : Int32).toNatClampNeg 0))) sz)) (qI G (fun rr (_ : Unit) => rr = 1920) (fun _ => (wM q G.2 (upd (upd (upd (upd mI0 1 0) 2 (-1)) 3 0) 4 0) mJ0 mA0 (va_up mB0 2 (vp_updL (mB0 2) (1920 : Int32).toNatClampNeg 0)))) (va_A (wM q G.2 (upd (upd (upd (upd mI0 1 0) 2 (-1)) 3 0) 4 0) mJ0 mA0 (va_up mB0 2 (vp_updL (mB0 2) (1920 : Int32).toNatClampNeg 0))) sz)) 0 0 (va_A (wM q G.2 (upd (upd (upd (upd mI0 1 0) 2 (-1)) 3 0) 4 0) mJ0 mA0 (va_up mB0 2 (vp_updL (mB0 2) (1920 : Int32).toNatClampNeg 0))) sz) := by
  refine go (Qc := qI G (fun rr (_ : Unit) => rr = 1920) (fun _ => (wM q G.2 (upd (upd (upd (upd mI0 1 0) 2 (-1)) 3 0) 4 0) mJ0 mA0 (va_up mB0 2 (vp_updL (mB0 2) (1920 : Int32).toNatClampNeg 0))))) "PagedValuesModel" rfl (by decide) (Nat.le_of_ble_eq_true rfl) ?_
  intro p e s m below meth c ls A hx hb hr hlk hml hown hts hin hl hP hD hK hS hA hZ
  have hl : lv_has ls 1 [(0, .int 80)] := hl
  refine lv_iload_n hx hb d15_20_0 rfl (lv_at hl 0 rfl) ?_
  refine lv_bipush (v := 80) hx hb d15_20_1 (by decide) ?_
  refine lv_icmp_ge (tgt := 13) hx hb d15_20_3 rfl (fun _ => ?_) (fun hc => absurd hc (by decide))
  refine lv_sipush (v := 1920) hx hb d15_20_13 (by decide) ?_
  refine lv_bipush (v := 60) hx hb d15_20_16 (by decide) ?_
  refine lv_iload_n hx hb d15_20_18 rfl (lv_at hl 0 rfl) ?_
  refine lv_bipush (v := 80) hx hb d15_20_19 (by decide) ?_
  refine lv_isub hx hb d15_20_21 ?_
  refine W.eq (g2 := F0 m 22 ls [.int 0, .int 60, .int 1920]) rfl ?_
  refine lv_imul hx hb d15_20_22 ?_
  refine W.eq (g2 := F0 m 23 ls [.int 0, .int 1920]) rfl ?_
  refine lv_iadd hx hb d15_20_23 ?_
  refine W.eq (g2 := F0 m 24 ls [.int 1920]) rfl ?_
  exact fin_i hx hb hr hlk hS () rfl hP hD (Nat.le_of_ble_eq_true rfl) (Nat.le_of_ble_eq_true rfl) d15_20_24
set_option maxHeartbeats 4000000 in
set_option maxRecDepth 100000 in
theorem a15_23_9 (l : Launch) (G : Gk) (Zd q : Nat → Nat)  (sz : Nat) : Met l y15_23 (Cond.code y15_23 prog_15_method_23_code 5 none :: TB) (rmD 1 0 0) (va_Pc [.ref (q 0), .long 0, .long 0] (pcW G Zd (wM q G.2 (upd (upd (upd (upd mI0 1 0) 2 (-1)) 3 0) 4 0) mJ0 mA0 mB0) sz)) (qV G (fun (_ : Unit) => True) (fun _ => (wM q G.2 (upd (upd (upd (upd mI0 1 0) 2 (-1)) 3 0) 4 0) mJ0 mA0 (va_up (va_up mB0 2 (vp_updL (mB0 2) (1920 : Int32).toNatClampNeg 0)) 3 (vp_updL (mB0 3) (1920 : Int32).toNatClampNeg 0)))) (va_A (wM q G.2 (upd (upd (upd (upd mI0 1 0) 2 (-1)) 3 0) 4 0) mJ0 mA0 mB0) sz)) 0 0 (va_A (wM q G.2 (upd (upd (upd (upd mI0 1 0) 2 (-1)) 3 0) 4 0) mJ0 mA0 mB0) sz) := by
  refine go (Qc := qV G (fun (_ : Unit) => True) (fun _ => (wM q G.2 (upd (upd (upd (upd mI0 1 0) 2 (-1)) 3 0) 4 0) mJ0 mA0 (va_up (va_up mB0 2 (vp_updL (mB0 2) (1920 : Int32).toNatClampNeg 0)) 3 (vp_updL (mB0 3) (1920 : Int32).toNatClampNeg 0))))) "PagedValuesModel" rfl (by decide) (Nat.le_of_ble_eq_true rfl) ?_
  intro p e s m below meth c ls A hx hb hr hlk hml hown hts hin hl hP hD hK hS hA hZ
  have hl : lv_has ls 5 [(0, .ref (q 0)), (1, .long 0), (3, .long 0)] := hl
  refine lv_aload_n hx hb d15_23_0 rfl (lv_at hl 0 rfl) ?_
  refine va_get (D := G.1) (ci := 13) (v := .ref (q 6)) (C := r_13) (T := f_13) (N := 42) (ref := "PagedValuesModel") hx hb hts (fun w h => List.mem_cons_of_mem _ (ly_13 w h)) hown hK hP 0 rfl rfl 8 (by decide) (hts _ (List.mem_cons_of_mem _ k1159)) (fun _ h9 => h9) rfl d15_23_1 ?_
  refine lv_bipush (v := 80) hx hb d15_23_4 (by decide) ?_
  refine sS_i (As := [.int 80]) (rest := [.ref (q 6)]) ⟨hx, hb, hml, hown, hts⟩ (a15_20_7 l G Zd q  _) (kw_S (n := 1) hts k1312 k1310 k15 k1311 (by decide +kernel) ⟨Nat.le_of_ble_eq_true rfl, Nat.le_of_ble_eq_true rfl⟩) hP hD hK hS hA hZ rfl hl.1 rfl (Nat.le_of_ble_eq_true rfl) d15_23_6 ⟨Nat.le_of_ble_eq_true rfl, Nat.le_of_ble_eq_true rfl⟩ (fun rr u H locs hp hP hD hS => ?_)
  obtain rfl := hp
  refine W.eq (g2 := F0 m 9 ls [.int 1920, .ref (q 6)]) rfl ?_
  have hP : va_P G.1 vwCl (wM q G.2 (upd (upd (upd (upd mI0 1 0) 2 (-1)) 3 0) 4 0) mJ0 mA0 mB0) H := hP
  have hD : va_D A (wM q G.2 (upd (upd (upd (upd mI0 1 0) 2 (-1)) 3 0) 4 0) mJ0 mA0 mB0) := hD
  refine lv_aload_n hx hb d15_23_9 rfl (lv_at hl 0 rfl) ?_
  refine va_get (D := G.1) (ci := 13) (v := .int 0) (C := r_13) (T := f_13) (N := 42) (ref := "PagedValuesModel") hx hb hts (fun w h => List.mem_cons_of_mem _ (ly_13 w h)) hown hK hP 0 rfl rfl 10 (by decide) (hts _ (List.mem_cons_of_mem _ k1161)) (fun _ h9 => h9) rfl d15_23_10 ?_
  refine lv_iadd hx hb d15_23_13 ?_
  refine W.eq (g2 := F0 m 14 ls [.int 1920, .ref (q 6)]) rfl ?_
  refine lv_lload_n hx hb d15_23_14 rfl (lv_at hl 1 rfl) ?_
  refine va_last (D := G.1) hx hb hK hP hD hS 6 4 rfl rfl (i := 1920) (x := 0) (by unfold vp_in; decide) d15_23_15 (fun H locs hP hD hS => ?_)
  have hP : va_P G.1 vwCl (wM q G.2 (upd (upd (upd (upd mI0 1 0) 2 (-1)) 3 0) 4 0) mJ0 mA0 (va_up mB0 2 (vp_updL (mB0 2) (1920 : Int32).toNatClampNeg 0))) H := hP
  have hD : va_D A (wM q G.2 (upd (upd (upd (upd mI0 1 0) 2 (-1)) 3 0) 4 0) mJ0 mA0 (va_up mB0 2 (vp_updL (mB0 2) (1920 : Int32).toNatClampNeg 0))) := hD
  refine lv_aload_n hx hb d15_23_16 rfl (lv_at hl 0 rfl) ?_
  refine va_get (D := G.1) (ci := 13) (v := .ref (q 7)) (C := r_13) (T := f_13) (N := 42) (ref := "PagedValuesModel") hx hb hts (fun w h => List.mem_cons_of_mem _ (ly_13 w h)) hown hK hP 0 rfl rfl 9 (by decide) (hts _ (List.mem_cons_of_mem _ k1160)) (fun _ h9 => h9) rfl d15_23_17 ?_
  refine lv_bipush (v := 80) hx hb d15_23_20 (by decide) ?_
  refine sS_i (As := [.int 80]) (rest := [.ref (q 7)]) ⟨hx, hb, hml, hown, hts⟩ (a15_20_8 l G Zd q  _) (kw_S (n := 1) hts k1312 k1310 k15 k1311 (by decide +kernel) ⟨Nat.le_of_ble_eq_true rfl, Nat.le_of_ble_eq_true rfl⟩) hP hD hK hS hA hZ rfl hl.1 rfl (Nat.le_of_ble_eq_true rfl) d15_23_22 ⟨Nat.le_of_ble_eq_true rfl, Nat.le_of_ble_eq_true rfl⟩ (fun rr u H locs hp hP hD hS => ?_)
  obtain rfl := hp
  refine W.eq (g2 := F0 m 25 ls [.int 1920, .ref (q 7)]) rfl ?_
  have hP : va_P G.1 vwCl (wM q G.2 (upd (upd (upd (upd mI0 1 0) 2 (-1)) 3 0) 4 0) mJ0 mA0 (va_up mB0 2 (vp_updL (mB0 2) (1920 : Int32).toNatClampNeg 0))) H := hP
  have hD : va_D A (wM q G.2 (upd (upd (upd (upd mI0 1 0) 2 (-1)) 3 0) 4 0) mJ0 mA0 (va_up mB0 2 (vp_updL (mB0 2) (1920 : Int32).toNatClampNeg 0))) := hD
  refine lv_aload_n hx hb d15_23_25 rfl (lv_at hl 0 rfl) ?_
  refine va_get (D := G.1) (ci := 13) (v := .int 0) (C := r_13) (T := f_13) (N := 42) (ref := "PagedValuesModel") hx hb hts (fun w h => List.mem_cons_of_mem _ (ly_13 w h)) hown hK hP 0 rfl rfl 10 (by decide) (hts _ (List.mem_cons_of_mem _ k1161)) (fun _ h9 => h9) rfl d15_23_26 ?_
  refine lv_iadd hx hb d15_23_29 ?_
  refine W.eq (g2 := F0 m 30 ls [.int 1920, .ref (q 7)]) rfl ?_
  refine lv_lload_n hx hb d15_23_30 rfl (lv_at hl 2 rfl) ?_
  refine va_last (D := G.1) hx hb hK hP hD hS 7 4 rfl rfl (i := 1920) (x := 0) (by unfold vp_in; decide) d15_23_31 (fun H locs hP hD hS => ?_)
  have hP : va_P G.1 vwCl (wM q G.2 (upd (upd (upd (upd mI0 1 0) 2 (-1)) 3 0) 4 0) mJ0 mA0 (va_up (va_up mB0 2 (vp_updL (mB0 2) (1920 : Int32).toNatClampNeg 0)) 3 (vp_updL (mB0 3) (1920 : Int32).toNatClampNeg 0))) H := hP
  have hD : va_D A (wM q G.2 (upd (upd (upd (upd mI0 1 0) 2 (-1)) 3 0) 4 0) mJ0 mA0 (va_up (va_up mB0 2 (vp_updL (mB0 2) (1920 : Int32).toNatClampNeg 0)) 3 (vp_updL (mB0 3) (1920 : Int32).toNatClampNeg 0))) := hD
  exact fin_v hx hb hr hlk hS () trivial hP hD (Nat.le_of_ble_eq_true rfl) (Nat.le_of_ble_eq_true rfl) d15_23_32
set_option maxHeartbeats 4000000 in
set_option maxRecDepth 100000 in
theorem a15_7_10 (l : Launch) (G : Gk) (Zd q : Nat → Nat)  (sz : Nat) : Met l y15_7 (Cond.code y15_7 prog_15_method_7_code 1 (some .int) :: TB) (rmD 0 0 0) (va_Pc [.ref (q 0)] (pcW G Zd (wM q G.2 (upd (upd (upd (upd mI0 1 0) 2 (-1)) 3 0) 4 0) mJ0 mA0 (va_up (va_up mB0 2 (vp_updL (mB0 2) (1920 : Int32).toNatClampNeg 0)) 3 (vp_updL (mB0 3) (1920 : Int32).toNatClampNeg 0))) sz)) (qI G (fun rr (_ : Unit) => rr = (-1)) (fun _ => (wM q G.2 (upd (upd (upd (upd mI0 1 0) 2 (-1)) 3 0) 4 0) mJ0 mA0 (va_up (va_up mB0 2 (vp_updL (mB0 2) (1920 : Int32).toNatClampNeg 0)) 3 (vp_updL (mB0 3) (1920 : Int32).toNatClampNeg 0)))) (va_A (wM q G.2 (upd (upd (upd (upd mI0 1 0) 2 (-1)) 3 0) 4 0) mJ0 mA0 (va_up (va_up mB0 2 (vp_updL (mB0 2) (1920 : Int32).toNatClampNeg 0)) 3 (vp_updL (mB0 3) (1920 : Int32).toNatClampNeg 0))) sz)) 0 0 (va_A (wM q G.2 (upd (upd (upd (upd mI0 1 0) 2 (-1)) 3 0) 4 0) mJ0 mA0 (va_up (va_up mB0 2 (vp_updL (mB0 2) (1920 : Int32).toNatClampNeg 0)) 3 (vp_updL (mB0 3) (1920 : Int32).toNatClampNeg 0))) sz) := by
  refine go (Qc := qI G (fun rr (_ : Unit) => rr = (-1)) (fun _ => (wM q G.2 (upd (upd (upd (upd mI0 1 0) 2 (-1)) 3 0) 4 0) mJ0 mA0 (va_up (va_up mB0 2 (vp_updL (mB0 2) (1920 : Int32).toNatClampNeg 0)) 3 (vp_updL (mB0 3) (1920 : Int32).toNatClampNeg 0))))) "PagedValuesModel" rfl (by decide) (Nat.le_of_ble_eq_true rfl) ?_
  intro p e s m below meth c ls A hx hb hr hlk hml hown hts hin hl hP hD hK hS hA hZ
  have hl : lv_has ls 1 [(0, .ref (q 0))] := hl
  refine lv_aload_n hx hb d15_7_0 rfl (lv_at hl 0 rfl) ?_
  refine va_get (D := G.1) (ci := 13) (v := .int 0) (C := r_13) (T := f_13) (N := 42) (ref := "PagedValuesModel") hx hb hts (fun w h => List.mem_cons_of_mem _ (ly_13 w h)) hown hK hP 0 rfl rfl 2 (by decide) (hts _ (List.mem_cons_of_mem _ k1153)) (fun _ h9 => h9) rfl d15_7_1 ?_
  refine lv_aload_n hx hb d15_7_4 rfl (lv_at hl 0 rfl) ?_
  refine va_get (D := G.1) (ci := 13) (v := .int 0) (C := r_13) (T := f_13) (N := 42) (ref := "PagedValuesModel") hx hb hts (fun w h => List.mem_cons_of_mem _ (ly_13 w h)) hown hK hP 0 rfl rfl 1 (by decide) (hts _ (List.mem_cons_of_mem _ k1152)) (fun _ h9 => h9) rfl d15_7_5 ?_
  refine lv_icmp_ge (tgt := 23) hx hb d15_7_8 rfl (fun _ => ?_) (fun hc => absurd hc (by decide))
  refine lv_iconst (v := (-1)) hx hb d15_7_23 (by decide) ?_
  exact fin_i hx hb hr hlk hS () rfl hP hD (Nat.le_of_ble_eq_true rfl) (Nat.le_of_ble_eq_true rfl) d15_7_24
set_option maxHeartbeats 4000000 in
set_option maxRecDepth 100000 in
theorem a15_10_11 (l : Launch) (G : Gk) (Zd q : Nat → Nat)  (sz : Nat) : Met l y15_10 (Cond.code y15_10 prog_15_method_10_code 2 (some .boolean) :: TB) (rmD 1 0 0) (va_Pc [.ref (q 0), .int 91] (pcW G Zd (wM q G.2 (upd (upd (upd (upd mI0 1 0) 2 (-1)) 3 0) 4 0) mJ0 mA0 (va_up (va_up mB0 2 (vp_updL (mB0 2) (1920 : Int32).toNatClampNeg 0)) 3 (vp_updL (mB0 3) (1920 : Int32).toNatClampNeg 0))) sz)) (qI G (fun rr (_ : Unit) => rr = 0) (fun _ => (wM q G.2 (upd (upd (upd (upd mI0 1 0) 2 (-1)) 3 0) 4 0) mJ0 mA0 (va_up (va_up mB0 2 (vp_updL (mB0 2) (1920 : Int32).toNatClampNeg 0)) 3 (vp_updL (mB0 3) (1920 : Int32).toNatClampNeg 0)))) (va_A (wM q G.2 (upd (upd (upd (upd mI0 1 0) 2 (-1)) 3 0) 4 0) mJ0 mA0 (va_up (va_up mB0 2 (vp_updL (mB0 2) (1920 : Int32).toNatClampNeg 0)) 3 (vp_updL (mB0 3) (1920 : Int32).toNatClampNeg 0))) sz)) 0 0 (va_A (wM q G.2 (upd (upd (upd (upd mI0 1 0) 2 (-1)) 3 0) 4 0) mJ0 mA0 (va_up (va_up mB0 2 (vp_updL (mB0 2) (1920 : Int32).toNatClampNeg 0)) 3 (vp_updL (mB0 3) (1920 : Int32).toNatClampNeg 0))) sz) := by
  refine go (Qc := qI G (fun rr (_ : Unit) => rr = 0) (fun _ => (wM q G.2 (upd (upd (upd (upd mI0 1 0) 2 (-1)) 3 0) 4 0) mJ0 mA0 (va_up (va_up mB0 2 (vp_updL (mB0 2) (1920 : Int32).toNatClampNeg 0)) 3 (vp_updL (mB0 3) (1920 : Int32).toNatClampNeg 0))))) "PagedValuesModel" rfl (by decide) (Nat.le_of_ble_eq_true rfl) ?_
  intro p e s m below meth c ls A hx hb hr hlk hml hown hts hin hl hP hD hK hS hA hZ
  have hl : lv_has ls 2 [(0, .ref (q 0)), (1, .int 91)] := hl
  refine lv_aload_n hx hb d15_10_0 rfl (lv_at hl 0 rfl) ?_
  refine va_get (D := G.1) (ci := 13) (v := .int (-1)) (C := r_13) (T := f_13) (N := 42) (ref := "PagedValuesModel") hx hb hts (fun w h => List.mem_cons_of_mem _ (ly_13 w h)) hown hK hP 0 rfl rfl 3 (by decide) (hts _ (List.mem_cons_of_mem _ k1154)) (fun _ h9 => h9) rfl d15_10_1 ?_
  refine lv_if_ge (tgt := 19) hx hb d15_10_4 rfl (fun hc => absurd hc (by decide)) (fun _ => ?_)
  refine lv_aload_n hx hb d15_10_7 rfl (lv_at hl 0 rfl) ?_
  refine sV_i (As := []) (rest := []) ⟨hx, hb, hml, hown, hts⟩ (a15_7_10 l G Zd q  _) (kw_V (n := 0) hts k1305 k1302 k15 k1304 ks37 (by decide +kernel) ⟨Nat.le_of_ble_eq_true rfl, Nat.le_of_ble_eq_true rfl⟩) hP hD hK hS hA hZ (va_recv (ci := 13) (q0 := 0) hK hP rfl rfl) rfl hl.1 rfl (Nat.le_of_ble_eq_true rfl) d15_10_8 ⟨Nat.le_of_ble_eq_true rfl, Nat.le_of_ble_eq_true rfl⟩ (fun rr u H locs hp hP hD hS => ?_)
  obtain rfl := hp
  refine W.eq (g2 := F0 m 11 ls [.int (-1)]) rfl ?_
  have hP : va_P G.1 vwCl (wM q G.2 (upd (upd (upd (upd mI0 1 0) 2 (-1)) 3 0) 4 0) mJ0 mA0 (va_up (va_up mB0 2 (vp_updL (mB0 2) (1920 : Int32).toNatClampNeg 0)) 3 (vp_updL (mB0 3) (1920 : Int32).toNatClampNeg 0))) H := hP
  have hD : va_D A (wM q G.2 (upd (upd (upd (upd mI0 1 0) 2 (-1)) 3 0) 4 0) mJ0 mA0 (va_up (va_up mB0 2 (vp_updL (mB0 2) (1920 : Int32).toNatClampNeg 0)) 3 (vp_updL (mB0 3) (1920 : Int32).toNatClampNeg 0))) := hD
  refine lv_iload_n hx hb d15_10_11 rfl (lv_at hl 1 rfl) ?_
  refine lv_icmp_ne (tgt := 19) hx hb d15_10_12 rfl (fun _ => ?_) (fun hc => absurd hc (by decide))
  refine lv_iconst (v := 0) hx hb d15_10_19 (by decide) ?_
  exact fin_z hx hb hr hlk (by decide) hS () rfl hP hD (Nat.le_of_ble_eq_true rfl) (Nat.le_of_ble_eq_true rfl) d15_10_20
set_option maxHeartbeats 4000000 in
set_option maxRecDepth 100000 in
theorem a15_10_12 (l : Launch) (G : Gk) (Zd q : Nat → Nat)  (sz : Nat) : Met l y15_10 (Cond.code y15_10 prog_15_method_10_code 2 (some .boolean) :: TB) (rmD 1 0 0) (va_Pc [.ref (q 0), .int 123] (pcW G Zd (wM q G.2 (upd (upd (upd (upd mI0 1 0) 2 (-1)) 3 0) 4 0) mJ0 mA0 (va_up (va_up mB0 2 (vp_updL (mB0 2) (1920 : Int32).toNatClampNeg 0)) 3 (vp_updL (mB0 3) (1920 : Int32).toNatClampNeg 0))) sz)) (qI G (fun rr (_ : Unit) => rr = 0) (fun _ => (wM q G.2 (upd (upd (upd (upd mI0 1 0) 2 (-1)) 3 0) 4 0) mJ0 mA0 (va_up (va_up mB0 2 (vp_updL (mB0 2) (1920 : Int32).toNatClampNeg 0)) 3 (vp_updL (mB0 3) (1920 : Int32).toNatClampNeg 0)))) (va_A (wM q G.2 (upd (upd (upd (upd mI0 1 0) 2 (-1)) 3 0) 4 0) mJ0 mA0 (va_up (va_up mB0 2 (vp_updL (mB0 2) (1920 : Int32).toNatClampNeg 0)) 3 (vp_updL (mB0 3) (1920 : Int32).toNatClampNeg 0))) sz)) 0 0 (va_A (wM q G.2 (upd (upd (upd (upd mI0 1 0) 2 (-1)) 3 0) 4 0) mJ0 mA0 (va_up (va_up mB0 2 (vp_updL (mB0 2) (1920 : Int32).toNatClampNeg 0)) 3 (vp_updL (mB0 3) (1920 : Int32).toNatClampNeg 0))) sz) := by
  refine go (Qc := qI G (fun rr (_ : Unit) => rr = 0) (fun _ => (wM q G.2 (upd (upd (upd (upd mI0 1 0) 2 (-1)) 3 0) 4 0) mJ0 mA0 (va_up (va_up mB0 2 (vp_updL (mB0 2) (1920 : Int32).toNatClampNeg 0)) 3 (vp_updL (mB0 3) (1920 : Int32).toNatClampNeg 0))))) "PagedValuesModel" rfl (by decide) (Nat.le_of_ble_eq_true rfl) ?_
  intro p e s m below meth c ls A hx hb hr hlk hml hown hts hin hl hP hD hK hS hA hZ
  have hl : lv_has ls 2 [(0, .ref (q 0)), (1, .int 123)] := hl
  refine lv_aload_n hx hb d15_10_0 rfl (lv_at hl 0 rfl) ?_
  refine va_get (D := G.1) (ci := 13) (v := .int (-1)) (C := r_13) (T := f_13) (N := 42) (ref := "PagedValuesModel") hx hb hts (fun w h => List.mem_cons_of_mem _ (ly_13 w h)) hown hK hP 0 rfl rfl 3 (by decide) (hts _ (List.mem_cons_of_mem _ k1154)) (fun _ h9 => h9) rfl d15_10_1 ?_
  refine lv_if_ge (tgt := 19) hx hb d15_10_4 rfl (fun hc => absurd hc (by decide)) (fun _ => ?_)
  refine lv_aload_n hx hb d15_10_7 rfl (lv_at hl 0 rfl) ?_
  refine sV_i (As := []) (rest := []) ⟨hx, hb, hml, hown, hts⟩ (a15_7_10 l G Zd q  _) (kw_V (n := 0) hts k1305 k1302 k15 k1304 ks37 (by decide +kernel) ⟨Nat.le_of_ble_eq_true rfl, Nat.le_of_ble_eq_true rfl⟩) hP hD hK hS hA hZ (va_recv (ci := 13) (q0 := 0) hK hP rfl rfl) rfl hl.1 rfl (Nat.le_of_ble_eq_true rfl) d15_10_8 ⟨Nat.le_of_ble_eq_true rfl, Nat.le_of_ble_eq_true rfl⟩ (fun rr u H locs hp hP hD hS => ?_)
  obtain rfl := hp
  refine W.eq (g2 := F0 m 11 ls [.int (-1)]) rfl ?_
  have hP : va_P G.1 vwCl (wM q G.2 (upd (upd (upd (upd mI0 1 0) 2 (-1)) 3 0) 4 0) mJ0 mA0 (va_up (va_up mB0 2 (vp_updL (mB0 2) (1920 : Int32).toNatClampNeg 0)) 3 (vp_updL (mB0 3) (1920 : Int32).toNatClampNeg 0))) H := hP
  have hD : va_D A (wM q G.2 (upd (upd (upd (upd mI0 1 0) 2 (-1)) 3 0) 4 0) mJ0 mA0 (va_up (va_up mB0 2 (vp_updL (mB0 2) (1920 : Int32).toNatClampNeg 0)) 3 (vp_updL (mB0 3) (1920 : Int32).toNatClampNeg 0))) := hD
  refine lv_iload_n hx hb d15_10_11 rfl (lv_at hl 1 rfl) ?_
  refine lv_icmp_ne (tgt := 19) hx hb d15_10_12 rfl (fun _ => ?_) (fun hc => absurd hc (by decide))
  refine lv_iconst (v := 0) hx hb d15_10_19 (by decide) ?_
  exact fin_z hx hb hr hlk (by decide) hS () rfl hP hD (Nat.le_of_ble_eq_true rfl) (Nat.le_of_ble_eq_true rfl) d15_10_20
set_option maxHeartbeats 4000000 in
set_option maxRecDepth 100000 in
theorem a15_12_13 (l : Launch) (G : Gk) (Zd q : Nat → Nat)  (sz : Nat) : Met l y15_12 (Cond.code y15_12 prog_15_method_12_code 1 (some .boolean) :: TB) (rmD 0 0 0) (va_Pc [.int (-1)] (pcW G Zd (wM q G.2 (upd (upd (upd (upd mI0 1 0) 2 (-1)) 3 0) 4 0) mJ0 mA0 (va_up (va_up mB0 2 (vp_updL (mB0 2) (1920 : Int32).toNatClampNeg 0)) 3 (vp_updL (mB0 3) (1920 : Int32).toNatClampNeg 0))) sz)) (qI G (fun rr (_ : Unit) => rr = 0) (fun _ => (wM q G.2 (upd (upd (upd (upd mI0 1 0) 2 (-1)) 3 0) 4 0) mJ0 mA0 (va_up (va_up mB0 2 (vp_updL (mB0 2) (1920 : Int32).toNatClampNeg 0)) 3 (vp_updL (mB0 3) (1920 : Int32).toNatClampNeg 0)))) (va_A (wM q G.2 (upd (upd (upd (upd mI0 1 0) 2 (-1)) 3 0) 4 0) mJ0 mA0 (va_up (va_up mB0 2 (vp_updL (mB0 2) (1920 : Int32).toNatClampNeg 0)) 3 (vp_updL (mB0 3) (1920 : Int32).toNatClampNeg 0))) sz)) 0 0 (va_A (wM q G.2 (upd (upd (upd (upd mI0 1 0) 2 (-1)) 3 0) 4 0) mJ0 mA0 (va_up (va_up mB0 2 (vp_updL (mB0 2) (1920 : Int32).toNatClampNeg 0)) 3 (vp_updL (mB0 3) (1920 : Int32).toNatClampNeg 0))) sz) := by
  refine go (Qc := qI G (fun rr (_ : Unit) => rr = 0) (fun _ => (wM q G.2 (upd (upd (upd (upd mI0 1 0) 2 (-1)) 3 0) 4 0) mJ0 mA0 (va_up (va_up mB0 2 (vp_updL (mB0 2) (1920 : Int32).toNatClampNeg 0)) 3 (vp_updL (mB0 3) (1920 : Int32).toNatClampNeg 0))))) "PagedValuesModel" rfl (by decide) (Nat.le_of_ble_eq_true rfl) ?_
  intro p e s m below meth c ls A hx hb hr hlk hml hown hts hin hl hP hD hK hS hA hZ
  have hl : lv_has ls 1 [(0, .int (-1))] := hl
  refine lv_iload_n hx hb d15_12_0 rfl (lv_at hl 0 rfl) ?_
  refine lv_bipush (v := 48) hx hb d15_12_1 (by decide) ?_
  refine lv_icmp_lt (tgt := 16) hx hb d15_12_3 rfl (fun _ => ?_) (fun hc => absurd hc (by decide))
  refine lv_iconst (v := 0) hx hb d15_12_16 (by decide) ?_
  exact fin_z hx hb hr hlk (by decide) hS () rfl hP hD (Nat.le_of_ble_eq_true rfl) (Nat.le_of_ble_eq_true rfl) d15_12_17
set_option maxHeartbeats 4000000 in
set_option maxRecDepth 100000 in
theorem a15_6_14 (l : Launch) (G : Gk) (Zd q : Nat → Nat)  (sz : Nat) : Met l y15_6 (Cond.code y15_6 prog_15_method_6_code 1 none :: TB) (rmD 0 0 0) (va_Pc [.ref (q 0)] (pcW G Zd (wM q G.2 (upd (upd (upd (upd mI0 1 0) 2 (-1)) 3 0) 4 0) mJ0 mA0 (va_up (va_up mB0 2 (vp_updL (mB0 2) (1920 : Int32).toNatClampNeg 0)) 3 (vp_updL (mB0 3) (1920 : Int32).toNatClampNeg 0))) sz)) (qV G (fun (_ : Unit) => True) (fun _ => (wM q G.2 (upd (upd (upd (upd mI0 1 0) 2 (-1)) 3 0) 4 0) (vp_updL (vp_updL mJ0 0 0) 1 0) mA0 (va_up (va_up mB0 2 (vp_updL (mB0 2) (1920 : Int32).toNatClampNeg 0)) 3 (vp_updL (mB0 3) (1920 : Int32).toNatClampNeg 0)))) (va_A (wM q G.2 (upd (upd (upd (upd mI0 1 0) 2 (-1)) 3 0) 4 0) mJ0 mA0 (va_up (va_up mB0 2 (vp_updL (mB0 2) (1920 : Int32).toNatClampNeg 0)) 3 (vp_updL (mB0 3) (1920 : Int32).toNatClampNeg 0))) sz)) 0 0 (va_A (wM q G.2 (upd (upd (upd (upd mI0 1 0) 2 (-1)) 3 0) 4 0) mJ0 mA0 (va_up (va_up mB0 2 (vp_updL (mB0 2) (1920 : Int32).toNatClampNeg 0)) 3 (vp_updL (mB0 3) (1920 : Int32).toNatClampNeg 0))) sz) := by
  refine go (Qc := qV G (fun (_ : Unit) => True) (fun _ => (wM q G.2 (upd (upd (upd (upd mI0 1 0) 2 (-1)) 3 0) 4 0) (vp_updL (vp_updL mJ0 0 0) 1 0) mA0 (va_up (va_up mB0 2 (vp_updL (mB0 2) (1920 : Int32).toNatClampNeg 0)) 3 (vp_updL (mB0 3) (1920 : Int32).toNatClampNeg 0))))) "PagedValuesModel" rfl (by decide) (Nat.le_of_ble_eq_true rfl) ?_
  intro p e s m below meth c ls A hx hb hr hlk hml hown hts hin hl hP hD hK hS hA hZ
  have hl : lv_has ls 1 [(0, .ref (q 0))] := hl
  refine lv_aload_n hx hb d15_6_0 rfl (lv_at hl 0 rfl) ?_
  refine lv_lconst (v := 0) hx hb d15_6_1 (by decide) ?_
  refine va_put (D := G.1) (ci := 13) (v := .long 0) (ty := .long) (C := r_13) (T := f_13) (N := 42) (ref := "PagedValuesModel") hx hb hts (fun w h => List.mem_cons_of_mem _ (ly_13 w h)) ft_13 ft_13_ok nm_13 hown hK hP hD hS 0 rfl rfl 11 (by decide) (hts _ (List.mem_cons_of_mem _ k1162)) (fun _ h9 => h9) rfl (by decide +kernel) rfl rfl (Nat.le_of_ble_eq_true rfl) d15_6_2 (fun H locs hP hD hS => ?_)
  have hP : va_P G.1 vwCl (wM q G.2 (upd (upd (upd (upd mI0 1 0) 2 (-1)) 3 0) 4 0) (vp_updL mJ0 0 0) mA0 (va_up (va_up mB0 2 (vp_updL (mB0 2) (1920 : Int32).toNatClampNeg 0)) 3 (vp_updL (mB0 3) (1920 : Int32).toNatClampNeg 0))) H := hP
  have hD : va_D A (wM q G.2 (upd (upd (upd (upd mI0 1 0) 2 (-1)) 3 0) 4 0) (vp_updL mJ0 0 0) mA0 (va_up (va_up mB0 2 (vp_updL (mB0 2) (1920 : Int32).toNatClampNeg 0)) 3 (vp_updL (mB0 3) (1920 : Int32).toNatClampNeg 0))) := hD
  refine lv_aload_n hx hb d15_6_5 rfl (lv_at hl 0 rfl) ?_
  refine lv_lconst (v := 0) hx hb d15_6_6 (by decide) ?_
  refine va_put (D := G.1) (ci := 13) (v := .long 0) (ty := .long) (C := r_13) (T := f_13) (N := 42) (ref := "PagedValuesModel") hx hb hts (fun w h => List.mem_cons_of_mem _ (ly_13 w h)) ft_13 ft_13_ok nm_13 hown hK hP hD hS 0 rfl rfl 12 (by decide) (hts _ (List.mem_cons_of_mem _ k1163)) (fun _ h9 => h9) rfl (by decide +kernel) rfl rfl (Nat.le_of_ble_eq_true rfl) d15_6_7 (fun H locs hP hD hS => ?_)
  have hP : va_P G.1 vwCl (wM q G.2 (upd (upd (upd (upd mI0 1 0) 2 (-1)) 3 0) 4 0) (vp_updL (vp_updL mJ0 0 0) 1 0) mA0 (va_up (va_up mB0 2 (vp_updL (mB0 2) (1920 : Int32).toNatClampNeg 0)) 3 (vp_updL (mB0 3) (1920 : Int32).toNatClampNeg 0))) H := hP
  have hD : va_D A (wM q G.2 (upd (upd (upd (upd mI0 1 0) 2 (-1)) 3 0) 4 0) (vp_updL (vp_updL mJ0 0 0) 1 0) mA0 (va_up (va_up mB0 2 (vp_updL (mB0 2) (1920 : Int32).toNatClampNeg 0)) 3 (vp_updL (mB0 3) (1920 : Int32).toNatClampNeg 0))) := hD
  exact fin_v hx hb hr hlk hS () trivial hP hD (Nat.le_of_ble_eq_true rfl) (Nat.le_of_ble_eq_true rfl) d15_6_10
set_option maxHeartbeats 4000000 in
set_option maxRecDepth 100000 in
theorem a15_7_15 (l : Launch) (G : Gk) (Zd q : Nat → Nat)  (sz : Nat) : Met l y15_7 (Cond.code y15_7 prog_15_method_7_code 1 (some .int) :: TB) (rmD 0 0 0) (va_Pc [.ref (q 0)] (pcW G Zd (wM q G.2 (upd (upd (upd (upd mI0 1 0) 2 (-1)) 3 0) 4 0) (vp_updL (vp_updL mJ0 0 0) 1 0) mA0 (va_up (va_up mB0 2 (vp_updL (mB0 2) (1920 : Int32).toNatClampNeg 0)) 3 (vp_updL (mB0 3) (1920 : Int32).toNatClampNeg 0))) sz)) (qI G (fun rr (_ : Unit) => rr = (-1)) (fun _ => (wM q G.2 (upd (upd (upd (upd mI0 1 0) 2 (-1)) 3 0) 4 0) (vp_updL (vp_updL mJ0 0 0) 1 0) mA0 (va_up (va_up mB0 2 (vp_updL (mB0 2) (1920 : Int32).toNatClampNeg 0)) 3 (vp_updL (mB0 3) (1920 : Int32).toNatClampNeg 0)))) (va_A (wM q G.2 (upd (upd (upd (upd mI0 1 0) 2 (-1)) 3 0) 4 0) (vp_updL (vp_updL mJ0 0 0) 1 0) mA0 (va_up (va_up mB0 2 (vp_updL (mB0 2) (1920 : Int32).toNatClampNeg 0)) 3 (vp_updL (mB0 3) (1920 : Int32).toNatClampNeg 0))) sz)) 0 0 (va_A (wM q G.2 (upd (upd (upd (upd mI0 1 0) 2 (-1)) 3 0) 4 0) (vp_updL (vp_updL mJ0 0 0) 1 0) mA0 (va_up (va_up mB0 2 (vp_updL (mB0 2) (1920 : Int32).toNatClampNeg 0)) 3 (vp_updL (mB0 3) (1920 : Int32).toNatClampNeg 0))) sz) := by
  refine go (Qc := qI G (fun rr (_ : Unit) => rr = (-1)) (fun _ => (wM q G.2 (upd (upd (upd (upd mI0 1 0) 2 (-1)) 3 0) 4 0) (vp_updL (vp_updL mJ0 0 0) 1 0) mA0 (va_up (va_up mB0 2 (vp_updL (mB0 2) (1920 : Int32).toNatClampNeg 0)) 3 (vp_updL (mB0 3) (1920 : Int32).toNatClampNeg 0))))) "PagedValuesModel" rfl (by decide) (Nat.le_of_ble_eq_true rfl) ?_
  intro p e s m below meth c ls A hx hb hr hlk hml hown hts hin hl hP hD hK hS hA hZ
  have hl : lv_has ls 1 [(0, .ref (q 0))] := hl
  refine lv_aload_n hx hb d15_7_0 rfl (lv_at hl 0 rfl) ?_
  refine va_get (D := G.1) (ci := 13) (v := .int 0) (C := r_13) (T := f_13) (N := 42) (ref := "PagedValuesModel") hx hb hts (fun w h => List.mem_cons_of_mem _ (ly_13 w h)) hown hK hP 0 rfl rfl 2 (by decide) (hts _ (List.mem_cons_of_mem _ k1153)) (fun _ h9 => h9) rfl d15_7_1 ?_
  refine lv_aload_n hx hb d15_7_4 rfl (lv_at hl 0 rfl) ?_
  refine va_get (D := G.1) (ci := 13) (v := .int 0) (C := r_13) (T := f_13) (N := 42) (ref := "PagedValuesModel") hx hb hts (fun w h => List.mem_cons_of_mem _ (ly_13 w h)) hown hK hP 0 rfl rfl 1 (by decide) (hts _ (List.mem_cons_of_mem _ k1152)) (fun _ h9 => h9) rfl d15_7_5 ?_
  refine lv_icmp_ge (tgt := 23) hx hb d15_7_8 rfl (fun _ => ?_) (fun hc => absurd hc (by decide))
  refine lv_iconst (v := (-1)) hx hb d15_7_23 (by decide) ?_
  exact fin_i hx hb hr hlk hS () rfl hP hD (Nat.le_of_ble_eq_true rfl) (Nat.le_of_ble_eq_true rfl) d15_7_24
set_option maxHeartbeats 4000000 in
set_option maxRecDepth 100000 in
theorem a15_8_16 (l : Launch) (G : Gk) (Zd q : Nat → Nat)  (sz : Nat) : Met l y15_8 (Cond.code y15_8 prog_15_method_8_code 1 none :: TB) (rmD 0 0 0) (va_Pc [.ref (q 0)] (pcW G Zd (wM q G.2 (upd (upd (upd (upd mI0 1 0) 2 (-1)) 3 0) 4 0) (vp_updL (vp_updL mJ0 0 0) 1 0) mA0 (va_up (va_up mB0 2 (vp_updL (mB0 2) (1920 : Int32).toNatClampNeg 0)) 3 (vp_updL (mB0 3) (1920 : Int32).toNatClampNeg 0))) sz)) (qV G (fun (_ : Unit) => True) (fun _ => (wM q G.2 (upd (upd (upd (upd mI0 1 0) 3 0) 4 0) 2 0) (vp_updL (vp_updL mJ0 0 0) 1 0) mA0 (va_up (va_up mB0 2 (vp_updL (mB0 2) (1920 : Int32).toNatClampNeg 0)) 3 (vp_updL (mB0 3) (1920 : Int32).toNatClampNeg 0)))) (va_A (wM q G.2 (upd (upd (upd (upd mI0 1 0) 2 (-1)) 3 0) 4 0) (vp_updL (vp_updL mJ0 0 0) 1 0) mA0 (va_up (va_up mB0 2 (vp_updL (mB0 2) (1920 : Int32).toNatClampNeg 0)) 3 (vp_updL (mB0 3) (1920 : Int32).toNatClampNeg 0))) sz)) 0 0 (va_A (wM q G.2 (upd (upd (upd (upd mI0 1 0) 2 (-1)) 3 0) 4 0) (vp_updL (vp_updL mJ0 0 0) 1 0) mA0 (va_up (va_up mB0 2 (vp_updL (mB0 2) (1920 : Int32).toNatClampNeg 0)) 3 (vp_updL (mB0 3) (1920 : Int32).toNatClampNeg 0))) sz) := by
  refine go (Qc := qV G (fun (_ : Unit) => True) (fun _ => (wM q G.2 (upd (upd (upd (upd mI0 1 0) 3 0) 4 0) 2 0) (vp_updL (vp_updL mJ0 0 0) 1 0) mA0 (va_up (va_up mB0 2 (vp_updL (mB0 2) (1920 : Int32).toNatClampNeg 0)) 3 (vp_updL (mB0 3) (1920 : Int32).toNatClampNeg 0))))) "PagedValuesModel" rfl (by decide) (Nat.le_of_ble_eq_true rfl) ?_
  intro p e s m below meth c ls A hx hb hr hlk hml hown hts hin hl hP hD hK hS hA hZ
  have hl : lv_has ls 1 [(0, .ref (q 0))] := hl
  refine lv_aload_n hx hb d15_8_0 rfl (lv_at hl 0 rfl) ?_
  refine lv_aload_n hx hb d15_8_1 rfl (lv_at hl 0 rfl) ?_
  refine va_get (D := G.1) (ci := 13) (v := .int (-1)) (C := r_13) (T := f_13) (N := 42) (ref := "PagedValuesModel") hx hb hts (fun w h => List.mem_cons_of_mem _ (ly_13 w h)) hown hK hP 0 rfl rfl 3 (by decide) (hts _ (List.mem_cons_of_mem _ k1154)) (fun _ h9 => h9) rfl d15_8_2 ?_
  refine lv_if_ge (tgt := 15) hx hb d15_8_5 rfl (fun hc => absurd hc (by decide)) (fun _ => ?_)
  refine lv_aload_n hx hb d15_8_8 rfl (lv_at hl 0 rfl) ?_
  refine va_get (D := G.1) (ci := 13) (v := .int 0) (C := r_13) (T := f_13) (N := 42) (ref := "PagedValuesModel") hx hb hts (fun w h => List.mem_cons_of_mem _ (ly_13 w h)) hown hK hP 0 rfl rfl 2 (by decide) (hts _ (List.mem_cons_of_mem _ k1153)) (fun _ h9 => h9) rfl d15_8_9 ?_
  refine lv_goto (tgt := 19) hx hb d15_8_12 rfl ?_
  refine va_put (D := G.1) (ci := 13) (v := .int 0) (ty := .int) (C := r_13) (T := f_13) (N := 42) (ref := "PagedValuesModel") hx hb hts (fun w h => List.mem_cons_of_mem _ (ly_13 w h)) ft_13 ft_13_ok nm_13 hown hK hP hD hS 0 rfl rfl 3 (by decide) (hts _ (List.mem_cons_of_mem _ k1154)) (fun _ h9 => h9) rfl (by decide +kernel) rfl rfl (Nat.le_of_ble_eq_true rfl) d15_8_19 (fun H locs hP hD hS => ?_)
  have hP : va_P G.1 vwCl (wM q G.2 (upd (upd (upd (upd mI0 1 0) 3 0) 4 0) 2 0) (vp_updL (vp_updL mJ0 0 0) 1 0) mA0 (va_up (va_up mB0 2 (vp_updL (mB0 2) (1920 : Int32).toNatClampNeg 0)) 3 (vp_updL (mB0 3) (1920 : Int32).toNatClampNeg 0))) H := hP
  have hD : va_D A (wM q G.2 (upd (upd (upd (upd mI0 1 0) 3 0) 4 0) 2 0) (vp_updL (vp_updL mJ0 0 0) 1 0) mA0 (va_up (va_up mB0 2 (vp_updL (mB0 2) (1920 : Int32).toNatClampNeg 0)) 3 (vp_updL (mB0 3) (1920 : Int32).toNatClampNeg 0))) := hD
  exact fin_v hx hb hr hlk hS () trivial hP hD (Nat.le_of_ble_eq_true rfl) (Nat.le_of_ble_eq_true rfl) d15_8_22
set_option maxHeartbeats 4000000 in
set_option maxRecDepth 100000 in
theorem a15_9_17 (l : Launch) (G : Gk) (Zd q : Nat → Nat)  (sz : Nat) : Met l y15_9 (Cond.code y15_9 prog_15_method_9_code 2 none :: TB) (rmD 1 0 0) (va_Pc [.ref (q 0), .int 102] (pcW G Zd (wM q G.2 (upd (upd (upd (upd mI0 1 0) 2 (-1)) 3 0) 4 0) (vp_updL (vp_updL mJ0 0 0) 1 0) mA0 (va_up (va_up mB0 2 (vp_updL (mB0 2) (1920 : Int32).toNatClampNeg 0)) 3 (vp_updL (mB0 3) (1920 : Int32).toNatClampNeg 0))) sz)) (qV G (fun (_ : Unit) => True) (fun _ => (wM q G.2 (upd (upd (upd (upd mI0 1 0) 3 0) 4 0) 2 0) (vp_updL (vp_updL mJ0 0 0) 1 0) mA0 (va_up (va_up mB0 2 (vp_updL (mB0 2) (1920 : Int32).toNatClampNeg 0)) 3 (vp_updL (mB0 3) (1920 : Int32).toNatClampNeg 0)))) (va_A (wM q G.2 (upd (upd (upd (upd mI0 1 0) 2 (-1)) 3 0) 4 0) (vp_updL (vp_updL mJ0 0 0) 1 0) mA0 (va_up (va_up mB0 2 (vp_updL (mB0 2) (1920 : Int32).toNatClampNeg 0)) 3 (vp_updL (mB0 3) (1920 : Int32).toNatClampNeg 0))) sz)) 0 0 (va_A (wM q G.2 (upd (upd (upd (upd mI0 1 0) 2 (-1)) 3 0) 4 0) (vp_updL (vp_updL mJ0 0 0) 1 0) mA0 (va_up (va_up mB0 2 (vp_updL (mB0 2) (1920 : Int32).toNatClampNeg 0)) 3 (vp_updL (mB0 3) (1920 : Int32).toNatClampNeg 0))) sz) := by
  refine go (Qc := qV G (fun (_ : Unit) => True) (fun _ => (wM q G.2 (upd (upd (upd (upd mI0 1 0) 3 0) 4 0) 2 0) (vp_updL (vp_updL mJ0 0 0) 1 0) mA0 (va_up (va_up mB0 2 (vp_updL (mB0 2) (1920 : Int32).toNatClampNeg 0)) 3 (vp_updL (mB0 3) (1920 : Int32).toNatClampNeg 0))))) "PagedValuesModel" rfl (by decide) (Nat.le_of_ble_eq_true rfl) ?_
  intro p e s m below meth c ls A hx hb hr hlk hml hown hts hin hl hP hD hK hS hA hZ
  have hl : lv_has ls 2 [(0, .ref (q 0)), (1, .int 102)] := hl
  refine lv_aload_n hx hb d15_9_0 rfl (lv_at hl 0 rfl) ?_
  refine va_get (D := G.1) (ci := 13) (v := .int (-1)) (C := r_13) (T := f_13) (N := 42) (ref := "PagedValuesModel") hx hb hts (fun w h => List.mem_cons_of_mem _ (ly_13 w h)) hown hK hP 0 rfl rfl 3 (by decide) (hts _ (List.mem_cons_of_mem _ k1154)) (fun _ h9 => h9) rfl d15_9_1 ?_
  refine lv_if_ge (tgt := 28) hx hb d15_9_4 rfl (fun hc => absurd hc (by decide)) (fun _ => ?_)
  refine lv_aload_n hx hb d15_9_7 rfl (lv_at hl 0 rfl) ?_
  refine sV_i (As := []) (rest := []) ⟨hx, hb, hml, hown, hts⟩ (a15_7_15 l G Zd q  _) (kw_V (n := 0) hts k1305 k1302 k15 k1304 ks37 (by decide +kernel) ⟨Nat.le_of_ble_eq_true rfl, Nat.le_of_ble_eq_true rfl⟩) hP hD hK hS hA hZ (va_recv (ci := 13) (q0 := 0) hK hP rfl rfl) rfl hl.1 rfl (Nat.le_of_ble_eq_true rfl) d15_9_8 ⟨Nat.le_of_ble_eq_true rfl, Nat.le_of_ble_eq_true rfl⟩ (fun rr u H locs hp hP hD hS => ?_)
  obtain rfl := hp
  refine W.eq (g2 := F0 m 11 ls [.int (-1)]) rfl ?_
  have hP : va_P G.1 vwCl (wM q G.2 (upd (upd (upd (upd mI0 1 0) 2 (-1)) 3 0) 4 0) (vp_updL (vp_updL mJ0 0 0) 1 0) mA0 (va_up (va_up mB0 2 (vp_updL (mB0 2) (1920 : Int32).toNatClampNeg 0)) 3 (vp_updL (mB0 3) (1920 : Int32).toNatClampNeg 0))) H := hP
  have hD : va_D A (wM q G.2 (upd (upd (upd (upd mI0 1 0) 2 (-1)) 3 0) 4 0) (vp_updL (vp_updL mJ0 0 0) 1 0) mA0 (va_up (va_up mB0 2 (vp_updL (mB0 2) (1920 : Int32).toNatClampNeg 0)) 3 (vp_updL (mB0 3) (1920 : Int32).toNatClampNeg 0))) := hD
  refine lv_iload_n hx hb d15_9_11 rfl (lv_at hl 1 rfl) ?_
  refine lv_icmp_ne (tgt := 28) hx hb d15_9_12 rfl (fun _ => ?_) (fun hc => absurd hc (by decide))
  refine lv_aload_n hx hb d15_9_28 rfl (lv_at hl 0 rfl) ?_
  refine sV_v (As := []) (rest := []) ⟨hx, hb, hml, hown, hts⟩ (a15_8_16 l G Zd q  _) (kw_V (n := 0) hts k1320 k1317 k15 k1319 ks40 (by decide +kernel) ⟨Nat.le_of_ble_eq_true rfl, Nat.le_of_ble_eq_true rfl⟩) hP hD hK hS hA hZ (va_recv (ci := 13) (q0 := 0) hK hP rfl rfl) rfl hl.1 rfl (Nat.le_of_ble_eq_true rfl) d15_9_29 ⟨Nat.le_of_ble_eq_true rfl, Nat.le_of_ble_eq_true rfl⟩ (fun u H locs hp hP hD hS => ?_)
  refine W.eq (g2 := F0 m 32 ls []) rfl ?_
  have hP : va_P G.1 vwCl (wM q G.2 (upd (upd (upd (upd mI0 1 0) 3 0) 4 0) 2 0) (vp_updL (vp_updL mJ0 0 0) 1 0) mA0 (va_up (va_up mB0 2 (vp_updL (mB0 2) (1920 : Int32).toNatClampNeg 0)) 3 (vp_updL (mB0 3) (1920 : Int32).toNatClampNeg 0))) H := hP
  have hD : va_D A (wM q G.2 (upd (upd (upd (upd mI0 1 0) 3 0) 4 0) 2 0) (vp_updL (vp_updL mJ0 0 0) 1 0) mA0 (va_up (va_up mB0 2 (vp_updL (mB0 2) (1920 : Int32).toNatClampNeg 0)) 3 (vp_updL (mB0 3) (1920 : Int32).toNatClampNeg 0))) := hD
  exact fin_v hx hb hr hlk hS () trivial hP hD (Nat.le_of_ble_eq_true rfl) (Nat.le_of_ble_eq_true rfl) d15_9_32
set_option maxHeartbeats 4000000 in
set_option maxRecDepth 100000 in
theorem a15_8_18 (l : Launch) (G : Gk) (Zd q : Nat → Nat)  (sz : Nat) : Met l y15_8 (Cond.code y15_8 prog_15_method_8_code 1 none :: TB) (rmD 0 0 0) (va_Pc [.ref (q 0)] (pcW G Zd (wM q G.2 (upd (upd (upd (upd mI0 1 0) 3 0) 4 0) 2 0) (vp_updL (vp_updL mJ0 0 0) 1 0) mA0 (va_up (va_up mB0 2 (vp_updL (mB0 2) (1920 : Int32).toNatClampNeg 0)) 3 (vp_updL (mB0 3) (1920 : Int32).toNatClampNeg 0))) sz)) (qV G (fun (_ : Unit) => True) (fun _ => (wM q G.2 (upd (upd (upd (upd mI0 1 0) 3 0) 4 0) 2 0) (vp_updL (vp_updL mJ0 0 0) 1 0) mA0 (va_up (va_up mB0 2 (vp_updL (mB0 2) (1920 : Int32).toNatClampNeg 0)) 3 (vp_updL (mB0 3) (1920 : Int32).toNatClampNeg 0)))) (va_A (wM q G.2 (upd (upd (upd (upd mI0 1 0) 3 0) 4 0) 2 0) (vp_updL (vp_updL mJ0 0 0) 1 0) mA0 (va_up (va_up mB0 2 (vp_updL (mB0 2) (1920 : Int32).toNatClampNeg 0)) 3 (vp_updL (mB0 3) (1920 : Int32).toNatClampNeg 0))) sz)) 0 0 (va_A (wM q G.2 (upd (upd (upd (upd mI0 1 0) 3 0) 4 0) 2 0) (vp_updL (vp_updL mJ0 0 0) 1 0) mA0 (va_up (va_up mB0 2 (vp_updL (mB0 2) (1920 : Int32).toNatClampNeg 0)) 3 (vp_updL (mB0 3) (1920 : Int32).toNatClampNeg 0))) sz) := by
  refine go (Qc := qV G (fun (_ : Unit) => True) (fun _ => (wM q G.2 (upd (upd (upd (upd mI0 1 0) 3 0) 4 0) 2 0) (vp_updL (vp_updL mJ0 0 0) 1 0) mA0 (va_up (va_up mB0 2 (vp_updL (mB0 2) (1920 : Int32).toNatClampNeg 0)) 3 (vp_updL (mB0 3) (1920 : Int32).toNatClampNeg 0))))) "PagedValuesModel" rfl (by decide) (Nat.le_of_ble_eq_true rfl) ?_
  intro p e s m below meth c ls A hx hb hr hlk hml hown hts hin hl hP hD hK hS hA hZ
  have hl : lv_has ls 1 [(0, .ref (q 0))] := hl
  refine lv_aload_n hx hb d15_8_0 rfl (lv_at hl 0 rfl) ?_
  refine lv_aload_n hx hb d15_8_1 rfl (lv_at hl 0 rfl) ?_
  refine va_get (D := G.1) (ci := 13) (v := .int 0) (C := r_13) (T := f_13) (N := 42) (ref := "PagedValuesModel") hx hb hts (fun w h => List.mem_cons_of_mem _ (ly_13 w h)) hown hK hP 0 rfl rfl 3 (by decide) (hts _ (List.mem_cons_of_mem _ k1154)) (fun _ h9 => h9) rfl d15_8_2 ?_
  refine lv_if_ge (tgt := 15) hx hb d15_8_5 rfl (fun _ => ?_) (fun hc => absurd hc (by decide))
  refine lv_aload_n hx hb d15_8_15 rfl (lv_at hl 0 rfl) ?_
  refine va_get (D := G.1) (ci := 13) (v := .int 0) (C := r_13) (T := f_13) (N := 42) (ref := "PagedValuesModel") hx hb hts (fun w h => List.mem_cons_of_mem _ (ly_13 w h)) hown hK hP 0 rfl rfl 3 (by decide) (hts _ (List.mem_cons_of_mem _ k1154)) (fun _ h9 => h9) rfl d15_8_16 ?_
  refine va_put (D := G.1) (ci := 13) (v := .int 0) (ty := .int) (C := r_13) (T := f_13) (N := 42) (ref := "PagedValuesModel") hx hb hts (fun w h => List.mem_cons_of_mem _ (ly_13 w h)) ft_13 ft_13_ok nm_13 hown hK hP hD hS 0 rfl rfl 3 (by decide) (hts _ (List.mem_cons_of_mem _ k1154)) (fun _ h9 => h9) rfl (by decide +kernel) rfl rfl (Nat.le_of_ble_eq_true rfl) d15_8_19 (fun H locs hP hD hS => ?_)
  have hP : va_P G.1 vwCl (wM q G.2 (upd (upd (upd (upd mI0 1 0) 3 0) 4 0) 2 0) (vp_updL (vp_updL mJ0 0 0) 1 0) mA0 (va_up (va_up mB0 2 (vp_updL (mB0 2) (1920 : Int32).toNatClampNeg 0)) 3 (vp_updL (mB0 3) (1920 : Int32).toNatClampNeg 0))) H := hP
  have hD : va_D A (wM q G.2 (upd (upd (upd (upd mI0 1 0) 3 0) 4 0) 2 0) (vp_updL (vp_updL mJ0 0 0) 1 0) mA0 (va_up (va_up mB0 2 (vp_updL (mB0 2) (1920 : Int32).toNatClampNeg 0)) 3 (vp_updL (mB0 3) (1920 : Int32).toNatClampNeg 0))) := hD
  exact fin_v hx hb hr hlk hS () trivial hP hD (Nat.le_of_ble_eq_true rfl) (Nat.le_of_ble_eq_true rfl) d15_8_22
set_option maxHeartbeats 4000000 in
set_option maxRecDepth 100000 in
theorem a15_9_19 (l : Launch) (G : Gk) (Zd q : Nat → Nat)  (sz : Nat) : Met l y15_9 (Cond.code y15_9 prog_15_method_9_code 2 none :: TB) (rmD 1 0 0) (va_Pc [.ref (q 0), .int 97] (pcW G Zd (wM q G.2 (upd (upd (upd (upd mI0 1 0) 3 0) 4 0) 2 0) (vp_updL (vp_updL mJ0 0 0) 1 0) mA0 (va_up (va_up mB0 2 (vp_updL (mB0 2) (1920 : Int32).toNatClampNeg 0)) 3 (vp_updL (mB0 3) (1920 : Int32).toNatClampNeg 0))) sz)) (qV G (fun (_ : Unit) => True) (fun _ => (wM q G.2 (upd (upd (upd (upd mI0 1 0) 3 0) 4 0) 2 0) (vp_updL (vp_updL mJ0 0 0) 1 0) mA0 (va_up (va_up mB0 2 (vp_updL (mB0 2) (1920 : Int32).toNatClampNeg 0)) 3 (vp_updL (mB0 3) (1920 : Int32).toNatClampNeg 0)))) (va_A (wM q G.2 (upd (upd (upd (upd mI0 1 0) 3 0) 4 0) 2 0) (vp_updL (vp_updL mJ0 0 0) 1 0) mA0 (va_up (va_up mB0 2 (vp_updL (mB0 2) (1920 : Int32).toNatClampNeg 0)) 3 (vp_updL (mB0 3) (1920 : Int32).toNatClampNeg 0))) sz)) 0 0 (va_A (wM q G.2 (upd (upd (upd (upd mI0 1 0) 3 0) 4 0) 2 0) (vp_updL (vp_updL mJ0 0 0) 1 0) mA0 (va_up (va_up mB0 2 (vp_updL (mB0 2) (1920 : Int32).toNatClampNeg 0)) 3 (vp_updL (mB0 3) (1920 : Int32).toNatClampNeg 0))) sz) := by
  refine go (Qc := qV G (fun (_ : Unit) => True) (fun _ => (wM q G.2 (upd (upd (upd (upd mI0 1 0) 3 0) 4 0) 2 0) (vp_updL (vp_updL mJ0 0 0) 1 0) mA0 (va_up (va_up mB0 2 (vp_updL (mB0 2) (1920 : Int32).toNatClampNeg 0)) 3 (vp_updL (mB0 3) (1920 : Int32).toNatClampNeg 0))))) "PagedValuesModel" rfl (by decide) (Nat.le_of_ble_eq_true rfl) ?_
  intro p e s m below meth c ls A hx hb hr hlk hml hown hts hin hl hP hD hK hS hA hZ
  have hl : lv_has ls 2 [(0, .ref (q 0)), (1, .int 97)] := hl
  refine lv_aload_n hx hb d15_9_0 rfl (lv_at hl 0 rfl) ?_
  refine va_get (D := G.1) (ci := 13) (v := .int 0) (C := r_13) (T := f_13) (N := 42) (ref := "PagedValuesModel") hx hb hts (fun w h => List.mem_cons_of_mem _ (ly_13 w h)) hown hK hP 0 rfl rfl 3 (by decide) (hts _ (List.mem_cons_of_mem _ k1154)) (fun _ h9 => h9) rfl d15_9_1 ?_
  refine lv_if_ge (tgt := 28) hx hb d15_9_4 rfl (fun _ => ?_) (fun hc => absurd hc (by decide))
  refine lv_aload_n hx hb d15_9_28 rfl (lv_at hl 0 rfl) ?_
  refine sV_v (As := []) (rest := []) ⟨hx, hb, hml, hown, hts⟩ (a15_8_18 l G Zd q  _) (kw_V (n := 0) hts k1320 k1317 k15 k1319 ks40 (by decide +kernel) ⟨Nat.le_of_ble_eq_true rfl, Nat.le_of_ble_eq_true rfl⟩) hP hD hK hS hA hZ (va_recv (ci := 13) (q0 := 0) hK hP rfl rfl) rfl hl.1 rfl (Nat.le_of_ble_eq_true rfl) d15_9_29 ⟨Nat.le_of_ble_eq_true rfl, Nat.le_of_ble_eq_true rfl⟩ (fun u H locs hp hP hD hS => ?_)
  refine W.eq (g2 := F0 m 32 ls []) rfl ?_
  have hP : va_P G.1 vwCl (wM q G.2 (upd (upd (upd (upd mI0 1 0) 3 0) 4 0) 2 0) (vp_updL (vp_updL mJ0 0 0) 1 0) mA0 (va_up (va_up mB0 2 (vp_updL (mB0 2) (1920 : Int32).toNatClampNeg 0)) 3 (vp_updL (mB0 3) (1920 : Int32).toNatClampNeg 0))) H := hP
  have hD : va_D A (wM q G.2 (upd (upd (upd (upd mI0 1 0) 3 0) 4 0) 2 0) (vp_updL (vp_updL mJ0 0 0) 1 0) mA0 (va_up (va_up mB0 2 (vp_updL (mB0 2) (1920 : Int32).toNatClampNeg 0)) 3 (vp_updL (mB0 3) (1920 : Int32).toNatClampNeg 0))) := hD
  exact fin_v hx hb hr hlk hS () trivial hP hD (Nat.le_of_ble_eq_true rfl) (Nat.le_of_ble_eq_true rfl) d15_9_32
set_option maxHeartbeats 4000000 in
set_option maxRecDepth 100000 in
theorem a15_9_20 (l : Launch) (G : Gk) (Zd q : Nat → Nat)  (sz : Nat) : Met l y15_9 (Cond.code y15_9 prog_15_method_9_code 2 none :: TB) (rmD 1 0 0) (va_Pc [.ref (q 0), .int 108] (pcW G Zd (wM q G.2 (upd (upd (upd (upd mI0 1 0) 3 0) 4 0) 2 0) (vp_updL (vp_updL mJ0 0 0) 1 0) mA0 (va_up (va_up mB0 2 (vp_updL (mB0 2) (1920 : Int32).toNatClampNeg 0)) 3 (vp_updL (mB0 3) (1920 : Int32).toNatClampNeg 0))) sz)) (qV G (fun (_ : Unit) => True) (fun _ => (wM q G.2 (upd (upd (upd (upd mI0 1 0) 3 0) 4 0) 2 0) (vp_updL (vp_updL mJ0 0 0) 1 0) mA0 (va_up (va_up mB0 2 (vp_updL (mB0 2) (1920 : Int32).toNatClampNeg 0)) 3 (vp_updL (mB0 3) (1920 : Int32).toNatClampNeg 0)))) (va_A (wM q G.2 (upd (upd (upd (upd mI0 1 0) 3 0) 4 0) 2 0) (vp_updL (vp_updL mJ0 0 0) 1 0) mA0 (va_up (va_up mB0 2 (vp_updL (mB0 2) (1920 : Int32).toNatClampNeg 0)) 3 (vp_updL (mB0 3) (1920 : Int32).toNatClampNeg 0))) sz)) 0 0 (va_A (wM q G.2 (upd (upd (upd (upd mI0 1 0) 3 0) 4 0) 2 0) (vp_updL (vp_updL mJ0 0 0) 1 0) mA0 (va_up (va_up mB0 2 (vp_updL (mB0 2) (1920 : Int32).toNatClampNeg 0)) 3 (vp_updL (mB0 3) (1920 : Int32).toNatClampNeg 0))) sz) := by
  refine go (Qc := qV G (fun (_ : Unit) => True) (fun _ => (wM q G.2 (upd (upd (upd (upd mI0 1 0) 3 0) 4 0) 2 0) (vp_updL (vp_updL mJ0 0 0) 1 0) mA0 (va_up (va_up mB0 2 (vp_updL (mB0 2) (1920 : Int32).toNatClampNeg 0)) 3 (vp_updL (mB0 3) (1920 : Int32).toNatClampNeg 0))))) "PagedValuesModel" rfl (by decide) (Nat.le_of_ble_eq_true rfl) ?_
  intro p e s m below meth c ls A hx hb hr hlk hml hown hts hin hl hP hD hK hS hA hZ
  have hl : lv_has ls 2 [(0, .ref (q 0)), (1, .int 108)] := hl
  refine lv_aload_n hx hb d15_9_0 rfl (lv_at hl 0 rfl) ?_
  refine va_get (D := G.1) (ci := 13) (v := .int 0) (C := r_13) (T := f_13) (N := 42) (ref := "PagedValuesModel") hx hb hts (fun w h => List.mem_cons_of_mem _ (ly_13 w h)) hown hK hP 0 rfl rfl 3 (by decide) (hts _ (List.mem_cons_of_mem _ k1154)) (fun _ h9 => h9) rfl d15_9_1 ?_
  refine lv_if_ge (tgt := 28) hx hb d15_9_4 rfl (fun _ => ?_) (fun hc => absurd hc (by decide))
  refine lv_aload_n hx hb d15_9_28 rfl (lv_at hl 0 rfl) ?_
  refine sV_v (As := []) (rest := []) ⟨hx, hb, hml, hown, hts⟩ (a15_8_18 l G Zd q  _) (kw_V (n := 0) hts k1320 k1317 k15 k1319 ks40 (by decide +kernel) ⟨Nat.le_of_ble_eq_true rfl, Nat.le_of_ble_eq_true rfl⟩) hP hD hK hS hA hZ (va_recv (ci := 13) (q0 := 0) hK hP rfl rfl) rfl hl.1 rfl (Nat.le_of_ble_eq_true rfl) d15_9_29 ⟨Nat.le_of_ble_eq_true rfl, Nat.le_of_ble_eq_true rfl⟩ (fun u H locs hp hP hD hS => ?_)
  refine W.eq (g2 := F0 m 32 ls []) rfl ?_
  have hP : va_P G.1 vwCl (wM q G.2 (upd (upd (upd (upd mI0 1 0) 3 0) 4 0) 2 0) (vp_updL (vp_updL mJ0 0 0) 1 0) mA0 (va_up (va_up mB0 2 (vp_updL (mB0 2) (1920 : Int32).toNatClampNeg 0)) 3 (vp_updL (mB0 3) (1920 : Int32).toNatClampNeg 0))) H := hP
  have hD : va_D A (wM q G.2 (upd (upd (upd (upd mI0 1 0) 3 0) 4 0) 2 0) (vp_updL (vp_updL mJ0 0 0) 1 0) mA0 (va_up (va_up mB0 2 (vp_updL (mB0 2) (1920 : Int32).toNatClampNeg 0)) 3 (vp_updL (mB0 3) (1920 : Int32).toNatClampNeg 0))) := hD
  exact fin_v hx hb hr hlk hS () trivial hP hD (Nat.le_of_ble_eq_true rfl) (Nat.le_of_ble_eq_true rfl) d15_9_32
set_option maxHeartbeats 4000000 in
set_option maxRecDepth 100000 in
theorem a15_9_21 (l : Launch) (G : Gk) (Zd q : Nat → Nat)  (sz : Nat) : Met l y15_9 (Cond.code y15_9 prog_15_method_9_code 2 none :: TB) (rmD 1 0 0) (va_Pc [.ref (q 0), .int 115] (pcW G Zd (wM q G.2 (upd (upd (upd (upd mI0 1 0) 3 0) 4 0) 2 0) (vp_updL (vp_updL mJ0 0 0) 1 0) mA0 (va_up (va_up mB0 2 (vp_updL (mB0 2) (1920 : Int32).toNatClampNeg 0)) 3 (vp_updL (mB0 3) (1920 : Int32).toNatClampNeg 0))) sz)) (qV G (fun (_ : Unit) => True) (fun _ => (wM q G.2 (upd (upd (upd (upd mI0 1 0) 3 0) 4 0) 2 0) (vp_updL (vp_updL mJ0 0 0) 1 0) mA0 (va_up (va_up mB0 2 (vp_updL (mB0 2) (1920 : Int32).toNatClampNeg 0)) 3 (vp_updL (mB0 3) (1920 : Int32).toNatClampNeg 0)))) (va_A (wM q G.2 (upd (upd (upd (upd mI0 1 0) 3 0) 4 0) 2 0) (vp_updL (vp_updL mJ0 0 0) 1 0) mA0 (va_up (va_up mB0 2 (vp_updL (mB0 2) (1920 : Int32).toNatClampNeg 0)) 3 (vp_updL (mB0 3) (1920 : Int32).toNatClampNeg 0))) sz)) 0 0 (va_A (wM q G.2 (upd (upd (upd (upd mI0 1 0) 3 0) 4 0) 2 0) (vp_updL (vp_updL mJ0 0 0) 1 0) mA0 (va_up (va_up mB0 2 (vp_updL (mB0 2) (1920 : Int32).toNatClampNeg 0)) 3 (vp_updL (mB0 3) (1920 : Int32).toNatClampNeg 0))) sz) := by
  refine go (Qc := qV G (fun (_ : Unit) => True) (fun _ => (wM q G.2 (upd (upd (upd (upd mI0 1 0) 3 0) 4 0) 2 0) (vp_updL (vp_updL mJ0 0 0) 1 0) mA0 (va_up (va_up mB0 2 (vp_updL (mB0 2) (1920 : Int32).toNatClampNeg 0)) 3 (vp_updL (mB0 3) (1920 : Int32).toNatClampNeg 0))))) "PagedValuesModel" rfl (by decide) (Nat.le_of_ble_eq_true rfl) ?_
  intro p e s m below meth c ls A hx hb hr hlk hml hown hts hin hl hP hD hK hS hA hZ
  have hl : lv_has ls 2 [(0, .ref (q 0)), (1, .int 115)] := hl
  refine lv_aload_n hx hb d15_9_0 rfl (lv_at hl 0 rfl) ?_
  refine va_get (D := G.1) (ci := 13) (v := .int 0) (C := r_13) (T := f_13) (N := 42) (ref := "PagedValuesModel") hx hb hts (fun w h => List.mem_cons_of_mem _ (ly_13 w h)) hown hK hP 0 rfl rfl 3 (by decide) (hts _ (List.mem_cons_of_mem _ k1154)) (fun _ h9 => h9) rfl d15_9_1 ?_
  refine lv_if_ge (tgt := 28) hx hb d15_9_4 rfl (fun _ => ?_) (fun hc => absurd hc (by decide))
  refine lv_aload_n hx hb d15_9_28 rfl (lv_at hl 0 rfl) ?_
  refine sV_v (As := []) (rest := []) ⟨hx, hb, hml, hown, hts⟩ (a15_8_18 l G Zd q  _) (kw_V (n := 0) hts k1320 k1317 k15 k1319 ks40 (by decide +kernel) ⟨Nat.le_of_ble_eq_true rfl, Nat.le_of_ble_eq_true rfl⟩) hP hD hK hS hA hZ (va_recv (ci := 13) (q0 := 0) hK hP rfl rfl) rfl hl.1 rfl (Nat.le_of_ble_eq_true rfl) d15_9_29 ⟨Nat.le_of_ble_eq_true rfl, Nat.le_of_ble_eq_true rfl⟩ (fun u H locs hp hP hD hS => ?_)
  refine W.eq (g2 := F0 m 32 ls []) rfl ?_
  have hP : va_P G.1 vwCl (wM q G.2 (upd (upd (upd (upd mI0 1 0) 3 0) 4 0) 2 0) (vp_updL (vp_updL mJ0 0 0) 1 0) mA0 (va_up (va_up mB0 2 (vp_updL (mB0 2) (1920 : Int32).toNatClampNeg 0)) 3 (vp_updL (mB0 3) (1920 : Int32).toNatClampNeg 0))) H := hP
  have hD : va_D A (wM q G.2 (upd (upd (upd (upd mI0 1 0) 3 0) 4 0) 2 0) (vp_updL (vp_updL mJ0 0 0) 1 0) mA0 (va_up (va_up mB0 2 (vp_updL (mB0 2) (1920 : Int32).toNatClampNeg 0)) 3 (vp_updL (mB0 3) (1920 : Int32).toNatClampNeg 0))) := hD
  exact fin_v hx hb hr hlk hS () trivial hP hD (Nat.le_of_ble_eq_true rfl) (Nat.le_of_ble_eq_true rfl) d15_9_32
set_option maxHeartbeats 4000000 in
set_option maxRecDepth 100000 in
theorem a15_9_22 (l : Launch) (G : Gk) (Zd q : Nat → Nat)  (sz : Nat) : Met l y15_9 (Cond.code y15_9 prog_15_method_9_code 2 none :: TB) (rmD 1 0 0) (va_Pc [.ref (q 0), .int 101] (pcW G Zd (wM q G.2 (upd (upd (upd (upd mI0 1 0) 3 0) 4 0) 2 0) (vp_updL (vp_updL mJ0 0 0) 1 0) mA0 (va_up (va_up mB0 2 (vp_updL (mB0 2) (1920 : Int32).toNatClampNeg 0)) 3 (vp_updL (mB0 3) (1920 : Int32).toNatClampNeg 0))) sz)) (qV G (fun (_ : Unit) => True) (fun _ => (wM q G.2 (upd (upd (upd (upd mI0 1 0) 3 0) 4 0) 2 0) (vp_updL (vp_updL mJ0 0 0) 1 0) mA0 (va_up (va_up mB0 2 (vp_updL (mB0 2) (1920 : Int32).toNatClampNeg 0)) 3 (vp_updL (mB0 3) (1920 : Int32).toNatClampNeg 0)))) (va_A (wM q G.2 (upd (upd (upd (upd mI0 1 0) 3 0) 4 0) 2 0) (vp_updL (vp_updL mJ0 0 0) 1 0) mA0 (va_up (va_up mB0 2 (vp_updL (mB0 2) (1920 : Int32).toNatClampNeg 0)) 3 (vp_updL (mB0 3) (1920 : Int32).toNatClampNeg 0))) sz)) 0 0 (va_A (wM q G.2 (upd (upd (upd (upd mI0 1 0) 3 0) 4 0) 2 0) (vp_updL (vp_updL mJ0 0 0) 1 0) mA0 (va_up (va_up mB0 2 (vp_updL (mB0 2) (1920 : Int32).toNatClampNeg 0)) 3 (vp_updL (mB0 3) (1920 : Int32).toNatClampNeg 0))) sz) := by
  refine go (Qc := qV G (fun (_ : Unit) => True) (fun _ => (wM q G.2 (upd (upd (upd (upd mI0 1 0) 3 0) 4 0) 2 0) (vp_updL (vp_updL mJ0 0 0) 1 0) mA0 (va_up (va_up mB0 2 (vp_updL (mB0 2) (1920 : Int32).toNatClampNeg 0)) 3 (vp_updL (mB0 3) (1920 : Int32).toNatClampNeg 0))))) "PagedValuesModel" rfl (by decide) (Nat.le_of_ble_eq_true rfl) ?_
  intro p e s m below meth c ls A hx hb hr hlk hml hown hts hin hl hP hD hK hS hA hZ
  have hl : lv_has ls 2 [(0, .ref (q 0)), (1, .int 101)] := hl
  refine lv_aload_n hx hb d15_9_0 rfl (lv_at hl 0 rfl) ?_
  refine va_get (D := G.1) (ci := 13) (v := .int 0) (C := r_13) (T := f_13) (N := 42) (ref := "PagedValuesModel") hx hb hts (fun w h => List.mem_cons_of_mem _ (ly_13 w h)) hown hK hP 0 rfl rfl 3 (by decide) (hts _ (List.mem_cons_of_mem _ k1154)) (fun _ h9 => h9) rfl d15_9_1 ?_
  refine lv_if_ge (tgt := 28) hx hb d15_9_4 rfl (fun _ => ?_) (fun hc => absurd hc (by decide))
  refine lv_aload_n hx hb d15_9_28 rfl (lv_at hl 0 rfl) ?_
  refine sV_v (As := []) (rest := []) ⟨hx, hb, hml, hown, hts⟩ (a15_8_18 l G Zd q  _) (kw_V (n := 0) hts k1320 k1317 k15 k1319 ks40 (by decide +kernel) ⟨Nat.le_of_ble_eq_true rfl, Nat.le_of_ble_eq_true rfl⟩) hP hD hK hS hA hZ (va_recv (ci := 13) (q0 := 0) hK hP rfl rfl) rfl hl.1 rfl (Nat.le_of_ble_eq_true rfl) d15_9_29 ⟨Nat.le_of_ble_eq_true rfl, Nat.le_of_ble_eq_true rfl⟩ (fun u H locs hp hP hD hS => ?_)
  refine W.eq (g2 := F0 m 32 ls []) rfl ?_
  have hP : va_P G.1 vwCl (wM q G.2 (upd (upd (upd (upd mI0 1 0) 3 0) 4 0) 2 0) (vp_updL (vp_updL mJ0 0 0) 1 0) mA0 (va_up (va_up mB0 2 (vp_updL (mB0 2) (1920 : Int32).toNatClampNeg 0)) 3 (vp_updL (mB0 3) (1920 : Int32).toNatClampNeg 0))) H := hP
  have hD : va_D A (wM q G.2 (upd (upd (upd (upd mI0 1 0) 3 0) 4 0) 2 0) (vp_updL (vp_updL mJ0 0 0) 1 0) mA0 (va_up (va_up mB0 2 (vp_updL (mB0 2) (1920 : Int32).toNatClampNeg 0)) 3 (vp_updL (mB0 3) (1920 : Int32).toNatClampNeg 0))) := hD
  exact fin_v hx hb hr hlk hS () trivial hP hD (Nat.le_of_ble_eq_true rfl) (Nat.le_of_ble_eq_true rfl) d15_9_32
set_option maxHeartbeats 4000000 in
set_option maxRecDepth 100000 in
theorem a15_17_23 (l : Launch) (G : Gk) (Zd q : Nat → Nat)  (sz : Nat) : Met l y15_17 (Cond.code y15_17 prog_15_method_17_code 5 none :: TB) (rmD 2 0 0) (va_Pc [.ref (q 0), .int 97, .int 108, .int 115, .int 101] (pcW G Zd (wM q G.2 (upd (upd (upd (upd mI0 1 0) 3 0) 4 0) 2 0) (vp_updL (vp_updL mJ0 0 0) 1 0) mA0 (va_up (va_up mB0 2 (vp_updL (mB0 2) (1920 : Int32).toNatClampNeg 0)) 3 (vp_updL (mB0 3) (1920 : Int32).toNatClampNeg 0))) sz)) (qV G (fun (_ : Unit) => True) (fun _ => (wM q G.2 (upd (upd (upd (upd mI0 1 0) 3 0) 4 0) 2 0) (vp_updL (vp_updL mJ0 0 0) 1 0) mA0 (va_up (va_up mB0 2 (vp_updL (mB0 2) (1920 : Int32).toNatClampNeg 0)) 3 (vp_updL (mB0 3) (1920 : Int32).toNatClampNeg 0)))) (va_A (wM q G.2 (upd (upd (upd (upd mI0 1 0) 3 0) 4 0) 2 0) (vp_updL (vp_updL mJ0 0 0) 1 0) mA0 (va_up (va_up mB0 2 (vp_updL (mB0 2) (1920 : Int32).toNatClampNeg 0)) 3 (vp_updL (mB0 3) (1920 : Int32).toNatClampNeg 0))) sz)) 0 0 (va_A (wM q G.2 (upd (upd (upd (upd mI0 1 0) 3 0) 4 0) 2 0) (vp_updL (vp_updL mJ0 0 0) 1 0) mA0 (va_up (va_up mB0 2 (vp_updL (mB0 2) (1920 : Int32).toNatClampNeg 0)) 3 (vp_updL (mB0 3) (1920 : Int32).toNatClampNeg 0))) sz) := by
  refine go (Qc := qV G (fun (_ : Unit) => True) (fun _ => (wM q G.2 (upd (upd (upd (upd mI0 1 0) 3 0) 4 0) 2 0) (vp_updL (vp_updL mJ0 0 0) 1 0) mA0 (va_up (va_up mB0 2 (vp_updL (mB0 2) (1920 : Int32).toNatClampNeg 0)) 3 (vp_updL (mB0 3) (1920 : Int32).toNatClampNeg 0))))) "PagedValuesModel" rfl (by decide) (Nat.le_of_ble_eq_true rfl) ?_
  intro p e s m below meth c ls A hx hb hr hlk hml hown hts hin hl hP hD hK hS hA hZ
  have hl : lv_has ls 5 [(0, .ref (q 0)), (1, .int 97), (2, .int 108), (3, .int 115), (4, .int 101)] := hl
  refine lv_aload_n hx hb d15_17_0 rfl (lv_at hl 0 rfl) ?_
  refine lv_iload_n hx hb d15_17_1 rfl (lv_at hl 1 rfl) ?_
  refine sV_v (As := [.int 97]) (rest := []) ⟨hx, hb, hml, hown, hts⟩ (a15_9_19 l G Zd q  _) (kw_V (n := 1) hts k1336 k1333 k15 k1335 ks44 (by decide +kernel) ⟨Nat.le_of_ble_eq_true rfl, Nat.le_of_ble_eq_true rfl⟩) hP hD hK hS hA hZ (va_recv (ci := 13) (q0 := 0) hK hP rfl rfl) rfl hl.1 rfl (Nat.le_of_ble_eq_true rfl) d15_17_2 ⟨Nat.le_of_ble_eq_true rfl, Nat.le_of_ble_eq_true rfl⟩ (fun u H locs hp hP hD hS => ?_)
  refine W.eq (g2 := F0 m 5 ls []) rfl ?_
  have hP : va_P G.1 vwCl (wM q G.2 (upd (upd (upd (upd mI0 1 0) 3 0) 4 0) 2 0) (vp_updL (vp_updL mJ0 0 0) 1 0) mA0 (va_up (va_up mB0 2 (vp_updL (mB0 2) (1920 : Int32).toNatClampNeg 0)) 3 (vp_updL (mB0 3) (1920 : Int32).toNatClampNeg 0))) H := hP
  have hD : va_D A (wM q G.2 (upd (upd (upd (upd mI0 1 0) 3 0) 4 0) 2 0) (vp_updL (vp_updL mJ0 0 0) 1 0) mA0 (va_up (va_up mB0 2 (vp_updL (mB0 2) (1920 : Int32).toNatClampNeg 0)) 3 (vp_updL (mB0 3) (1920 : Int32).toNatClampNeg 0))) := hD
  refine lv_aload_n hx hb d15_17_5 rfl (lv_at hl 0 rfl) ?_
  refine lv_iload_n hx hb d15_17_6 rfl (lv_at hl 2 rfl) ?_
  refine sV_v (As := [.int 108]) (rest := []) ⟨hx, hb, hml, hown, hts⟩ (a15_9_20 l G Zd q  _) (kw_V (n := 1) hts k1336 k1333 k15 k1335 ks44 (by decide +kernel) ⟨Nat.le_of_ble_eq_true rfl, Nat.le_of_ble_eq_true rfl⟩) hP hD hK hS hA hZ (va_recv (ci := 13) (q0 := 0) hK hP rfl rfl) rfl hl.1 rfl (Nat.le_of_ble_eq_true rfl) d15_17_7 ⟨Nat.le_of_ble_eq_true rfl, Nat.le_of_ble_eq_true rfl⟩ (fun u H locs hp hP hD hS => ?_)
  refine W.eq (g2 := F0 m 10 ls []) rfl ?_
  have hP : va_P G.1 vwCl (wM q G.2 (upd (upd (upd (upd mI0 1 0) 3 0) 4 0) 2 0) (vp_updL (vp_updL mJ0 0 0) 1 0) mA0 (va_up (va_up mB0 2 (vp_updL (mB0 2) (1920 : Int32).toNatClampNeg 0)) 3 (vp_updL (mB0 3) (1920 : Int32).toNatClampNeg 0))) H := hP
  have hD : va_D A (wM q G.2 (upd (upd (upd (upd mI0 1 0) 3 0) 4 0) 2 0) (vp_updL (vp_updL mJ0 0 0) 1 0) mA0 (va_up (va_up mB0 2 (vp_updL (mB0 2) (1920 : Int32).toNatClampNeg 0)) 3 (vp_updL (mB0 3) (1920 : Int32).toNatClampNeg 0))) := hD
  refine lv_aload_n hx hb d15_17_10 rfl (lv_at hl 0 rfl) ?_
  refine lv_iload_n hx hb d15_17_11 rfl (lv_at hl 3 rfl) ?_
  refine sV_v (As := [.int 115]) (rest := []) ⟨hx, hb, hml, hown, hts⟩ (a15_9_21 l G Zd q  _) (kw_V (n := 1) hts k1336 k1333 k15 k1335 ks44 (by decide +kernel) ⟨Nat.le_of_ble_eq_true rfl, Nat.le_of_ble_eq_true rfl⟩) hP hD hK hS hA hZ (va_recv (ci := 13) (q0 := 0) hK hP rfl rfl) rfl hl.1 rfl (Nat.le_of_ble_eq_true rfl) d15_17_12 ⟨Nat.le_of_ble_eq_true rfl, Nat.le_of_ble_eq_true rfl⟩ (fun u H locs hp hP hD hS => ?_)
  refine W.eq (g2 := F0 m 15 ls []) rfl ?_
  have hP : va_P G.1 vwCl (wM q G.2 (upd (upd (upd (upd mI0 1 0) 3 0) 4 0) 2 0) (vp_updL (vp_updL mJ0 0 0) 1 0) mA0 (va_up (va_up mB0 2 (vp_updL (mB0 2) (1920 : Int32).toNatClampNeg 0)) 3 (vp_updL (mB0 3) (1920 : Int32).toNatClampNeg 0))) H := hP
  have hD : va_D A (wM q G.2 (upd (upd (upd (upd mI0 1 0) 3 0) 4 0) 2 0) (vp_updL (vp_updL mJ0 0 0) 1 0) mA0 (va_up (va_up mB0 2 (vp_updL (mB0 2) (1920 : Int32).toNatClampNeg 0)) 3 (vp_updL (mB0 3) (1920 : Int32).toNatClampNeg 0))) := hD
  refine lv_aload_n hx hb d15_17_15 rfl (lv_at hl 0 rfl) ?_
  refine lv_iload hx hb d15_17_16 (lv_at hl 4 rfl) ?_
  refine sV_v (As := [.int 101]) (rest := []) ⟨hx, hb, hml, hown, hts⟩ (a15_9_22 l G Zd q  _) (kw_V (n := 1) hts k1336 k1333 k15 k1335 ks44 (by decide +kernel) ⟨Nat.le_of_ble_eq_true rfl, Nat.le_of_ble_eq_true rfl⟩) hP hD hK hS hA hZ (va_recv (ci := 13) (q0 := 0) hK hP rfl rfl) rfl hl.1 rfl (Nat.le_of_ble_eq_true rfl) d15_17_18 ⟨Nat.le_of_ble_eq_true rfl, Nat.le_of_ble_eq_true rfl⟩ (fun u H locs hp hP hD hS => ?_)
  refine W.eq (g2 := F0 m 21 ls []) rfl ?_
  have hP : va_P G.1 vwCl (wM q G.2 (upd (upd (upd (upd mI0 1 0) 3 0) 4 0) 2 0) (vp_updL (vp_updL mJ0 0 0) 1 0) mA0 (va_up (va_up mB0 2 (vp_updL (mB0 2) (1920 : Int32).toNatClampNeg 0)) 3 (vp_updL (mB0 3) (1920 : Int32).toNatClampNeg 0))) H := hP
  have hD : va_D A (wM q G.2 (upd (upd (upd (upd mI0 1 0) 3 0) 4 0) 2 0) (vp_updL (vp_updL mJ0 0 0) 1 0) mA0 (va_up (va_up mB0 2 (vp_updL (mB0 2) (1920 : Int32).toNatClampNeg 0)) 3 (vp_updL (mB0 3) (1920 : Int32).toNatClampNeg 0))) := hD
  exact fin_v hx hb hr hlk hS () trivial hP hD (Nat.le_of_ble_eq_true rfl) (Nat.le_of_ble_eq_true rfl) d15_17_21
set_option maxHeartbeats 4000000 in
set_option maxRecDepth 100000 in
theorem a15_19_24 (l : Launch) (G : Gk) (Zd q : Nat → Nat)  (sz : Nat) : Met l y15_19 (Cond.code y15_19 prog_15_method_19_code 2 (some .int) :: TB) (rmD 3 0 0) (va_Pc [.ref (q 0), .int (-1)] (pcW G Zd (wM q G.2 (upd (upd (upd (upd mI0 1 0) 2 (-1)) 3 0) 4 0) (vp_updL (vp_updL mJ0 0 0) 1 0) mA0 (va_up (va_up mB0 2 (vp_updL (mB0 2) (1920 : Int32).toNatClampNeg 0)) 3 (vp_updL (mB0 3) (1920 : Int32).toNatClampNeg 0))) sz)) (qI G (fun rr (_ : Unit) => rr = 2) (fun _ => (wM q G.2 (upd (upd (upd (upd mI0 1 0) 3 0) 4 0) 2 0) (vp_updL (vp_updL mJ0 0 0) 1 0) mA0 (va_up (va_up mB0 2 (vp_updL (mB0 2) (1920 : Int32).toNatClampNeg 0)) 3 (vp_updL (mB0 3) (1920 : Int32).toNatClampNeg 0)))) (va_A (wM q G.2 (upd (upd (upd (upd mI0 1 0) 2 (-1)) 3 0) 4 0) (vp_updL (vp_updL mJ0 0 0) 1 0) mA0 (va_up (va_up mB0 2 (vp_updL (mB0 2) (1920 : Int32).toNatClampNeg 0)) 3 (vp_updL (mB0 3) (1920 : Int32).toNatClampNeg 0))) sz)) 0 0 (va_A (wM q G.2 (upd (upd (upd (upd mI0 1 0) 2 (-1)) 3 0) 4 0) (vp_updL (vp_updL mJ0 0 0) 1 0) mA0 (va_up (va_up mB0 2 (vp_updL (mB0 2) (1920 : Int32).toNatClampNeg 0)) 3 (vp_updL (mB0 3) (1920 : Int32).toNatClampNeg 0))) sz) := by
  refine go (Qc := qI G (fun rr (_ : Unit) => rr = 2) (fun _ => (wM q G.2 (upd (upd (upd (upd mI0 1 0) 3 0) 4 0) 2 0) (vp_updL (vp_updL mJ0 0 0) 1 0) mA0 (va_up (va_up mB0 2 (vp_updL (mB0 2) (1920 : Int32).toNatClampNeg 0)) 3 (vp_updL (mB0 3) (1920 : Int32).toNatClampNeg 0))))) "PagedValuesModel" rfl (by decide) (Nat.le_of_ble_eq_true rfl) ?_
  intro p e s m below meth c ls A hx hb hr hlk hml hown hts hin hl hP hD hK hS hA hZ
  have hl : lv_has ls 2 [(0, .ref (q 0)), (1, .int (-1))] := hl
  refine lv_iload_n hx hb d15_19_0 rfl (lv_at hl 1 rfl) ?_
  refine lv_bipush (v := 110) hx hb d15_19_1 (by decide) ?_
  refine lv_icmp_ne (tgt := 20) hx hb d15_19_3 rfl (fun _ => ?_) (fun hc => absurd hc (by decide))
  refine lv_iload_n hx hb d15_19_20 rfl (lv_at hl 1 rfl) ?_
  refine lv_bipush (v := 116) hx hb d15_19_21 (by decide) ?_
  refine lv_icmp_ne (tgt := 40) hx hb d15_19_23 rfl (fun _ => ?_) (fun hc => absurd hc (by decide))
  refine lv_aload_n hx hb d15_19_40 rfl (lv_at hl 0 rfl) ?_
  refine lv_bipush (v := 102) hx hb d15_19_41 (by decide) ?_
  refine sV_v (As := [.int 102]) (rest := []) ⟨hx, hb, hml, hown, hts⟩ (a15_9_17 l G Zd q  _) (kw_V (n := 1) hts k1336 k1333 k15 k1335 ks44 (by decide +kernel) ⟨Nat.le_of_ble_eq_true rfl, Nat.le_of_ble_eq_true rfl⟩) hP hD hK hS hA hZ (va_recv (ci := 13) (q0 := 0) hK hP rfl rfl) rfl hl.1 rfl (Nat.le_of_ble_eq_true rfl) d15_19_43 ⟨Nat.le_of_ble_eq_true rfl, Nat.le_of_ble_eq_true rfl⟩ (fun u H locs hp hP hD hS => ?_)
  refine W.eq (g2 := F0 m 46 ls []) rfl ?_
  have hP : va_P G.1 vwCl (wM q G.2 (upd (upd (upd (upd mI0 1 0) 3 0) 4 0) 2 0) (vp_updL (vp_updL mJ0 0 0) 1 0) mA0 (va_up (va_up mB0 2 (vp_updL (mB0 2) (1920 : Int32).toNatClampNeg 0)) 3 (vp_updL (mB0 3) (1920 : Int32).toNatClampNeg 0))) H := hP
  have hD : va_D A (wM q G.2 (upd (upd (upd (upd mI0 1 0) 3 0) 4 0) 2 0) (vp_updL (vp_updL mJ0 0 0) 1 0) mA0 (va_up (va_up mB0 2 (vp_updL (mB0 2) (1920 : Int32).toNatClampNeg 0)) 3 (vp_updL (mB0 3) (1920 : Int32).toNatClampNeg 0))) := hD
  refine lv_aload_n hx hb d15_19_46 rfl (lv_at hl 0 rfl) ?_
  refine lv_bipush (v := 97) hx hb d15_19_47 (by decide) ?_
  refine lv_bipush (v := 108) hx hb d15_19_49 (by decide) ?_
  refine lv_bipush (v := 115) hx hb d15_19_51 (by decide) ?_
  refine lv_bipush (v := 101) hx hb d15_19_53 (by decide) ?_
  refine sV_v (As := [.int 97, .int 108, .int 115, .int 101]) (rest := []) ⟨hx, hb, hml, hown, hts⟩ (a15_17_23 l G Zd q  _) (kw_V (n := 4) hts k1368 k1365 k15 k1367 ks50 (by decide +kernel) ⟨Nat.le_of_ble_eq_true rfl, Nat.le_of_ble_eq_true rfl⟩) hP hD hK hS hA hZ (va_recv (ci := 13) (q0 := 0) hK hP rfl rfl) rfl hl.1 rfl (Nat.le_of_ble_eq_true rfl) d15_19_55 ⟨Nat.le_of_ble_eq_true rfl, Nat.le_of_ble_eq_true rfl⟩ (fun u H locs hp hP hD hS => ?_)
  refine W.eq (g2 := F0 m 58 ls []) rfl ?_
  have hP : va_P G.1 vwCl (wM q G.2 (upd (upd (upd (upd mI0 1 0) 3 0) 4 0) 2 0) (vp_updL (vp_updL mJ0 0 0) 1 0) mA0 (va_up (va_up mB0 2 (vp_updL (mB0 2) (1920 : Int32).toNatClampNeg 0)) 3 (vp_updL (mB0 3) (1920 : Int32).toNatClampNeg 0))) H := hP
  have hD : va_D A (wM q G.2 (upd (upd (upd (upd mI0 1 0) 3 0) 4 0) 2 0) (vp_updL (vp_updL mJ0 0 0) 1 0) mA0 (va_up (va_up mB0 2 (vp_updL (mB0 2) (1920 : Int32).toNatClampNeg 0)) 3 (vp_updL (mB0 3) (1920 : Int32).toNatClampNeg 0))) := hD
  refine lv_iconst (v := 2) hx hb d15_19_58 (by decide) ?_
  exact fin_i hx hb hr hlk hS () rfl hP hD (Nat.le_of_ble_eq_true rfl) (Nat.le_of_ble_eq_true rfl) d15_19_59
set_option maxHeartbeats 4000000 in
set_option maxRecDepth 100000 in
theorem a15_18_25 (l : Launch) (G : Gk) (Zd q : Nat → Nat)  (sz : Nat) : Met l y15_18 (Cond.code y15_18 prog_15_method_18_code 2 (some .int) :: TB) (rmD 4 0 0) (va_Pc [.ref (q 0)] (pcW G Zd (wM q G.2 (upd (upd (upd (upd mI0 1 0) 2 (-1)) 3 0) 4 0) mJ0 mA0 (va_up (va_up mB0 2 (vp_updL (mB0 2) (1920 : Int32).toNatClampNeg 0)) 3 (vp_updL (mB0 3) (1920 : Int32).toNatClampNeg 0))) sz)) (qI G (fun rr (_ : Unit) => rr = 2) (fun _ => (wM q G.2 (upd (upd (upd (upd mI0 1 0) 3 0) 4 0) 2 0) (vp_updL (vp_updL mJ0 0 0) 1 0) mA0 (va_up (va_up mB0 2 (vp_updL (mB0 2) (1920 : Int32).toNatClampNeg 0)) 3 (vp_updL (mB0 3) (1920 : Int32).toNatClampNeg 0)))) (va_A (wM q G.2 (upd (upd (upd (upd mI0 1 0) 2 (-1)) 3 0) 4 0) mJ0 mA0 (va_up (va_up mB0 2 (vp_updL (mB0 2) (1920 : Int32).toNatClampNeg 0)) 3 (vp_updL (mB0 3) (1920 : Int32).toNatClampNeg 0))) sz)) 0 0 (va_A (wM q G.2 (upd (upd (upd (upd mI0 1 0) 2 (-1)) 3 0) 4 0) mJ0 mA0 (va_up (va_up mB0 2 (vp_updL (mB0 2) (1920 : Int32).toNatClampNeg 0)) 3 (vp_updL (mB0 3) (1920 : Int32).toNatClampNeg 0))) sz) := by
  refine go (Qc := qI G (fun rr (_ : Unit) => rr = 2) (fun _ => (wM q G.2 (upd (upd (upd (upd mI0 1 0) 3 0) 4 0) 2 0) (vp_updL (vp_updL mJ0 0 0) 1 0) mA0 (va_up (va_up mB0 2 (vp_updL (mB0 2) (1920 : Int32).toNatClampNeg 0)) 3 (vp_updL (mB0 3) (1920 : Int32).toNatClampNeg 0))))) "PagedValuesModel" rfl (by decide) (Nat.le_of_ble_eq_true rfl) ?_
  intro p e s m below meth c ls A hx hb hr hlk hml hown hts hin hl hP hD hK hS hA hZ
  have hl : lv_has ls 2 [(0, .ref (q 0))] := hl
  refine lv_aload_n hx hb d15_18_0 rfl (lv_at hl 0 rfl) ?_
  refine sV_i (As := []) (rest := []) ⟨hx, hb, hml, hown, hts⟩ (a15_7_10 l G Zd q  _) (kw_V (n := 0) hts k1305 k1302 k15 k1304 ks37 (by decide +kernel) ⟨Nat.le_of_ble_eq_true rfl, Nat.le_of_ble_eq_true rfl⟩) hP hD hK hS hA hZ (va_recv (ci := 13) (q0 := 0) hK hP rfl rfl) rfl hl.1 rfl (Nat.le_of_ble_eq_true rfl) d15_18_1 ⟨Nat.le_of_ble_eq_true rfl, Nat.le_of_ble_eq_true rfl⟩ (fun rr u H locs hp hP hD hS => ?_)
  obtain rfl := hp
  refine W.eq (g2 := F0 m 4 ls [.int (-1)]) rfl ?_
  have hP : va_P G.1 vwCl (wM q G.2 (upd (upd (upd (upd mI0 1 0) 2 (-1)) 3 0) 4 0) mJ0 mA0 (va_up (va_up mB0 2 (vp_updL (mB0 2) (1920 : Int32).toNatClampNeg 0)) 3 (vp_updL (mB0 3) (1920 : Int32).toNatClampNeg 0))) H := hP
  have hD : va_D A (wM q G.2 (upd (upd (upd (upd mI0 1 0) 2 (-1)) 3 0) 4 0) mJ0 mA0 (va_up (va_up mB0 2 (vp_updL (mB0 2) (1920 : Int32).toNatClampNeg 0)) 3 (vp_updL (mB0 3) (1920 : Int32).toNatClampNeg 0))) := hD
  refine lv_istore_n (lv' := [(1, .int (-1)), (0, .ref (q 0))]) hx hb d15_18_4 rfl hl (by decide) rfl (fun ls hl => ?_)
  refine lv_iload_n hx hb d15_18_5 rfl (lv_at hl 0 rfl) ?_
  refine lv_bipush (v := 34) hx hb d15_18_6 (by decide) ?_
  refine lv_icmp_ne (tgt := 17) hx hb d15_18_8 rfl (fun _ => ?_) (fun hc => absurd hc (by decide))
  refine lv_iload_n hx hb d15_18_17 rfl (lv_at hl 0 rfl) ?_
  refine lv_bipush (v := 45) hx hb d15_18_18 (by decide) ?_
  refine lv_icmp_eq (tgt := 30) hx hb d15_18_20 rfl (fun hc => absurd hc (by decide)) (fun _ => ?_)
  refine lv_iload_n hx hb d15_18_23 rfl (lv_at hl 0 rfl) ?_
  refine sS_i (As := [.int (-1)]) (rest := []) ⟨hx, hb, hml, hown, hts⟩ (a15_12_13 l G Zd q  _) (kw_S (n := 1) hts k1351 k1349 k15 k1350 (by decide +kernel) ⟨Nat.le_of_ble_eq_true rfl, Nat.le_of_ble_eq_true rfl⟩) hP hD hK hS hA hZ rfl hl.1 rfl (Nat.le_of_ble_eq_true rfl) d15_18_24 ⟨Nat.le_of_ble_eq_true rfl, Nat.le_of_ble_eq_true rfl⟩ (fun rr u H locs hp hP hD hS => ?_)
  obtain rfl := hp
  refine W.eq (g2 := F0 m 27 ls [.int 0]) rfl ?_
  have hP : va_P G.1 vwCl (wM q G.2 (upd (upd (upd (upd mI0 1 0) 2 (-1)) 3 0) 4 0) mJ0 mA0 (va_up (va_up mB0 2 (vp_updL (mB0 2) (1920 : Int32).toNatClampNeg 0)) 3 (vp_updL (mB0 3) (1920 : Int32).toNatClampNeg 0))) H := hP
  have hD : va_D A (wM q G.2 (upd (upd (upd (upd mI0 1 0) 2 (-1)) 3 0) 4 0) mJ0 mA0 (va_up (va_up mB0 2 (vp_updL (mB0 2) (1920 : Int32).toNatClampNeg 0)) 3 (vp_updL (mB0 3) (1920 : Int32).toNatClampNeg 0))) := hD
  refine lv_if_eq (tgt := 36) hx hb d15_18_27 rfl (fun _ => ?_) (fun hc => absurd hc (by decide))
  refine lv_aload_n hx hb d15_18_36 rfl (lv_at hl 1 rfl) ?_
  refine sV_v (As := []) (rest := []) ⟨hx, hb, hml, hown, hts⟩ (a15_6_14 l G Zd q  _) (kw_V (n := 0) hts k1332 k1329 k15 k1331 ks43 (by decide +kernel) ⟨Nat.le_of_ble_eq_true rfl, Nat.le_of_ble_eq_true rfl⟩) hP hD hK hS hA hZ (va_recv (ci := 13) (q0 := 0) hK hP rfl rfl) rfl hl.1 rfl (Nat.le_of_ble_eq_true rfl) d15_18_37 ⟨Nat.le_of_ble_eq_true rfl, Nat.le_of_ble_eq_true rfl⟩ (fun u H locs hp hP hD hS => ?_)
  refine W.eq (g2 := F0 m 40 ls []) rfl ?_
  have hP : va_P G.1 vwCl (wM q G.2 (upd (upd (upd (upd mI0 1 0) 2 (-1)) 3 0) 4 0) (vp_updL (vp_updL mJ0 0 0) 1 0) mA0 (va_up (va_up mB0 2 (vp_updL (mB0 2) (1920 : Int32).toNatClampNeg 0)) 3 (vp_updL (mB0 3) (1920 : Int32).toNatClampNeg 0))) H := hP
  have hD : va_D A (wM q G.2 (upd (upd (upd (upd mI0 1 0) 2 (-1)) 3 0) 4 0) (vp_updL (vp_updL mJ0 0 0) 1 0) mA0 (va_up (va_up mB0 2 (vp_updL (mB0 2) (1920 : Int32).toNatClampNeg 0)) 3 (vp_updL (mB0 3) (1920 : Int32).toNatClampNeg 0))) := hD
  refine lv_aload_n hx hb d15_18_40 rfl (lv_at hl 1 rfl) ?_
  refine lv_iload_n hx hb d15_18_41 rfl (lv_at hl 0 rfl) ?_
  refine sV_i (As := [.int (-1)]) (rest := []) ⟨hx, hb, hml, hown, hts⟩ (a15_19_24 l G Zd q  _) (kw_V (n := 1) hts k1364 k1361 k15 k1363 ks49 (by decide +kernel) ⟨Nat.le_of_ble_eq_true rfl, Nat.le_of_ble_eq_true rfl⟩) hP hD hK hS hA hZ (va_recv (ci := 13) (q0 := 0) hK hP rfl rfl) rfl hl.1 rfl (Nat.le_of_ble_eq_true rfl) d15_18_42 ⟨Nat.le_of_ble_eq_true rfl, Nat.le_of_ble_eq_true rfl⟩ (fun rr u H locs hp hP hD hS => ?_)
  obtain rfl := hp
  refine W.eq (g2 := F0 m 45 ls [.int 2]) rfl ?_
  have hP : va_P G.1 vwCl (wM q G.2 (upd (upd (upd (upd mI0 1 0) 3 0) 4 0) 2 0) (vp_updL (vp_updL mJ0 0 0) 1 0) mA0 (va_up (va_up mB0 2 (vp_updL (mB0 2) (1920 : Int32).toNatClampNeg 0)) 3 (vp_updL (mB0 3) (1920 : Int32).toNatClampNeg 0))) H := hP
  have hD : va_D A (wM q G.2 (upd (upd (upd (upd mI0 1 0) 3 0) 4 0) 2 0) (vp_updL (vp_updL mJ0 0 0) 1 0) mA0 (va_up (va_up mB0 2 (vp_updL (mB0 2) (1920 : Int32).toNatClampNeg 0)) 3 (vp_updL (mB0 3) (1920 : Int32).toNatClampNeg 0))) := hD
  exact fin_i hx hb hr hlk hS () rfl hP hD (Nat.le_of_ble_eq_true rfl) (Nat.le_of_ble_eq_true rfl) d15_18_45
set_option maxHeartbeats 4000000 in
set_option maxRecDepth 100000 in
theorem a15_20_26 (l : Launch) (G : Gk) (Zd q : Nat → Nat)  (sz : Nat) : Met l y15_20 (Cond.code y15_20 prog_15_method_20_code 1 (some .int) :: TB) (rmD 0 0 0) (va_Pc [.int 80] (pcW G Zd (wM q G.2 (upd (upd (upd (upd mI0 1 0) 3 0) 4 0) 2 0) (vp_updL (vp_updL mJ0 0 0) 1 0) mA0 (va_up (va_up mB0 2 (vp_updL (mB0 2) (1920 : Int32).toNatClampNeg 0)) 3 (vp_updL (mB0 3) (1920 : Int32).toNatClampNeg 0))) sz)) (qI G (fun rr (_ : Unit) => rr = 1920) (fun _ => (wM q G.2 (upd (upd (upd (upd mI0 1 0) 3 0) 4 0) 2 0) (vp_updL (vp_updL mJ0 0 0) 1 0) mA0 (va_up (va_up mB0 2 (vp_updL (mB0 2) (1920 : Int32).toNatClampNeg 0)) 3 (vp_updL (mB0 3) (1920 : Int32).toNatClampNeg 0)))) (va_A (wM q G.2 (upd (upd (upd (upd mI0 1 0) 3 0) 4 0) 2 0) (vp_updL (vp_updL mJ0 0 0) 1 0) mA0 (va_up (va_up mB0 2 (vp_updL (mB0 2) (1920 : Int32).toNatClampNeg 0)) 3 (vp_updL (mB0 3) (1920 : Int32).toNatClampNeg 0))) sz)) 0 0 (va_A (wM q G.2 (upd (upd (upd (upd mI0 1 0) 3 0) 4 0) 2 0) (vp_updL (vp_updL mJ0 0 0) 1 0) mA0 (va_up (va_up mB0 2 (vp_updL (mB0 2) (1920 : Int32).toNatClampNeg 0)) 3 (vp_updL (mB0 3) (1920 : Int32).toNatClampNeg 0))) sz) := by
  refine go (Qc := qI G (fun rr (_ : Unit) => rr = 1920) (fun _ => (wM q G.2 (upd (upd (upd (upd mI0 1 0) 3 0) 4 0) 2 0) (vp_updL (vp_updL mJ0 0 0) 1 0) mA0 (va_up (va_up mB0 2 (vp_updL (mB0 2) (1920 : Int32).toNatClampNeg 0)) 3 (vp_updL (mB0 3) (1920 : Int32).toNatClampNeg 0))))) "PagedValuesModel" rfl (by decide) (Nat.le_of_ble_eq_true rfl) ?_
  intro p e s m below meth c ls A hx hb hr hlk hml hown hts hin hl hP hD hK hS hA hZ
  have hl : lv_has ls 1 [(0, .int 80)] := hl
  refine lv_iload_n hx hb d15_20_0 rfl (lv_at hl 0 rfl) ?_
  refine lv_bipush (v := 80) hx hb d15_20_1 (by decide) ?_
  refine lv_icmp_ge (tgt := 13) hx hb d15_20_3 rfl (fun _ => ?_) (fun hc => absurd hc (by decide))
  refine lv_sipush (v := 1920) hx hb d15_20_13 (by decide) ?_
  refine lv_bipush (v := 60) hx hb d15_20_16 (by decide) ?_
  refine lv_iload_n hx hb d15_20_18 rfl (lv_at hl 0 rfl) ?_
  refine lv_bipush (v := 80) hx hb d15_20_19 (by decide) ?_
  refine lv_isub hx hb d15_20_21 ?_
  refine W.eq (g2 := F0 m 22 ls [.int 0, .int 60, .int 1920]) rfl ?_
  refine lv_imul hx hb d15_20_22 ?_
  refine W.eq (g2 := F0 m 23 ls [.int 0, .int 1920]) rfl ?_
  refine lv_iadd hx hb d15_20_23 ?_
  refine W.eq (g2 := F0 m 24 ls [.int 1920]) rfl ?_
  exact fin_i hx hb hr hlk hS () rfl hP hD (Nat.le_of_ble_eq_true rfl) (Nat.le_of_ble_eq_true rfl) d15_20_24
set_option maxHeartbeats 4000000 in
set_option maxRecDepth 100000 in
theorem a15_21_27 (l : Launch) (G : Gk) (Zd q : Nat → Nat)  (sz : Nat) : Met l y15_21 (Cond.code y15_21 prog_15_method_21_code 7 none :: TB) (rmD 1 0 0) (va_Pc [.ref (q 0), .int 2, .long 0, .long 0] (pcW G Zd (wM q G.2 (upd (upd (upd (upd mI0 1 0) 3 0) 4 0) 2 0) (vp_updL (vp_updL mJ0 0 0) 1 0) mA0 (va_up (va_up mB0 2 (vp_updL (mB0 2) (1920 : Int32).toNatClampNeg 0)) 3 (vp_updL (mB0 3) (1920 : Int32).toNatClampNeg 0))) sz)) (qV G (fun (_ : Unit) => True) (fun _ => (wM q G.2 (upd (upd (upd (upd mI0 1 0) 4 0) 2 0) 3 1) (vp_updL (vp_updL mJ0 0 0) 1 0) (va_up (va_up mA0 1 (upd (mA0 1) (1920 : Int32).toNatClampNeg (vp_nar .byte ((2 : Int32).toInt8.toInt32)))) 2 (upd (mA0 2) (1920 : Int32).toNatClampNeg (vp_nar .byte 1))) (va_up (va_up (va_up (va_up mB0 2 (vp_updL (mB0 2) (1920 : Int32).toNatClampNeg 0)) 3 (vp_updL (mB0 3) (1920 : Int32).toNatClampNeg 0)) 0 (vp_updL (mB0 0) (1920 : Int32).toNatClampNeg 0)) 1 (vp_updL (mB0 1) (1920 : Int32).toNatClampNeg 0)))) (va_A (wM q G.2 (upd (upd (upd (upd mI0 1 0) 3 0) 4 0) 2 0) (vp_updL (vp_updL mJ0 0 0) 1 0) mA0 (va_up (va_up mB0 2 (vp_updL (mB0 2) (1920 : Int32).toNatClampNeg 0)) 3 (vp_updL (mB0 3) (1920 : Int32).toNatClampNeg 0))) sz)) 0 0 (va_A (wM q G.2 (upd (upd (upd (upd mI0 1 0) 3 0) 4 0) 2 0) (vp_updL (vp_updL mJ0 0 0) 1 0) mA0 (va_up (va_up mB0 2 (vp_updL (mB0 2) (1920 : Int32).toNatClampNeg 0)) 3 (vp_updL (mB0 3) (1920 : Int32).toNatClampNeg 0))) sz) := by
  refine go (Qc := qV G (fun (_ : Unit) => True) (fun _ => (wM q G.2 (upd (upd (upd (upd mI0 1 0) 4 0) 2 0) 3 1) (vp_updL (vp_updL mJ0 0 0) 1 0) (va_up (va_up mA0 1 (upd (mA0 1) (1920 : Int32).toNatClampNeg (vp_nar .byte ((2 : Int32).toInt8.toInt32)))) 2 (upd (mA0 2) (1920 : Int32).toNatClampNeg (vp_nar .byte 1))) (va_up (va_up (va_up (va_up mB0 2 (vp_updL (mB0 2) (1920 : Int32).toNatClampNeg 0)) 3 (vp_updL (mB0 3) (1920 : Int32).toNatClampNeg 0)) 0 (vp_updL (mB0 0) (1920 : Int32).toNatClampNeg 0)) 1 (vp_updL (mB0 1) (1920 : Int32).toNatClampNeg 0))))) "PagedValuesModel" rfl (by decide) (Nat.le_of_ble_eq_true rfl) ?_
  intro p e s m below meth c ls A hx hb hr hlk hml hown hts hin hl hP hD hK hS hA hZ
  have hl : lv_has ls 7 [(0, .ref (q 0)), (1, .int 2), (2, .long 0), (4, .long 0)] := hl
  refine lv_bipush (v := 80) hx hb d15_21_0 (by decide) ?_
  refine sS_i (As := [.int 80]) (rest := []) ⟨hx, hb, hml, hown, hts⟩ (a15_20_26 l G Zd q  _) (kw_S (n := 1) hts k1312 k1310 k15 k1311 (by decide +kernel) ⟨Nat.le_of_ble_eq_true rfl, Nat.le_of_ble_eq_true rfl⟩) hP hD hK hS hA hZ rfl hl.1 rfl (Nat.le_of_ble_eq_true rfl) d15_21_2 ⟨Nat.le_of_ble_eq_true rfl, Nat.le_of_ble_eq_true rfl⟩ (fun rr u H locs hp hP hD hS => ?_)
  obtain rfl := hp
  refine W.eq (g2 := F0 m 5 ls [.int 1920]) rfl ?_
  have hP : va_P G.1 vwCl (wM q G.2 (upd (upd (upd (upd mI0 1 0) 3 0) 4 0) 2 0) (vp_updL (vp_updL mJ0 0 0) 1 0) mA0 (va_up (va_up mB0 2 (vp_updL (mB0 2) (1920 : Int32).toNatClampNeg 0)) 3 (vp_updL (mB0 3) (1920 : Int32).toNatClampNeg 0))) H := hP
  have hD : va_D A (wM q G.2 (upd (upd (upd (upd mI0 1 0) 3 0) 4 0) 2 0) (vp_updL (vp_updL mJ0 0 0) 1 0) mA0 (va_up (va_up mB0 2 (vp_updL (mB0 2) (1920 : Int32).toNatClampNeg 0)) 3 (vp_updL (mB0 3) (1920 : Int32).toNatClampNeg 0))) := hD
  refine lv_aload_n hx hb d15_21_5 rfl (lv_at hl 0 rfl) ?_
  refine va_get (D := G.1) (ci := 13) (v := .int 0) (C := r_13) (T := f_13) (N := 42) (ref := "PagedValuesModel") hx hb hts (fun w h => List.mem_cons_of_mem _ (ly_13 w h)) hown hK hP 0 rfl rfl 10 (by decide) (hts _ (List.mem_cons_of_mem _ k1161)) (fun _ h9 => h9) rfl d15_21_6 ?_
  refine lv_iadd hx hb d15_21_9 ?_
  refine W.eq (g2 := F0 m 10 ls [.int 1920]) rfl ?_
  refine lv_istore (lv' := [(6, .int 1920), (0, .ref (q 0)), (1, .int 2), (2, .long 0), (4, .long 0)]) hx hb d15_21_10 hl (by decide) rfl (fun ls hl => ?_)
  refine lv_aload_n hx hb d15_21_12 rfl (lv_at hl 1 rfl) ?_
  refine va_get (D := G.1) (ci := 13) (v := .ref (q 2)) (C := r_13) (T := f_13) (N := 42) (ref := "PagedValuesModel") hx hb hts (fun w h => List.mem_cons_of_mem _ (ly_13 w h)) hown hK hP 0 rfl rfl 4 (by decide) (hts _ (List.mem_cons_of_mem _ k1155)) (fun _ h9 => h9) rfl d15_21_13 ?_
  refine lv_iload hx hb d15_21_16 (lv_at hl 0 rfl) ?_
  refine lv_iload_n hx hb d15_21_18 rfl (lv_at hl 2 rfl) ?_
  refine lv_i2b hx hb d15_21_19 rfl ?_
  refine va_bast (D := G.1) hx hb hK hP hD hS 2 2 rfl rfl (i := 1920) (x := (2 : Int32).toInt8.toInt32) (by unfold vp_in; decide) d15_21_20 (fun H locs hP hD hS => ?_)
  have hP : va_P G.1 vwCl (wM q G.2 (upd (upd (upd (upd mI0 1 0) 3 0) 4 0) 2 0) (vp_updL (vp_updL mJ0 0 0) 1 0) (va_up mA0 1 (upd (mA0 1) (1920 : Int32).toNatClampNeg (vp_nar .byte ((2 : Int32).toInt8.toInt32)))) (va_up (va_up mB0 2 (vp_updL (mB0 2) (1920 : Int32).toNatClampNeg 0)) 3 (vp_updL (mB0 3) (1920 : Int32).toNatClampNeg 0))) H := hP
  have hD : va_D A (wM q G.2 (upd (upd (upd (upd mI0 1 0) 3 0) 4 0) 2 0) (vp_updL (vp_updL mJ0 0 0) 1 0) (va_up mA0 1 (upd (mA0 1) (1920 : Int32).toNatClampNeg (vp_nar .byte ((2 : Int32).toInt8.toInt32)))) (va_up (va_up mB0 2 (vp_updL (mB0 2) (1920 : Int32).toNatClampNeg 0)) 3 (vp_updL (mB0 3) (1920 : Int32).toNatClampNeg 0))) := hD
  refine lv_aload_n hx hb d15_21_21 rfl (lv_at hl 1 rfl) ?_
  refine va_get (D := G.1) (ci := 13) (v := .ref (q 3)) (C := r_13) (T := f_13) (N := 42) (ref := "PagedValuesModel") hx hb hts (fun w h => List.mem_cons_of_mem _ (ly_13 w h)) hown hK hP 0 rfl rfl 5 (by decide) (hts _ (List.mem_cons_of_mem _ k1156)) (fun _ h9 => h9) rfl d15_21_22 ?_
  refine lv_iload hx hb d15_21_25 (lv_at hl 0 rfl) ?_
  refine lv_iconst (v := 1) hx hb d15_21_27 (by decide) ?_
  refine va_bast (D := G.1) hx hb hK hP hD hS 3 2 rfl rfl (i := 1920) (x := 1) (by unfold vp_in; decide) d15_21_28 (fun H locs hP hD hS => ?_)
  have hP : va_P G.1 vwCl (wM q G.2 (upd (upd (upd (upd mI0 1 0) 3 0) 4 0) 2 0) (vp_updL (vp_updL mJ0 0 0) 1 0) (va_up (va_up mA0 1 (upd (mA0 1) (1920 : Int32).toNatClampNeg (vp_nar .byte ((2 : Int32).toInt8.toInt32)))) 2 (upd (mA0 2) (1920 : Int32).toNatClampNeg (vp_nar .byte 1))) (va_up (va_up mB0 2 (vp_updL (mB0 2) (1920 : Int32).toNatClampNeg 0)) 3 (vp_updL (mB0 3) (1920 : Int32).toNatClampNeg 0))) H := hP
  have hD : va_D A (wM q G.2 (upd (upd (upd (upd mI0 1 0) 3 0) 4 0) 2 0) (vp_updL (vp_updL mJ0 0 0) 1 0) (va_up (va_up mA0 1 (upd (mA0 1) (1920 : Int32).toNatClampNeg (vp_nar .byte ((2 : Int32).toInt8.toInt32)))) 2 (upd (mA0 2) (1920 : Int32).toNatClampNeg (vp_nar .byte 1))) (va_up (va_up mB0 2 (vp_updL (mB0 2) (1920 : Int32).toNatClampNeg 0)) 3 (vp_updL (mB0 3) (1920 : Int32).toNatClampNeg 0))) := hD
  refine lv_aload_n hx hb d15_21_29 rfl (lv_at hl 1 rfl) ?_
  refine va_get (D := G.1) (ci := 13) (v := .ref (q 4)) (C := r_13) (T := f_13) (N := 42) (ref := "PagedValuesModel") hx hb hts (fun w h => List.mem_cons_of_mem _ (ly_13 w h)) hown hK hP 0 rfl rfl 6 (by decide) (hts _ (List.mem_cons_of_mem _ k1157)) (fun _ h9 => h9) rfl d15_21_30 ?_
  refine lv_iload hx hb d15_21_33 (lv_at hl 0 rfl) ?_
  refine lv_lload_n hx hb d15_21_35 rfl (lv_at hl 3 rfl) ?_
  refine va_last (D := G.1) hx hb hK hP hD hS 4 4 rfl rfl (i := 1920) (x := 0) (by unfold vp_in; decide) d15_21_36 (fun H locs hP hD hS => ?_)
  have hP : va_P G.1 vwCl (wM q G.2 (upd (upd (upd (upd mI0 1 0) 3 0) 4 0) 2 0) (vp_updL (vp_updL mJ0 0 0) 1 0) (va_up (va_up mA0 1 (upd (mA0 1) (1920 : Int32).toNatClampNeg (vp_nar .byte ((2 : Int32).toInt8.toInt32)))) 2 (upd (mA0 2) (1920 : Int32).toNatClampNeg (vp_nar .byte 1))) (va_up (va_up (va_up mB0 2 (vp_updL (mB0 2) (1920 : Int32).toNatClampNeg 0)) 3 (vp_updL (mB0 3) (1920 : Int32).toNatClampNeg 0)) 0 (vp_updL (mB0 0) (1920 : Int32).toNatClampNeg 0))) H := hP
  have hD : va_D A (wM q G.2 (upd (upd (upd (upd mI0 1 0) 3 0) 4 0) 2 0) (vp_updL (vp_updL mJ0 0 0) 1 0) (va_up (va_up mA0 1 (upd (mA0 1) (1920 : Int32).toNatClampNeg (vp_nar .byte ((2 : Int32).toInt8.toInt32)))) 2 (upd (mA0 2) (1920 : Int32).toNatClampNeg (vp_nar .byte 1))) (va_up (va_up (va_up mB0 2 (vp_updL (mB0 2) (1920 : Int32).toNatClampNeg 0)) 3 (vp_updL (mB0 3) (1920 : Int32).toNatClampNeg 0)) 0 (vp_updL (mB0 0) (1920 : Int32).toNatClampNeg 0))) := hD
  refine lv_aload_n hx hb d15_21_37 rfl (lv_at hl 1 rfl) ?_
  refine va_get (D := G.1) (ci := 13) (v := .ref (q 5)) (C := r_13) (T := f_13) (N := 42) (ref := "PagedValuesModel") hx hb hts (fun w h => List.mem_cons_of_mem _ (ly_13 w h)) hown hK hP 0 rfl rfl 7 (by decide) (hts _ (List.mem_cons_of_mem _ k1158)) (fun _ h9 => h9) rfl d15_21_38 ?_
  refine lv_iload hx hb d15_21_41 (lv_at hl 0 rfl) ?_
  refine lv_lload hx hb d15_21_43 (lv_at hl 4 rfl) ?_
  refine va_last (D := G.1) hx hb hK hP hD hS 5 4 rfl rfl (i := 1920) (x := 0) (by unfold vp_in; decide) d15_21_45 (fun H locs hP hD hS => ?_)
  have hP : va_P G.1 vwCl (wM q G.2 (upd (upd (upd (upd mI0 1 0) 3 0) 4 0) 2 0) (vp_updL (vp_updL mJ0 0 0) 1 0) (va_up (va_up mA0 1 (upd (mA0 1) (1920 : Int32).toNatClampNeg (vp_nar .byte ((2 : Int32).toInt8.toInt32)))) 2 (upd (mA0 2) (1920 : Int32).toNatClampNeg (vp_nar .byte 1))) (va_up (va_up (va_up (va_up mB0 2 (vp_updL (mB0 2) (1920 : Int32).toNatClampNeg 0)) 3 (vp_updL (mB0 3) (1920 : Int32).toNatClampNeg 0)) 0 (vp_updL (mB0 0) (1920 : Int32).toNatClampNeg 0)) 1 (vp_updL (mB0 1) (1920 : Int32).toNatClampNeg 0))) H := hP
  have hD : va_D A (wM q G.2 (upd (upd (upd (upd mI0 1 0) 3 0) 4 0) 2 0) (vp_updL (vp_updL mJ0 0 0) 1 0) (va_up (va_up mA0 1 (upd (mA0 1) (1920 : Int32).toNatClampNeg (vp_nar .byte ((2 : Int32).toInt8.toInt32)))) 2 (upd (mA0 2) (1920 : Int32).toNatClampNeg (vp_nar .byte 1))) (va_up (va_up (va_up (va_up mB0 2 (vp_updL (mB0 2) (1920 : Int32).toNatClampNeg 0)) 3 (vp_updL (mB0 3) (1920 : Int32).toNatClampNeg 0)) 0 (vp_updL (mB0 0) (1920 : Int32).toNatClampNeg 0)) 1 (vp_updL (mB0 1) (1920 : Int32).toNatClampNeg 0))) := hD
  refine lv_aload_n hx hb d15_21_46 rfl (lv_at hl 1 rfl) ?_
  refine lv_dup hx hb d15_21_47 rfl ?_
  refine va_get (D := G.1) (ci := 13) (v := .int 0) (C := r_13) (T := f_13) (N := 42) (ref := "PagedValuesModel") hx hb hts (fun w h => List.mem_cons_of_mem _ (ly_13 w h)) hown hK hP 0 rfl rfl 10 (by decide) (hts _ (List.mem_cons_of_mem _ k1161)) (fun _ h9 => h9) rfl d15_21_48 ?_
  refine lv_iconst (v := 1) hx hb d15_21_51 (by decide) ?_
  refine lv_iadd hx hb d15_21_52 ?_
  refine W.eq (g2 := F0 m 53 ls [.int 1, .ref (q 0)]) rfl ?_
  refine va_put (D := G.1) (ci := 13) (v := .int 1) (ty := .int) (C := r_13) (T := f_13) (N := 42) (ref := "PagedValuesModel") hx hb hts (fun w h => List.mem_cons_of_mem _ (ly_13 w h)) ft_13 ft_13_ok nm_13 hown hK hP hD hS 0 rfl rfl 10 (by decide) (hts _ (List.mem_cons_of_mem _ k1161)) (fun _ h9 => h9) rfl (by decide +kernel) rfl rfl (Nat.le_of_ble_eq_true rfl) d15_21_53 (fun H locs hP hD hS => ?_)
  have hP : va_P G.1 vwCl (wM q G.2 (upd (upd (upd (upd mI0 1 0) 4 0) 2 0) 3 1) (vp_updL (vp_updL mJ0 0 0) 1 0) (va_up (va_up mA0 1 (upd (mA0 1) (1920 : Int32).toNatClampNeg (vp_nar .byte ((2 : Int32).toInt8.toInt32)))) 2 (upd (mA0 2) (1920 : Int32).toNatClampNeg (vp_nar .byte 1))) (va_up (va_up (va_up (va_up mB0 2 (vp_updL (mB0 2) (1920 : Int32).toNatClampNeg 0)) 3 (vp_updL (mB0 3) (1920 : Int32).toNatClampNeg 0)) 0 (vp_updL (mB0 0) (1920 : Int32).toNatClampNeg 0)) 1 (vp_updL (mB0 1) (1920 : Int32).toNatClampNeg 0))) H := hP
  have hD : va_D A (wM q G.2 (upd (upd (upd (upd mI0 1 0) 4 0) 2 0) 3 1) (vp_updL (vp_updL mJ0 0 0) 1 0) (va_up (va_up mA0 1 (upd (mA0 1) (1920 : Int32).toNatClampNeg (vp_nar .byte ((2 : Int32).toInt8.toInt32)))) 2 (upd (mA0 2) (1920 : Int32).toNatClampNeg (vp_nar .byte 1))) (va_up (va_up (va_up (va_up mB0 2 (vp_updL (mB0 2) (1920 : Int32).toNatClampNeg 0)) 3 (vp_updL (mB0 3) (1920 : Int32).toNatClampNeg 0)) 0 (vp_updL (mB0 0) (1920 : Int32).toNatClampNeg 0)) 1 (vp_updL (mB0 1) (1920 : Int32).toNatClampNeg 0))) := hD
  exact fin_v hx hb hr hlk hS () trivial hP hD (Nat.le_of_ble_eq_true rfl) (Nat.le_of_ble_eq_true rfl) d15_21_56
set_option maxHeartbeats 4000000 in
set_option maxRecDepth 100000 in
theorem a15_25_28 (l : Launch) (G : Gk) (Zd q : Nat → Nat)  (sz : Nat) : Met l y15_25 (Cond.code y15_25 prog_15_method_25_code 3 (some .boolean) :: TB) (rmD 5 0 0) (va_Pc [.ref (q 0)] (pcW G Zd (wM q G.2 (upd (upd (upd (upd mI0 1 0) 2 (-1)) 3 0) 4 0) mJ0 mA0 (va_up (va_up mB0 2 (vp_updL (mB0 2) (1920 : Int32).toNatClampNeg 0)) 3 (vp_updL (mB0 3) (1920 : Int32).toNatClampNeg 0))) sz)) (qI G (fun rr (_ : Unit) => rr = 0) (fun _ => (wM q G.2 (upd (upd (upd (upd mI0 1 0) 4 0) 2 0) 3 1) (vp_updL (vp_updL mJ0 0 0) 1 0) (va_up (va_up mA0 1 (upd (mA0 1) (1920 : Int32).toNatClampNeg (vp_nar .byte ((2 : Int32).toInt8.toInt32)))) 2 (upd (mA0 2) (1920 : Int32).toNatClampNeg (vp_nar .byte 1))) (va_up (va_up (va_up (va_up mB0 2 (vp_updL (mB0 2) (1920 : Int32).toNatClampNeg 0)) 3 (vp_updL (mB0 3) (1920 : Int32).toNatClampNeg 0)) 0 (vp_updL (mB0 0) (1920 : Int32).toNatClampNeg 0)) 1 (vp_updL (mB0 1) (1920 : Int32).toNatClampNeg 0)))) (va_A (wM q G.2 (upd (upd (upd (upd mI0 1 0) 2 (-1)) 3 0) 4 0) mJ0 mA0 (va_up (va_up mB0 2 (vp_updL (mB0 2) (1920 : Int32).toNatClampNeg 0)) 3 (vp_updL (mB0 3) (1920 : Int32).toNatClampNeg 0))) sz)) 0 0 (va_A (wM q G.2 (upd (upd (upd (upd mI0 1 0) 2 (-1)) 3 0) 4 0) mJ0 mA0 (va_up (va_up mB0 2 (vp_updL (mB0 2) (1920 : Int32).toNatClampNeg 0)) 3 (vp_updL (mB0 3) (1920 : Int32).toNatClampNeg 0))) sz) := by
  refine go (Qc := qI G (fun rr (_ : Unit) => rr = 0) (fun _ => (wM q G.2 (upd (upd (upd (upd mI0 1 0) 4 0) 2 0) 3 1) (vp_updL (vp_updL mJ0 0 0) 1 0) (va_up (va_up mA0 1 (upd (mA0 1) (1920 : Int32).toNatClampNeg (vp_nar .byte ((2 : Int32).toInt8.toInt32)))) 2 (upd (mA0 2) (1920 : Int32).toNatClampNeg (vp_nar .byte 1))) (va_up (va_up (va_up (va_up mB0 2 (vp_updL (mB0 2) (1920 : Int32).toNatClampNeg 0)) 3 (vp_updL (mB0 3) (1920 : Int32).toNatClampNeg 0)) 0 (vp_updL (mB0 0) (1920 : Int32).toNatClampNeg 0)) 1 (vp_updL (mB0 1) (1920 : Int32).toNatClampNeg 0))))) "PagedValuesModel" rfl (by decide) (Nat.le_of_ble_eq_true rfl) ?_
  intro p e s m below meth c ls A hx hb hr hlk hml hown hts hin hl hP hD hK hS hA hZ
  have hl : lv_has ls 3 [(0, .ref (q 0))] := hl
  refine lv_aload_n hx hb d15_25_0 rfl (lv_at hl 0 rfl) ?_
  refine va_get (D := G.1) (ci := 13) (v := .int 0) (C := r_13) (T := f_13) (N := 42) (ref := "PagedValuesModel") hx hb hts (fun w h => List.mem_cons_of_mem _ (ly_13 w h)) hown hK hP 0 rfl rfl 10 (by decide) (hts _ (List.mem_cons_of_mem _ k1161)) (fun _ h9 => h9) rfl d15_25_1 ?_
  refine lv_bipush (v := 24) hx hb d15_25_4 (by decide) ?_
  refine lv_icmp_ne (tgt := 15) hx hb d15_25_6 rfl (fun _ => ?_) (fun hc => absurd hc (by decide))
  refine lv_aload_n hx hb d15_25_15 rfl (lv_at hl 0 rfl) ?_
  refine lv_bipush (v := 91) hx hb d15_25_16 (by decide) ?_
  refine sV_i (As := [.int 91]) (rest := []) ⟨hx, hb, hml, hown, hts⟩ (a15_10_11 l G Zd q  _) (kw_V (n := 1) hts k1301 k1298 k15 k1300 ks36 (by decide +kernel) ⟨Nat.le_of_ble_eq_true rfl, Nat.le_of_ble_eq_true rfl⟩) hP hD hK hS hA hZ (va_recv (ci := 13) (q0 := 0) hK hP rfl rfl) rfl hl.1 rfl (Nat.le_of_ble_eq_true rfl) d15_25_18 ⟨Nat.le_of_ble_eq_true rfl, Nat.le_of_ble_eq_true rfl⟩ (fun rr u H locs hp hP hD hS => ?_)
  obtain rfl := hp
  refine W.eq (g2 := F0 m 21 ls [.int 0]) rfl ?_
  have hP : va_P G.1 vwCl (wM q G.2 (upd (upd (upd (upd mI0 1 0) 2 (-1)) 3 0) 4 0) mJ0 mA0 (va_up (va_up mB0 2 (vp_updL (mB0 2) (1920 : Int32).toNatClampNeg 0)) 3 (vp_updL (mB0 3) (1920 : Int32).toNatClampNeg 0))) H := hP
  have hD : va_D A (wM q G.2 (upd (upd (upd (upd mI0 1 0) 2 (-1)) 3 0) 4 0) mJ0 mA0 (va_up (va_up mB0 2 (vp_updL (mB0 2) (1920 : Int32).toNatClampNeg 0)) 3 (vp_updL (mB0 3) (1920 : Int32).toNatClampNeg 0))) := hD
  refine lv_istore_n (lv' := [(1, .int 0), (0, .ref (q 0))]) hx hb d15_25_21 rfl hl (by decide) rfl (fun ls hl => ?_)
  refine lv_iload_n hx hb d15_25_22 rfl (lv_at hl 0 rfl) ?_
  refine lv_if_ne (tgt := 55) hx hb d15_25_23 rfl (fun hc => absurd hc (by decide)) (fun _ => ?_)
  refine lv_aload_n hx hb d15_25_26 rfl (lv_at hl 1 rfl) ?_
  refine lv_bipush (v := 123) hx hb d15_25_27 (by decide) ?_
  refine sV_i (As := [.int 123]) (rest := []) ⟨hx, hb, hml, hown, hts⟩ (a15_10_12 l G Zd q  _) (kw_V (n := 1) hts k1301 k1298 k15 k1300 ks36 (by decide +kernel) ⟨Nat.le_of_ble_eq_true rfl, Nat.le_of_ble_eq_true rfl⟩) hP hD hK hS hA hZ (va_recv (ci := 13) (q0 := 0) hK hP rfl rfl) rfl hl.1 rfl (Nat.le_of_ble_eq_true rfl) d15_25_29 ⟨Nat.le_of_ble_eq_true rfl, Nat.le_of_ble_eq_true rfl⟩ (fun rr u H locs hp hP hD hS => ?_)
  obtain rfl := hp
  refine W.eq (g2 := F0 m 32 ls [.int 0]) rfl ?_
  have hP : va_P G.1 vwCl (wM q G.2 (upd (upd (upd (upd mI0 1 0) 2 (-1)) 3 0) 4 0) mJ0 mA0 (va_up (va_up mB0 2 (vp_updL (mB0 2) (1920 : Int32).toNatClampNeg 0)) 3 (vp_updL (mB0 3) (1920 : Int32).toNatClampNeg 0))) H := hP
  have hD : va_D A (wM q G.2 (upd (upd (upd (upd mI0 1 0) 2 (-1)) 3 0) 4 0) mJ0 mA0 (va_up (va_up mB0 2 (vp_updL (mB0 2) (1920 : Int32).toNatClampNeg 0)) 3 (vp_updL (mB0 3) (1920 : Int32).toNatClampNeg 0))) := hD
  refine lv_if_ne (tgt := 55) hx hb d15_25_32 rfl (fun hc => absurd hc (by decide)) (fun _ => ?_)
  refine lv_aload_n hx hb d15_25_35 rfl (lv_at hl 1 rfl) ?_
  refine sV_i (As := []) (rest := []) ⟨hx, hb, hml, hown, hts⟩ (a15_18_25 l G Zd q  _) (kw_V (n := 0) hts k1324 k1321 k15 k1323 ks41 (by decide +kernel) ⟨Nat.le_of_ble_eq_true rfl, Nat.le_of_ble_eq_true rfl⟩) hP hD hK hS hA hZ (va_recv (ci := 13) (q0 := 0) hK hP rfl rfl) rfl hl.1 rfl (Nat.le_of_ble_eq_true rfl) d15_25_36 ⟨Nat.le_of_ble_eq_true rfl, Nat.le_of_ble_eq_true rfl⟩ (fun rr u H locs hp hP hD hS => ?_)
  obtain rfl := hp
  refine W.eq (g2 := F0 m 39 ls [.int 2]) rfl ?_
  have hP : va_P G.1 vwCl (wM q G.2 (upd (upd (upd (upd mI0 1 0) 3 0) 4 0) 2 0) (vp_updL (vp_updL mJ0 0 0) 1 0) mA0 (va_up (va_up mB0 2 (vp_updL (mB0 2) (1920 : Int32).toNatClampNeg 0)) 3 (vp_updL (mB0 3) (1920 : Int32).toNatClampNeg 0))) H := hP
  have hD : va_D A (wM q G.2 (upd (upd (upd (upd mI0 1 0) 3 0) 4 0) 2 0) (vp_updL (vp_updL mJ0 0 0) 1 0) mA0 (va_up (va_up mB0 2 (vp_updL (mB0 2) (1920 : Int32).toNatClampNeg 0)) 3 (vp_updL (mB0 3) (1920 : Int32).toNatClampNeg 0))) := hD
  refine lv_istore_n (lv' := [(2, .int 2), (1, .int 0), (0, .ref (q 0))]) hx hb d15_25_39 rfl hl (by decide) rfl (fun ls hl => ?_)
  refine lv_aload_n hx hb d15_25_40 rfl (lv_at hl 2 rfl) ?_
  refine lv_iload_n hx hb d15_25_41 rfl (lv_at hl 0 rfl) ?_
  refine lv_aload_n hx hb d15_25_42 rfl (lv_at hl 2 rfl) ?_
  refine va_get (D := G.1) (ci := 13) (v := .long 0) (C := r_13) (T := f_13) (N := 42) (ref := "PagedValuesModel") hx hb hts (fun w h => List.mem_cons_of_mem _ (ly_13 w h)) hown hK hP 0 rfl rfl 11 (by decide) (hts _ (List.mem_cons_of_mem _ k1162)) (fun _ h9 => h9) rfl d15_25_43 ?_
  refine lv_aload_n hx hb d15_25_46 rfl (lv_at hl 2 rfl) ?_
  refine va_get (D := G.1) (ci := 13) (v := .long 0) (C := r_13) (T := f_13) (N := 42) (ref := "PagedValuesModel") hx hb hts (fun w h => List.mem_cons_of_mem _ (ly_13 w h)) hown hK hP 0 rfl rfl 12 (by decide) (hts _ (List.mem_cons_of_mem _ k1163)) (fun _ h9 => h9) rfl d15_25_47 ?_
  refine sV_v (As := [.int 2, .long 0, .long 0]) (rest := []) ⟨hx, hb, hml, hown, hts⟩ (a15_21_27 l G Zd q  _) (kw_V (n := 3) hts k1372 k1369 k15 k1371 ks51 (by decide +kernel) ⟨Nat.le_of_ble_eq_true rfl, Nat.le_of_ble_eq_true rfl⟩) hP hD hK hS hA hZ (va_recv (ci := 13) (q0 := 0) hK hP rfl rfl) rfl hl.1 rfl (Nat.le_of_ble_eq_true rfl) d15_25_50 ⟨Nat.le_of_ble_eq_true rfl, Nat.le_of_ble_eq_true rfl⟩ (fun u H locs hp hP hD hS => ?_)
  refine W.eq (g2 := F0 m 53 ls []) rfl ?_
  have hP : va_P G.1 vwCl (wM q G.2 (upd (upd (upd (upd mI0 1 0) 4 0) 2 0) 3 1) (vp_updL (vp_updL mJ0 0 0) 1 0) (va_up (va_up mA0 1 (upd (mA0 1) (1920 : Int32).toNatClampNeg (vp_nar .byte ((2 : Int32).toInt8.toInt32)))) 2 (upd (mA0 2) (1920 : Int32).toNatClampNeg (vp_nar .byte 1))) (va_up (va_up (va_up (va_up mB0 2 (vp_updL (mB0 2) (1920 : Int32).toNatClampNeg 0)) 3 (vp_updL (mB0 3) (1920 : Int32).toNatClampNeg 0)) 0 (vp_updL (mB0 0) (1920 : Int32).toNatClampNeg 0)) 1 (vp_updL (mB0 1) (1920 : Int32).toNatClampNeg 0))) H := hP
  have hD : va_D A (wM q G.2 (upd (upd (upd (upd mI0 1 0) 4 0) 2 0) 3 1) (vp_updL (vp_updL mJ0 0 0) 1 0) (va_up (va_up mA0 1 (upd (mA0 1) (1920 : Int32).toNatClampNeg (vp_nar .byte ((2 : Int32).toInt8.toInt32)))) 2 (upd (mA0 2) (1920 : Int32).toNatClampNeg (vp_nar .byte 1))) (va_up (va_up (va_up (va_up mB0 2 (vp_updL (mB0 2) (1920 : Int32).toNatClampNeg 0)) 3 (vp_updL (mB0 3) (1920 : Int32).toNatClampNeg 0)) 0 (vp_updL (mB0 0) (1920 : Int32).toNatClampNeg 0)) 1 (vp_updL (mB0 1) (1920 : Int32).toNatClampNeg 0))) := hD
  refine lv_iconst (v := 0) hx hb d15_25_53 (by decide) ?_
  exact fin_z hx hb hr hlk (by decide) hS () rfl hP hD (Nat.le_of_ble_eq_true rfl) (Nat.le_of_ble_eq_true rfl) d15_25_54
set_option maxHeartbeats 4000000 in
set_option maxRecDepth 100000 in
theorem a15_10_29 (l : Launch) (G : Gk) (Zd q : Nat → Nat)  (sz : Nat) : Met l y15_10 (Cond.code y15_10 prog_15_method_10_code 2 (some .boolean) :: TB) (rmD 0 0 0) (va_Pc [.ref (q 0), .int 32] (pcW G Zd (wM q G.2 (upd (upd (upd (upd mI0 1 0) 4 0) 2 0) 3 1) (vp_updL (vp_updL mJ0 0 0) 1 0) (va_up (va_up mA0 1 (upd (mA0 1) (1920 : Int32).toNatClampNeg (vp_nar .byte ((2 : Int32).toInt8.toInt32)))) 2 (upd (mA0 2) (1920 : Int32).toNatClampNeg (vp_nar .byte 1))) (va_up (va_up (va_up (va_up mB0 2 (vp_updL (mB0 2) (1920 : Int32).toNatClampNeg 0)) 3 (vp_updL (mB0 3) (1920 : Int32).toNatClampNeg 0)) 0 (vp_updL (mB0 0) (1920 : Int32).toNatClampNeg 0)) 1 (vp_updL (mB0 1) (1920 : Int32).toNatClampNeg 0))) sz)) (qI G (fun rr (_ : Unit) => rr = 0) (fun _ => (wM q G.2 (upd (upd (upd (upd mI0 1 0) 4 0) 2 0) 3 1) (vp_updL (vp_updL mJ0 0 0) 1 0) (va_up (va_up mA0 1 (upd (mA0 1) (1920 : Int32).toNatClampNeg (vp_nar .byte ((2 : Int32).toInt8.toInt32)))) 2 (upd (mA0 2) (1920 : Int32).toNatClampNeg (vp_nar .byte 1))) (va_up (va_up (va_up (va_up mB0 2 (vp_updL (mB0 2) (1920 : Int32).toNatClampNeg 0)) 3 (vp_updL (mB0 3) (1920 : Int32).toNatClampNeg 0)) 0 (vp_updL (mB0 0) (1920 : Int32).toNatClampNeg 0)) 1 (vp_updL (mB0 1) (1920 : Int32).toNatClampNeg 0)))) (va_A (wM q G.2 (upd (upd (upd (upd mI0 1 0) 4 0) 2 0) 3 1) (vp_updL (vp_updL mJ0 0 0) 1 0) (va_up (va_up mA0 1 (upd (mA0 1) (1920 : Int32).toNatClampNeg (vp_nar .byte ((2 : Int32).toInt8.toInt32)))) 2 (upd (mA0 2) (1920 : Int32).toNatClampNeg (vp_nar .byte 1))) (va_up (va_up (va_up (va_up mB0 2 (vp_updL (mB0 2) (1920 : Int32).toNatClampNeg 0)) 3 (vp_updL (mB0 3) (1920 : Int32).toNatClampNeg 0)) 0 (vp_updL (mB0 0) (1920 : Int32).toNatClampNeg 0)) 1 (vp_updL (mB0 1) (1920 : Int32).toNatClampNeg 0))) sz)) 0 0 (va_A (wM q G.2 (upd (upd (upd (upd mI0 1 0) 4 0) 2 0) 3 1) (vp_updL (vp_updL mJ0 0 0) 1 0) (va_up (va_up mA0 1 (upd (mA0 1) (1920 : Int32).toNatClampNeg (vp_nar .byte ((2 : Int32).toInt8.toInt32)))) 2 (upd (mA0 2) (1920 : Int32).toNatClampNeg (vp_nar .byte 1))) (va_up (va_up (va_up (va_up mB0 2 (vp_updL (mB0 2) (1920 : Int32).toNatClampNeg 0)) 3 (vp_updL (mB0 3) (1920 : Int32).toNatClampNeg 0)) 0 (vp_updL (mB0 0) (1920 : Int32).toNatClampNeg 0)) 1 (vp_updL (mB0 1) (1920 : Int32).toNatClampNeg 0))) sz) := by
  refine go (Qc := qI G (fun rr (_ : Unit) => rr = 0) (fun _ => (wM q G.2 (upd (upd (upd (upd mI0 1 0) 4 0) 2 0) 3 1) (vp_updL (vp_updL mJ0 0 0) 1 0) (va_up (va_up mA0 1 (upd (mA0 1) (1920 : Int32).toNatClampNeg (vp_nar .byte ((2 : Int32).toInt8.toInt32)))) 2 (upd (mA0 2) (1920 : Int32).toNatClampNeg (vp_nar .byte 1))) (va_up (va_up (va_up (va_up mB0 2 (vp_updL (mB0 2) (1920 : Int32).toNatClampNeg 0)) 3 (vp_updL (mB0 3) (1920 : Int32).toNatClampNeg 0)) 0 (vp_updL (mB0 0) (1920 : Int32).toNatClampNeg 0)) 1 (vp_updL (mB0 1) (1920 : Int32).toNatClampNeg 0))))) "PagedValuesModel" rfl (by decide) (Nat.le_of_ble_eq_true rfl) ?_
  intro p e s m below meth c ls A hx hb hr hlk hml hown hts hin hl hP hD hK hS hA hZ
  have hl : lv_has ls 2 [(0, .ref (q 0)), (1, .int 32)] := hl
  refine lv_aload_n hx hb d15_10_0 rfl (lv_at hl 0 rfl) ?_
  refine va_get (D := G.1) (ci := 13) (v := .int 0) (C := r_13) (T := f_13) (N := 42) (ref := "PagedValuesModel") hx hb hts (fun w h => List.mem_cons_of_mem _ (ly_13 w h)) hown hK hP 0 rfl rfl 3 (by decide) (hts _ (List.mem_cons_of_mem _ k1154)) (fun _ h9 => h9) rfl d15_10_1 ?_
  refine lv_if_ge (tgt := 19) hx hb d15_10_4 rfl (fun _ => ?_) (fun hc => absurd hc (by decide))
  refine lv_iconst (v := 0) hx hb d15_10_19 (by decide) ?_
  exact fin_z hx hb hr hlk (by decide) hS () rfl hP hD (Nat.le_of_ble_eq_true rfl) (Nat.le_of_ble_eq_true rfl) d15_10_20
set_option maxHeartbeats 4000000 in
set_option maxRecDepth 100000 in
theorem a15_10_30 (l : Launch) (G : Gk) (Zd q : Nat → Nat)  (sz : Nat) : Met l y15_10 (Cond.code y15_10 prog_15_method_10_code 2 (some .boolean) :: TB) (rmD 0 0 0) (va_Pc [.ref (q 0), .int 9] (pcW G Zd (wM q G.2 (upd (upd (upd (upd mI0 1 0) 4 0) 2 0) 3 1) (vp_updL (vp_updL mJ0 0 0) 1 0) (va_up (va_up mA0 1 (upd (mA0 1) (1920 : Int32).toNatClampNeg (vp_nar .byte ((2 : Int32).toInt8.toInt32)))) 2 (upd (mA0 2) (1920 : Int32).toNatClampNeg (vp_nar .byte 1))) (va_up (va_up (va_up (va_up mB0 2 (vp_updL (mB0 2) (1920 : Int32).toNatClampNeg 0)) 3 (vp_updL (mB0 3) (1920 : Int32).toNatClampNeg 0)) 0 (vp_updL (mB0 0) (1920 : Int32).toNatClampNeg 0)) 1 (vp_updL (mB0 1) (1920 : Int32).toNatClampNeg 0))) sz)) (qI G (fun rr (_ : Unit) => rr = 0) (fun _ => (wM q G.2 (upd (upd (upd (upd mI0 1 0) 4 0) 2 0) 3 1) (vp_updL (vp_updL mJ0 0 0) 1 0) (va_up (va_up mA0 1 (upd (mA0 1) (1920 : Int32).toNatClampNeg (vp_nar .byte ((2 : Int32).toInt8.toInt32)))) 2 (upd (mA0 2) (1920 : Int32).toNatClampNeg (vp_nar .byte 1))) (va_up (va_up (va_up (va_up mB0 2 (vp_updL (mB0 2) (1920 : Int32).toNatClampNeg 0)) 3 (vp_updL (mB0 3) (1920 : Int32).toNatClampNeg 0)) 0 (vp_updL (mB0 0) (1920 : Int32).toNatClampNeg 0)) 1 (vp_updL (mB0 1) (1920 : Int32).toNatClampNeg 0)))) (va_A (wM q G.2 (upd (upd (upd (upd mI0 1 0) 4 0) 2 0) 3 1) (vp_updL (vp_updL mJ0 0 0) 1 0) (va_up (va_up mA0 1 (upd (mA0 1) (1920 : Int32).toNatClampNeg (vp_nar .byte ((2 : Int32).toInt8.toInt32)))) 2 (upd (mA0 2) (1920 : Int32).toNatClampNeg (vp_nar .byte 1))) (va_up (va_up (va_up (va_up mB0 2 (vp_updL (mB0 2) (1920 : Int32).toNatClampNeg 0)) 3 (vp_updL (mB0 3) (1920 : Int32).toNatClampNeg 0)) 0 (vp_updL (mB0 0) (1920 : Int32).toNatClampNeg 0)) 1 (vp_updL (mB0 1) (1920 : Int32).toNatClampNeg 0))) sz)) 0 0 (va_A (wM q G.2 (upd (upd (upd (upd mI0 1 0) 4 0) 2 0) 3 1) (vp_updL (vp_updL mJ0 0 0) 1 0) (va_up (va_up mA0 1 (upd (mA0 1) (1920 : Int32).toNatClampNeg (vp_nar .byte ((2 : Int32).toInt8.toInt32)))) 2 (upd (mA0 2) (1920 : Int32).toNatClampNeg (vp_nar .byte 1))) (va_up (va_up (va_up (va_up mB0 2 (vp_updL (mB0 2) (1920 : Int32).toNatClampNeg 0)) 3 (vp_updL (mB0 3) (1920 : Int32).toNatClampNeg 0)) 0 (vp_updL (mB0 0) (1920 : Int32).toNatClampNeg 0)) 1 (vp_updL (mB0 1) (1920 : Int32).toNatClampNeg 0))) sz) := by
  refine go (Qc := qI G (fun rr (_ : Unit) => rr = 0) (fun _ => (wM q G.2 (upd (upd (upd (upd mI0 1 0) 4 0) 2 0) 3 1) (vp_updL (vp_updL mJ0 0 0) 1 0) (va_up (va_up mA0 1 (upd (mA0 1) (1920 : Int32).toNatClampNeg (vp_nar .byte ((2 : Int32).toInt8.toInt32)))) 2 (upd (mA0 2) (1920 : Int32).toNatClampNeg (vp_nar .byte 1))) (va_up (va_up (va_up (va_up mB0 2 (vp_updL (mB0 2) (1920 : Int32).toNatClampNeg 0)) 3 (vp_updL (mB0 3) (1920 : Int32).toNatClampNeg 0)) 0 (vp_updL (mB0 0) (1920 : Int32).toNatClampNeg 0)) 1 (vp_updL (mB0 1) (1920 : Int32).toNatClampNeg 0))))) "PagedValuesModel" rfl (by decide) (Nat.le_of_ble_eq_true rfl) ?_
  intro p e s m below meth c ls A hx hb hr hlk hml hown hts hin hl hP hD hK hS hA hZ
  have hl : lv_has ls 2 [(0, .ref (q 0)), (1, .int 9)] := hl
  refine lv_aload_n hx hb d15_10_0 rfl (lv_at hl 0 rfl) ?_
  refine va_get (D := G.1) (ci := 13) (v := .int 0) (C := r_13) (T := f_13) (N := 42) (ref := "PagedValuesModel") hx hb hts (fun w h => List.mem_cons_of_mem _ (ly_13 w h)) hown hK hP 0 rfl rfl 3 (by decide) (hts _ (List.mem_cons_of_mem _ k1154)) (fun _ h9 => h9) rfl d15_10_1 ?_
  refine lv_if_ge (tgt := 19) hx hb d15_10_4 rfl (fun _ => ?_) (fun hc => absurd hc (by decide))
  refine lv_iconst (v := 0) hx hb d15_10_19 (by decide) ?_
  exact fin_z hx hb hr hlk (by decide) hS () rfl hP hD (Nat.le_of_ble_eq_true rfl) (Nat.le_of_ble_eq_true rfl) d15_10_20
set_option maxHeartbeats 4000000 in
set_option maxRecDepth 100000 in
theorem a15_10_31 (l : Launch) (G : Gk) (Zd q : Nat → Nat)  (sz : Nat) : Met l y15_10 (Cond.code y15_10 prog_15_method_10_code 2 (some .boolean) :: TB) (rmD 0 0 0) (va_Pc [.ref (q 0), .int 10] (pcW G Zd (wM q G.2 (upd (upd (upd (upd mI0 1 0) 4 0) 2 0) 3 1) (vp_updL (vp_updL mJ0 0 0) 1 0) (va_up (va_up mA0 1 (upd (mA0 1) (1920 : Int32).toNatClampNeg (vp_nar .byte ((2 : Int32).toInt8.toInt32)))) 2 (upd (mA0 2) (1920 : Int32).toNatClampNeg (vp_nar .byte 1))) (va_up (va_up (va_up (va_up mB0 2 (vp_updL (mB0 2) (1920 : Int32).toNatClampNeg 0)) 3 (vp_updL (mB0 3) (1920 : Int32).toNatClampNeg 0)) 0 (vp_updL (mB0 0) (1920 : Int32).toNatClampNeg 0)) 1 (vp_updL (mB0 1) (1920 : Int32).toNatClampNeg 0))) sz)) (qI G (fun rr (_ : Unit) => rr = 0) (fun _ => (wM q G.2 (upd (upd (upd (upd mI0 1 0) 4 0) 2 0) 3 1) (vp_updL (vp_updL mJ0 0 0) 1 0) (va_up (va_up mA0 1 (upd (mA0 1) (1920 : Int32).toNatClampNeg (vp_nar .byte ((2 : Int32).toInt8.toInt32)))) 2 (upd (mA0 2) (1920 : Int32).toNatClampNeg (vp_nar .byte 1))) (va_up (va_up (va_up (va_up mB0 2 (vp_updL (mB0 2) (1920 : Int32).toNatClampNeg 0)) 3 (vp_updL (mB0 3) (1920 : Int32).toNatClampNeg 0)) 0 (vp_updL (mB0 0) (1920 : Int32).toNatClampNeg 0)) 1 (vp_updL (mB0 1) (1920 : Int32).toNatClampNeg 0)))) (va_A (wM q G.2 (upd (upd (upd (upd mI0 1 0) 4 0) 2 0) 3 1) (vp_updL (vp_updL mJ0 0 0) 1 0) (va_up (va_up mA0 1 (upd (mA0 1) (1920 : Int32).toNatClampNeg (vp_nar .byte ((2 : Int32).toInt8.toInt32)))) 2 (upd (mA0 2) (1920 : Int32).toNatClampNeg (vp_nar .byte 1))) (va_up (va_up (va_up (va_up mB0 2 (vp_updL (mB0 2) (1920 : Int32).toNatClampNeg 0)) 3 (vp_updL (mB0 3) (1920 : Int32).toNatClampNeg 0)) 0 (vp_updL (mB0 0) (1920 : Int32).toNatClampNeg 0)) 1 (vp_updL (mB0 1) (1920 : Int32).toNatClampNeg 0))) sz)) 0 0 (va_A (wM q G.2 (upd (upd (upd (upd mI0 1 0) 4 0) 2 0) 3 1) (vp_updL (vp_updL mJ0 0 0) 1 0) (va_up (va_up mA0 1 (upd (mA0 1) (1920 : Int32).toNatClampNeg (vp_nar .byte ((2 : Int32).toInt8.toInt32)))) 2 (upd (mA0 2) (1920 : Int32).toNatClampNeg (vp_nar .byte 1))) (va_up (va_up (va_up (va_up mB0 2 (vp_updL (mB0 2) (1920 : Int32).toNatClampNeg 0)) 3 (vp_updL (mB0 3) (1920 : Int32).toNatClampNeg 0)) 0 (vp_updL (mB0 0) (1920 : Int32).toNatClampNeg 0)) 1 (vp_updL (mB0 1) (1920 : Int32).toNatClampNeg 0))) sz) := by
  refine go (Qc := qI G (fun rr (_ : Unit) => rr = 0) (fun _ => (wM q G.2 (upd (upd (upd (upd mI0 1 0) 4 0) 2 0) 3 1) (vp_updL (vp_updL mJ0 0 0) 1 0) (va_up (va_up mA0 1 (upd (mA0 1) (1920 : Int32).toNatClampNeg (vp_nar .byte ((2 : Int32).toInt8.toInt32)))) 2 (upd (mA0 2) (1920 : Int32).toNatClampNeg (vp_nar .byte 1))) (va_up (va_up (va_up (va_up mB0 2 (vp_updL (mB0 2) (1920 : Int32).toNatClampNeg 0)) 3 (vp_updL (mB0 3) (1920 : Int32).toNatClampNeg 0)) 0 (vp_updL (mB0 0) (1920 : Int32).toNatClampNeg 0)) 1 (vp_updL (mB0 1) (1920 : Int32).toNatClampNeg 0))))) "PagedValuesModel" rfl (by decide) (Nat.le_of_ble_eq_true rfl) ?_
  intro p e s m below meth c ls A hx hb hr hlk hml hown hts hin hl hP hD hK hS hA hZ
  have hl : lv_has ls 2 [(0, .ref (q 0)), (1, .int 10)] := hl
  refine lv_aload_n hx hb d15_10_0 rfl (lv_at hl 0 rfl) ?_
  refine va_get (D := G.1) (ci := 13) (v := .int 0) (C := r_13) (T := f_13) (N := 42) (ref := "PagedValuesModel") hx hb hts (fun w h => List.mem_cons_of_mem _ (ly_13 w h)) hown hK hP 0 rfl rfl 3 (by decide) (hts _ (List.mem_cons_of_mem _ k1154)) (fun _ h9 => h9) rfl d15_10_1 ?_
  refine lv_if_ge (tgt := 19) hx hb d15_10_4 rfl (fun _ => ?_) (fun hc => absurd hc (by decide))
  refine lv_iconst (v := 0) hx hb d15_10_19 (by decide) ?_
  exact fin_z hx hb hr hlk (by decide) hS () rfl hP hD (Nat.le_of_ble_eq_true rfl) (Nat.le_of_ble_eq_true rfl) d15_10_20
set_option maxHeartbeats 4000000 in
set_option maxRecDepth 100000 in
theorem a15_10_32 (l : Launch) (G : Gk) (Zd q : Nat → Nat)  (sz : Nat) : Met l y15_10 (Cond.code y15_10 prog_15_method_10_code 2 (some .boolean) :: TB) (rmD 0 0 0) (va_Pc [.ref (q 0), .int 13] (pcW G Zd (wM q G.2 (upd (upd (upd (upd mI0 1 0) 4 0) 2 0) 3 1) (vp_updL (vp_updL mJ0 0 0) 1 0) (va_up (va_up mA0 1 (upd (mA0 1) (1920 : Int32).toNatClampNeg (vp_nar .byte ((2 : Int32).toInt8.toInt32)))) 2 (upd (mA0 2) (1920 : Int32).toNatClampNeg (vp_nar .byte 1))) (va_up (va_up (va_up (va_up mB0 2 (vp_updL (mB0 2) (1920 : Int32).toNatClampNeg 0)) 3 (vp_updL (mB0 3) (1920 : Int32).toNatClampNeg 0)) 0 (vp_updL (mB0 0) (1920 : Int32).toNatClampNeg 0)) 1 (vp_updL (mB0 1) (1920 : Int32).toNatClampNeg 0))) sz)) (qI G (fun rr (_ : Unit) => rr = 0) (fun _ => (wM q G.2 (upd (upd (upd (upd mI0 1 0) 4 0) 2 0) 3 1) (vp_updL (vp_updL mJ0 0 0) 1 0) (va_up (va_up mA0 1 (upd (mA0 1) (1920 : Int32).toNatClampNeg (vp_nar .byte ((2 : Int32).toInt8.toInt32)))) 2 (upd (mA0 2) (1920 : Int32).toNatClampNeg (vp_nar .byte 1))) (va_up (va_up (va_up (va_up mB0 2 (vp_updL (mB0 2) (1920 : Int32).toNatClampNeg 0)) 3 (vp_updL (mB0 3) (1920 : Int32).toNatClampNeg 0)) 0 (vp_updL (mB0 0) (1920 : Int32).toNatClampNeg 0)) 1 (vp_updL (mB0 1) (1920 : Int32).toNatClampNeg 0)))) (va_A (wM q G.2 (upd (upd (upd (upd mI0 1 0) 4 0) 2 0) 3 1) (vp_updL (vp_updL mJ0 0 0) 1 0) (va_up (va_up mA0 1 (upd (mA0 1) (1920 : Int32).toNatClampNeg (vp_nar .byte ((2 : Int32).toInt8.toInt32)))) 2 (upd (mA0 2) (1920 : Int32).toNatClampNeg (vp_nar .byte 1))) (va_up (va_up (va_up (va_up mB0 2 (vp_updL (mB0 2) (1920 : Int32).toNatClampNeg 0)) 3 (vp_updL (mB0 3) (1920 : Int32).toNatClampNeg 0)) 0 (vp_updL (mB0 0) (1920 : Int32).toNatClampNeg 0)) 1 (vp_updL (mB0 1) (1920 : Int32).toNatClampNeg 0))) sz)) 0 0 (va_A (wM q G.2 (upd (upd (upd (upd mI0 1 0) 4 0) 2 0) 3 1) (vp_updL (vp_updL mJ0 0 0) 1 0) (va_up (va_up mA0 1 (upd (mA0 1) (1920 : Int32).toNatClampNeg (vp_nar .byte ((2 : Int32).toInt8.toInt32)))) 2 (upd (mA0 2) (1920 : Int32).toNatClampNeg (vp_nar .byte 1))) (va_up (va_up (va_up (va_up mB0 2 (vp_updL (mB0 2) (1920 : Int32).toNatClampNeg 0)) 3 (vp_updL (mB0 3) (1920 : Int32).toNatClampNeg 0)) 0 (vp_updL (mB0 0) (1920 : Int32).toNatClampNeg 0)) 1 (vp_updL (mB0 1) (1920 : Int32).toNatClampNeg 0))) sz) := by
  refine go (Qc := qI G (fun rr (_ : Unit) => rr = 0) (fun _ => (wM q G.2 (upd (upd (upd (upd mI0 1 0) 4 0) 2 0) 3 1) (vp_updL (vp_updL mJ0 0 0) 1 0) (va_up (va_up mA0 1 (upd (mA0 1) (1920 : Int32).toNatClampNeg (vp_nar .byte ((2 : Int32).toInt8.toInt32)))) 2 (upd (mA0 2) (1920 : Int32).toNatClampNeg (vp_nar .byte 1))) (va_up (va_up (va_up (va_up mB0 2 (vp_updL (mB0 2) (1920 : Int32).toNatClampNeg 0)) 3 (vp_updL (mB0 3) (1920 : Int32).toNatClampNeg 0)) 0 (vp_updL (mB0 0) (1920 : Int32).toNatClampNeg 0)) 1 (vp_updL (mB0 1) (1920 : Int32).toNatClampNeg 0))))) "PagedValuesModel" rfl (by decide) (Nat.le_of_ble_eq_true rfl) ?_
  intro p e s m below meth c ls A hx hb hr hlk hml hown hts hin hl hP hD hK hS hA hZ
  have hl : lv_has ls 2 [(0, .ref (q 0)), (1, .int 13)] := hl
  refine lv_aload_n hx hb d15_10_0 rfl (lv_at hl 0 rfl) ?_
  refine va_get (D := G.1) (ci := 13) (v := .int 0) (C := r_13) (T := f_13) (N := 42) (ref := "PagedValuesModel") hx hb hts (fun w h => List.mem_cons_of_mem _ (ly_13 w h)) hown hK hP 0 rfl rfl 3 (by decide) (hts _ (List.mem_cons_of_mem _ k1154)) (fun _ h9 => h9) rfl d15_10_1 ?_
  refine lv_if_ge (tgt := 19) hx hb d15_10_4 rfl (fun _ => ?_) (fun hc => absurd hc (by decide))
  refine lv_iconst (v := 0) hx hb d15_10_19 (by decide) ?_
  exact fin_z hx hb hr hlk (by decide) hS () rfl hP hD (Nat.le_of_ble_eq_true rfl) (Nat.le_of_ble_eq_true rfl) d15_10_20
set_option maxHeartbeats 4000000 in
set_option maxRecDepth 100000 in
theorem a15_13_33 (l : Launch) (G : Gk) (Zd q : Nat → Nat)  (sz : Nat) : Met l y15_13 (Cond.code y15_13 prog_15_method_13_code 1 none :: TB) (rmD 1 0 0) (va_Pc [.ref (q 0)] (pcW G Zd (wM q G.2 (upd (upd (upd (upd mI0 1 0) 4 0) 2 0) 3 1) (vp_updL (vp_updL mJ0 0 0) 1 0) (va_up (va_up mA0 1 (upd (mA0 1) (1920 : Int32).toNatClampNeg (vp_nar .byte ((2 : Int32).toInt8.toInt32)))) 2 (upd (mA0 2) (1920 : Int32).toNatClampNeg (vp_nar .byte 1))) (va_up (va_up (va_up (va_up mB0 2 (vp_updL (mB0 2) (1920 : Int32).toNatClampNeg 0)) 3 (vp_updL (mB0 3) (1920 : Int32).toNatClampNeg 0)) 0 (vp_updL (mB0 0) (1920 : Int32).toNatClampNeg 0)) 1 (vp_updL (mB0 1) (1920 : Int32).toNatClampNeg 0))) sz)) (qV G (fun (_ : Unit) => True) (fun _ => (wM q G.2 (upd (upd (upd (upd mI0 1 0) 4 0) 2 0) 3 1) (vp_updL (vp_updL mJ0 0 0) 1 0) (va_up (va_up mA0 1 (upd (mA0 1) (1920 : Int32).toNatClampNeg (vp_nar .byte ((2 : Int32).toInt8.toInt32)))) 2 (upd (mA0 2) (1920 : Int32).toNatClampNeg (vp_nar .byte 1))) (va_up (va_up (va_up (va_up mB0 2 (vp_updL (mB0 2) (1920 : Int32).toNatClampNeg 0)) 3 (vp_updL (mB0 3) (1920 : Int32).toNatClampNeg 0)) 0 (vp_updL (mB0 0) (1920 : Int32).toNatClampNeg 0)) 1 (vp_updL (mB0 1) (1920 : Int32).toNatClampNeg 0)))) (va_A (wM q G.2 (upd (upd (upd (upd mI0 1 0) 4 0) 2 0) 3 1) (vp_updL (vp_updL mJ0 0 0) 1 0) (va_up (va_up mA0 1 (upd (mA0 1) (1920 : Int32).toNatClampNeg (vp_nar .byte ((2 : Int32).toInt8.toInt32)))) 2 (upd (mA0 2) (1920 : Int32).toNatClampNeg (vp_nar .byte 1))) (va_up (va_up (va_up (va_up mB0 2 (vp_updL (mB0 2) (1920 : Int32).toNatClampNeg 0)) 3 (vp_updL (mB0 3) (1920 : Int32).toNatClampNeg 0)) 0 (vp_updL (mB0 0) (1920 : Int32).toNatClampNeg 0)) 1 (vp_updL (mB0 1) (1920 : Int32).toNatClampNeg 0))) sz)) 0 0 (va_A (wM q G.2 (upd (upd (upd (upd mI0 1 0) 4 0) 2 0) 3 1) (vp_updL (vp_updL mJ0 0 0) 1 0) (va_up (va_up mA0 1 (upd (mA0 1) (1920 : Int32).toNatClampNeg (vp_nar .byte ((2 : Int32).toInt8.toInt32)))) 2 (upd (mA0 2) (1920 : Int32).toNatClampNeg (vp_nar .byte 1))) (va_up (va_up (va_up (va_up mB0 2 (vp_updL (mB0 2) (1920 : Int32).toNatClampNeg 0)) 3 (vp_updL (mB0 3) (1920 : Int32).toNatClampNeg 0)) 0 (vp_updL (mB0 0) (1920 : Int32).toNatClampNeg 0)) 1 (vp_updL (mB0 1) (1920 : Int32).toNatClampNeg 0))) sz) := by
  refine go (Qc := qV G (fun (_ : Unit) => True) (fun _ => (wM q G.2 (upd (upd (upd (upd mI0 1 0) 4 0) 2 0) 3 1) (vp_updL (vp_updL mJ0 0 0) 1 0) (va_up (va_up mA0 1 (upd (mA0 1) (1920 : Int32).toNatClampNeg (vp_nar .byte ((2 : Int32).toInt8.toInt32)))) 2 (upd (mA0 2) (1920 : Int32).toNatClampNeg (vp_nar .byte 1))) (va_up (va_up (va_up (va_up mB0 2 (vp_updL (mB0 2) (1920 : Int32).toNatClampNeg 0)) 3 (vp_updL (mB0 3) (1920 : Int32).toNatClampNeg 0)) 0 (vp_updL (mB0 0) (1920 : Int32).toNatClampNeg 0)) 1 (vp_updL (mB0 1) (1920 : Int32).toNatClampNeg 0))))) "PagedValuesModel" rfl (by decide) (Nat.le_of_ble_eq_true rfl) ?_
  intro p e s m below meth c ls A hx hb hr hlk hml hown hts hin hl hP hD hK hS hA hZ
  have hl : lv_has ls 1 [(0, .ref (q 0))] := hl
  refine lv_aload_n hx hb d15_13_0 rfl (lv_at hl 0 rfl) ?_
  refine lv_bipush (v := 32) hx hb d15_13_1 (by decide) ?_
  refine sV_i (As := [.int 32]) (rest := []) ⟨hx, hb, hml, hown, hts⟩ (a15_10_29 l G Zd q  _) (kw_V (n := 1) hts k1301 k1298 k15 k1300 ks36 (by decide +kernel) ⟨Nat.le_of_ble_eq_true rfl, Nat.le_of_ble_eq_true rfl⟩) hP hD hK hS hA hZ (va_recv (ci := 13) (q0 := 0) hK hP rfl rfl) rfl hl.1 rfl (Nat.le_of_ble_eq_true rfl) d15_13_3 ⟨Nat.le_of_ble_eq_true rfl, Nat.le_of_ble_eq_true rfl⟩ (fun rr u H locs hp hP hD hS => ?_)
  obtain rfl := hp
  refine W.eq (g2 := F0 m 6 ls [.int 0]) rfl ?_
  have hP : va_P G.1 vwCl (wM q G.2 (upd (upd (upd (upd mI0 1 0) 4 0) 2 0) 3 1) (vp_updL (vp_updL mJ0 0 0) 1 0) (va_up (va_up mA0 1 (upd (mA0 1) (1920 : Int32).toNatClampNeg (vp_nar .byte ((2 : Int32).toInt8.toInt32)))) 2 (upd (mA0 2) (1920 : Int32).toNatClampNeg (vp_nar .byte 1))) (va_up (va_up (va_up (va_up mB0 2 (vp_updL (mB0 2) (1920 : Int32).toNatClampNeg 0)) 3 (vp_updL (mB0 3) (1920 : Int32).toNatClampNeg 0)) 0 (vp_updL (mB0 0) (1920 : Int32).toNatClampNeg 0)) 1 (vp_updL (mB0 1) (1920 : Int32).toNatClampNeg 0))) H := hP
  have hD : va_D A (wM q G.2 (upd (upd (upd (upd mI0 1 0) 4 0) 2 0) 3 1) (vp_updL (vp_updL mJ0 0 0) 1 0) (va_up (va_up mA0 1 (upd (mA0 1) (1920 : Int32).toNatClampNeg (vp_nar .byte ((2 : Int32).toInt8.toInt32)))) 2 (upd (mA0 2) (1920 : Int32).toNatClampNeg (vp_nar .byte 1))) (va_up (va_up (va_up (va_up mB0 2 (vp_updL (mB0 2) (1920 : Int32).toNatClampNeg 0)) 3 (vp_updL (mB0 3) (1920 : Int32).toNatClampNeg 0)) 0 (vp_updL (mB0 0) (1920 : Int32).toNatClampNeg 0)) 1 (vp_updL (mB0 1) (1920 : Int32).toNatClampNeg 0))) := hD
  refine lv_if_ne (tgt := 36) hx hb d15_13_6 rfl (fun hc => absurd hc (by decide)) (fun _ => ?_)
  refine lv_aload_n hx hb d15_13_9 rfl (lv_at hl 0 rfl) ?_
  refine lv_bipush (v := 9) hx hb d15_13_10 (by decide) ?_
  refine sV_i (As := [.int 9]) (rest := []) ⟨hx, hb, hml, hown, hts⟩ (a15_10_30 l G Zd q  _) (kw_V (n := 1) hts k1301 k1298 k15 k1300 ks36 (by decide +kernel) ⟨Nat.le_of_ble_eq_true rfl, Nat.le_of_ble_eq_true rfl⟩) hP hD hK hS hA hZ (va_recv (ci := 13) (q0 := 0) hK hP rfl rfl) rfl hl.1 rfl (Nat.le_of_ble_eq_true rfl) d15_13_12 ⟨Nat.le_of_ble_eq_true rfl, Nat.le_of_ble_eq_true rfl⟩ (fun rr u H locs hp hP hD hS => ?_)
  obtain rfl := hp
  refine W.eq (g2 := F0 m 15 ls [.int 0]) rfl ?_
  have hP : va_P G.1 vwCl (wM q G.2 (upd (upd (upd (upd mI0 1 0) 4 0) 2 0) 3 1) (vp_updL (vp_updL mJ0 0 0) 1 0) (va_up (va_up mA0 1 (upd (mA0 1) (1920 : Int32).toNatClampNeg (vp_nar .byte ((2 : Int32).toInt8.toInt32)))) 2 (upd (mA0 2) (1920 : Int32).toNatClampNeg (vp_nar .byte 1))) (va_up (va_up (va_up (va_up mB0 2 (vp_updL (mB0 2) (1920 : Int32).toNatClampNeg 0)) 3 (vp_updL (mB0 3) (1920 : Int32).toNatClampNeg 0)) 0 (vp_updL (mB0 0) (1920 : Int32).toNatClampNeg 0)) 1 (vp_updL (mB0 1) (1920 : Int32).toNatClampNeg 0))) H := hP
  have hD : va_D A (wM q G.2 (upd (upd (upd (upd mI0 1 0) 4 0) 2 0) 3 1) (vp_updL (vp_updL mJ0 0 0) 1 0) (va_up (va_up mA0 1 (upd (mA0 1) (1920 : Int32).toNatClampNeg (vp_nar .byte ((2 : Int32).toInt8.toInt32)))) 2 (upd (mA0 2) (1920 : Int32).toNatClampNeg (vp_nar .byte 1))) (va_up (va_up (va_up (va_up mB0 2 (vp_updL (mB0 2) (1920 : Int32).toNatClampNeg 0)) 3 (vp_updL (mB0 3) (1920 : Int32).toNatClampNeg 0)) 0 (vp_updL (mB0 0) (1920 : Int32).toNatClampNeg 0)) 1 (vp_updL (mB0 1) (1920 : Int32).toNatClampNeg 0))) := hD
  refine lv_if_ne (tgt := 36) hx hb d15_13_15 rfl (fun hc => absurd hc (by decide)) (fun _ => ?_)
  refine lv_aload_n hx hb d15_13_18 rfl (lv_at hl 0 rfl) ?_
  refine lv_bipush (v := 10) hx hb d15_13_19 (by decide) ?_
  refine sV_i (As := [.int 10]) (rest := []) ⟨hx, hb, hml, hown, hts⟩ (a15_10_31 l G Zd q  _) (kw_V (n := 1) hts k1301 k1298 k15 k1300 ks36 (by decide +kernel) ⟨Nat.le_of_ble_eq_true rfl, Nat.le_of_ble_eq_true rfl⟩) hP hD hK hS hA hZ (va_recv (ci := 13) (q0 := 0) hK hP rfl rfl) rfl hl.1 rfl (Nat.le_of_ble_eq_true rfl) d15_13_21 ⟨Nat.le_of_ble_eq_true rfl, Nat.le_of_ble_eq_true rfl⟩ (fun rr u H locs hp hP hD hS => ?_)
  obtain rfl := hp
  refine W.eq (g2 := F0 m 24 ls [.int 0]) rfl ?_
  have hP : va_P G.1 vwCl (wM q G.2 (upd (upd (upd (upd mI0 1 0) 4 0) 2 0) 3 1) (vp_updL (vp_updL mJ0 0 0) 1 0) (va_up (va_up mA0 1 (upd (mA0 1) (1920 : Int32).toNatClampNeg (vp_nar .byte ((2 : Int32).toInt8.toInt32)))) 2 (upd (mA0 2) (1920 : Int32).toNatClampNeg (vp_nar .byte 1))) (va_up (va_up (va_up (va_up mB0 2 (vp_updL (mB0 2) (1920 : Int32).toNatClampNeg 0)) 3 (vp_updL (mB0 3) (1920 : Int32).toNatClampNeg 0)) 0 (vp_updL (mB0 0) (1920 : Int32).toNatClampNeg 0)) 1 (vp_updL (mB0 1) (1920 : Int32).toNatClampNeg 0))) H := hP
  have hD : va_D A (wM q G.2 (upd (upd (upd (upd mI0 1 0) 4 0) 2 0) 3 1) (vp_updL (vp_updL mJ0 0 0) 1 0) (va_up (va_up mA0 1 (upd (mA0 1) (1920 : Int32).toNatClampNeg (vp_nar .byte ((2 : Int32).toInt8.toInt32)))) 2 (upd (mA0 2) (1920 : Int32).toNatClampNeg (vp_nar .byte 1))) (va_up (va_up (va_up (va_up mB0 2 (vp_updL (mB0 2) (1920 : Int32).toNatClampNeg 0)) 3 (vp_updL (mB0 3) (1920 : Int32).toNatClampNeg 0)) 0 (vp_updL (mB0 0) (1920 : Int32).toNatClampNeg 0)) 1 (vp_updL (mB0 1) (1920 : Int32).toNatClampNeg 0))) := hD
  refine lv_if_ne (tgt := 36) hx hb d15_13_24 rfl (fun hc => absurd hc (by decide)) (fun _ => ?_)
  refine lv_aload_n hx hb d15_13_27 rfl (lv_at hl 0 rfl) ?_
  refine lv_bipush (v := 13) hx hb d15_13_28 (by decide) ?_
  refine sV_i (As := [.int 13]) (rest := []) ⟨hx, hb, hml, hown, hts⟩ (a15_10_32 l G Zd q  _) (kw_V (n := 1) hts k1301 k1298 k15 k1300 ks36 (by decide +kernel) ⟨Nat.le_of_ble_eq_true rfl, Nat.le_of_ble_eq_true rfl⟩) hP hD hK hS hA hZ (va_recv (ci := 13) (q0 := 0) hK hP rfl rfl) rfl hl.1 rfl (Nat.le_of_ble_eq_true rfl) d15_13_30 ⟨Nat.le_of_ble_eq_true rfl, Nat.le_of_ble_eq_true rfl⟩ (fun rr u H locs hp hP hD hS => ?_)
  obtain rfl := hp
  refine W.eq (g2 := F0 m 33 ls [.int 0]) rfl ?_
  have hP : va_P G.1 vwCl (wM q G.2 (upd (upd (upd (upd mI0 1 0) 4 0) 2 0) 3 1) (vp_updL (vp_updL mJ0 0 0) 1 0) (va_up (va_up mA0 1 (upd (mA0 1) (1920 : Int32).toNatClampNeg (vp_nar .byte ((2 : Int32).toInt8.toInt32)))) 2 (upd (mA0 2) (1920 : Int32).toNatClampNeg (vp_nar .byte 1))) (va_up (va_up (va_up (va_up mB0 2 (vp_updL (mB0 2) (1920 : Int32).toNatClampNeg 0)) 3 (vp_updL (mB0 3) (1920 : Int32).toNatClampNeg 0)) 0 (vp_updL (mB0 0) (1920 : Int32).toNatClampNeg 0)) 1 (vp_updL (mB0 1) (1920 : Int32).toNatClampNeg 0))) H := hP
  have hD : va_D A (wM q G.2 (upd (upd (upd (upd mI0 1 0) 4 0) 2 0) 3 1) (vp_updL (vp_updL mJ0 0 0) 1 0) (va_up (va_up mA0 1 (upd (mA0 1) (1920 : Int32).toNatClampNeg (vp_nar .byte ((2 : Int32).toInt8.toInt32)))) 2 (upd (mA0 2) (1920 : Int32).toNatClampNeg (vp_nar .byte 1))) (va_up (va_up (va_up (va_up mB0 2 (vp_updL (mB0 2) (1920 : Int32).toNatClampNeg 0)) 3 (vp_updL (mB0 3) (1920 : Int32).toNatClampNeg 0)) 0 (vp_updL (mB0 0) (1920 : Int32).toNatClampNeg 0)) 1 (vp_updL (mB0 1) (1920 : Int32).toNatClampNeg 0))) := hD
  refine lv_if_eq (tgt := 49) hx hb d15_13_33 rfl (fun _ => ?_) (fun hc => absurd hc (by decide))
  exact fin_v hx hb hr hlk hS () trivial hP hD (Nat.le_of_ble_eq_true rfl) (Nat.le_of_ble_eq_true rfl) d15_13_49
set_option maxHeartbeats 4000000 in
set_option maxRecDepth 100000 in
theorem a15_28_34 (l : Launch) (G : Gk) (Zd q : Nat → Nat)  (sz : Nat) : Met l y15_28 (Cond.code y15_28 prog_15_method_28_code 4 none :: TB) (rmD 6 0 0) (va_Pc [.ref (q 0)] (pcW G Zd (wM q G.2 mI0 mJ0 mA0 mB0) sz)) (qV G (fun (_ : Unit) => True) (fun _ => (wM q G.2 (upd (upd (upd (upd mI0 1 0) 4 0) 2 0) 3 1) (vp_updL (vp_updL mJ0 0 0) 1 0) (va_up (va_up mA0 1 (upd (mA0 1) (1920 : Int32).toNatClampNeg (vp_nar .byte ((2 : Int32).toInt8.toInt32)))) 2 (upd (mA0 2) (1920 : Int32).toNatClampNeg (vp_nar .byte 1))) (va_up (va_up (va_up (va_up mB0 2 (vp_updL (mB0 2) (1920 : Int32).toNatClampNeg 0)) 3 (vp_updL (mB0 3) (1920 : Int32).toNatClampNeg 0)) 0 (vp_updL (mB0 0) (1920 : Int32).toNatClampNeg 0)) 1 (vp_updL (mB0 1) (1920 : Int32).toNatClampNeg 0)))) (va_A (wM q G.2 mI0 mJ0 mA0 mB0) sz)) 0 0 (va_A (wM q G.2 mI0 mJ0 mA0 mB0) sz) := by
  refine go (Qc := qV G (fun (_ : Unit) => True) (fun _ => (wM q G.2 (upd (upd (upd (upd mI0 1 0) 4 0) 2 0) 3 1) (vp_updL (vp_updL mJ0 0 0) 1 0) (va_up (va_up mA0 1 (upd (mA0 1) (1920 : Int32).toNatClampNeg (vp_nar .byte ((2 : Int32).toInt8.toInt32)))) 2 (upd (mA0 2) (1920 : Int32).toNatClampNeg (vp_nar .byte 1))) (va_up (va_up (va_up (va_up mB0 2 (vp_updL (mB0 2) (1920 : Int32).toNatClampNeg 0)) 3 (vp_updL (mB0 3) (1920 : Int32).toNatClampNeg 0)) 0 (vp_updL (mB0 0) (1920 : Int32).toNatClampNeg 0)) 1 (vp_updL (mB0 1) (1920 : Int32).toNatClampNeg 0))))) "PagedValuesModel" rfl (by decide) (Nat.le_of_ble_eq_true rfl) ?_
  intro p e s m below meth c ls A hx hb hr hlk hml hown hts hin hl hP hD hK hS hA hZ
  have hl : lv_has ls 4 [(0, .ref (q 0))] := hl
  refine lv_aload_n hx hb d15_28_0 rfl (lv_at hl 0 rfl) ?_
  refine lv_iconst (v := 0) hx hb d15_28_1 (by decide) ?_
  refine va_put (D := G.1) (ci := 13) (v := .int 0) (ty := .int) (C := r_13) (T := f_13) (N := 42) (ref := "PagedValuesModel") hx hb hts (fun w h => List.mem_cons_of_mem _ (ly_13 w h)) ft_13 ft_13_ok nm_13 hown hK hP hD hS 0 rfl rfl 2 (by decide) (hts _ (List.mem_cons_of_mem _ k1153)) (fun _ h9 => h9) rfl (by decide +kernel) rfl rfl (Nat.le_of_ble_eq_true rfl) d15_28_2 (fun H locs hP hD hS => ?_)
  have hP : va_P G.1 vwCl (wM q G.2 (upd mI0 1 0) mJ0 mA0 mB0) H := hP
  have hD : va_D A (wM q G.2 (upd mI0 1 0) mJ0 mA0 mB0) := hD
  refine lv_aload_n hx hb d15_28_5 rfl (lv_at hl 0 rfl) ?_
  refine lv_iconst (v := (-1)) hx hb d15_28_6 (by decide) ?_
  refine va_put (D := G.1) (ci := 13) (v := .int (-1)) (ty := .int) (C := r_13) (T := f_13) (N := 42) (ref := "PagedValuesModel") hx hb hts (fun w h => List.mem_cons_of_mem _ (ly_13 w h)) ft_13 ft_13_ok nm_13 hown hK hP hD hS 0 rfl rfl 3 (by decide) (hts _ (List.mem_cons_of_mem _ k1154)) (fun _ h9 => h9) rfl (by decide +kernel) rfl rfl (Nat.le_of_ble_eq_true rfl) d15_28_7 (fun H locs hP hD hS => ?_)
  have hP : va_P G.1 vwCl (wM q G.2 (upd (upd mI0 1 0) 2 (-1)) mJ0 mA0 mB0) H := hP
  have hD : va_D A (wM q G.2 (upd (upd mI0 1 0) 2 (-1)) mJ0 mA0 mB0) := hD
  refine lv_aload_n hx hb d15_28_10 rfl (lv_at hl 0 rfl) ?_
  refine lv_iconst (v := 0) hx hb d15_28_11 (by decide) ?_
  refine va_put (D := G.1) (ci := 13) (v := .int 0) (ty := .int) (C := r_13) (T := f_13) (N := 42) (ref := "PagedValuesModel") hx hb hts (fun w h => List.mem_cons_of_mem _ (ly_13 w h)) ft_13 ft_13_ok nm_13 hown hK hP hD hS 0 rfl rfl 10 (by decide) (hts _ (List.mem_cons_of_mem _ k1161)) (fun _ h9 => h9) rfl (by decide +kernel) rfl rfl (Nat.le_of_ble_eq_true rfl) d15_28_12 (fun H locs hP hD hS => ?_)
  have hP : va_P G.1 vwCl (wM q G.2 (upd (upd (upd mI0 1 0) 2 (-1)) 3 0) mJ0 mA0 mB0) H := hP
  have hD : va_D A (wM q G.2 (upd (upd (upd mI0 1 0) 2 (-1)) 3 0) mJ0 mA0 mB0) := hD
  refine lv_aload_n hx hb d15_28_15 rfl (lv_at hl 0 rfl) ?_
  refine lv_iconst (v := 0) hx hb d15_28_16 (by decide) ?_
  refine va_put (D := G.1) (ci := 13) (v := .int 0) (ty := .int) (C := r_13) (T := f_13) (N := 42) (ref := "PagedValuesModel") hx hb hts (fun w h => List.mem_cons_of_mem _ (ly_13 w h)) ft_13 ft_13_ok nm_13 hown hK hP hD hS 0 rfl rfl 13 (by decide) (hts _ (List.mem_cons_of_mem _ k1164)) (fun _ h9 => h9) rfl (by decide +kernel) rfl rfl (Nat.le_of_ble_eq_true rfl) d15_28_17 (fun H locs hP hD hS => ?_)
  have hP : va_P G.1 vwCl (wM q G.2 (upd (upd (upd (upd mI0 1 0) 2 (-1)) 3 0) 4 0) mJ0 mA0 mB0) H := hP
  have hD : va_D A (wM q G.2 (upd (upd (upd (upd mI0 1 0) 2 (-1)) 3 0) 4 0) mJ0 mA0 mB0) := hD
  refine lv_aload_n hx hb d15_28_20 rfl (lv_at hl 0 rfl) ?_
  refine sV_v (As := []) (rest := []) ⟨hx, hb, hml, hown, hts⟩ (a15_13_6 l G Zd q  _) (kw_V (n := 0) hts k1297 k1294 k15 k1296 ks35 (by decide +kernel) ⟨Nat.le_of_ble_eq_true rfl, Nat.le_of_ble_eq_true rfl⟩) hP hD hK hS hA hZ (va_recv (ci := 13) (q0 := 0) hK hP rfl rfl) rfl hl.1 rfl (Nat.le_of_ble_eq_true rfl) d15_28_21 ⟨Nat.le_of_ble_eq_true rfl, Nat.le_of_ble_eq_true rfl⟩ (fun u H locs hp hP hD hS => ?_)
  refine W.eq (g2 := F0 m 24 ls []) rfl ?_
  have hP : va_P G.1 vwCl (wM q G.2 (upd (upd (upd (upd mI0 1 0) 2 (-1)) 3 0) 4 0) mJ0 mA0 mB0) H := hP
  have hD : va_D A (wM q G.2 (upd (upd (upd (upd mI0 1 0) 2 (-1)) 3 0) 4 0) mJ0 mA0 mB0) := hD
  refine lv_aload_n hx hb d15_28_24 rfl (lv_at hl 0 rfl) ?_
  refine lv_lconst (v := 0) hx hb d15_28_25 (by decide) ?_
  refine lv_lconst (v := 0) hx hb d15_28_26 (by decide) ?_
  refine sV_v (As := [.long 0, .long 0]) (rest := []) ⟨hx, hb, hml, hown, hts⟩ (a15_23_9 l G Zd q  _) (kw_V (n := 2) hts k1309 k1306 k15 k1308 ks38 (by decide +kernel) ⟨Nat.le_of_ble_eq_true rfl, Nat.le_of_ble_eq_true rfl⟩) hP hD hK hS hA hZ (va_recv (ci := 13) (q0 := 0) hK hP rfl rfl) rfl hl.1 rfl (Nat.le_of_ble_eq_true rfl) d15_28_27 ⟨Nat.le_of_ble_eq_true rfl, Nat.le_of_ble_eq_true rfl⟩ (fun u H locs hp hP hD hS => ?_)
  refine W.eq (g2 := F0 m 30 ls []) rfl ?_
  have hP : va_P G.1 vwCl (wM q G.2 (upd (upd (upd (upd mI0 1 0) 2 (-1)) 3 0) 4 0) mJ0 mA0 (va_up (va_up mB0 2 (vp_updL (mB0 2) (1920 : Int32).toNatClampNeg 0)) 3 (vp_updL (mB0 3) (1920 : Int32).toNatClampNeg 0))) H := hP
  have hD : va_D A (wM q G.2 (upd (upd (upd (upd mI0 1 0) 2 (-1)) 3 0) 4 0) mJ0 mA0 (va_up (va_up mB0 2 (vp_updL (mB0 2) (1920 : Int32).toNatClampNeg 0)) 3 (vp_updL (mB0 3) (1920 : Int32).toNatClampNeg 0))) := hD
  refine lv_aload_n hx hb d15_28_30 rfl (lv_at hl 0 rfl) ?_
  refine sV_i (As := []) (rest := []) ⟨hx, hb, hml, hown, hts⟩ (a15_25_28 l G Zd q  _) (kw_V (n := 0) hts k1316 k1313 k15 k1315 ks39 (by decide +kernel) ⟨Nat.le_of_ble_eq_true rfl, Nat.le_of_ble_eq_true rfl⟩) hP hD hK hS hA hZ (va_recv (ci := 13) (q0 := 0) hK hP rfl rfl) rfl hl.1 rfl (Nat.le_of_ble_eq_true rfl) d15_28_31 ⟨Nat.le_of_ble_eq_true rfl, Nat.le_of_ble_eq_true rfl⟩ (fun rr u H locs hp hP hD hS => ?_)
  obtain rfl := hp
  refine W.eq (g2 := F0 m 34 ls [.int 0]) rfl ?_
  have hP : va_P G.1 vwCl (wM q G.2 (upd (upd (upd (upd mI0 1 0) 4 0) 2 0) 3 1) (vp_updL (vp_updL mJ0 0 0) 1 0) (va_up (va_up mA0 1 (upd (mA0 1) (1920 : Int32).toNatClampNeg (vp_nar .byte ((2 : Int32).toInt8.toInt32)))) 2 (upd (mA0 2) (1920 : Int32).toNatClampNeg (vp_nar .byte 1))) (va_up (va_up (va_up (va_up mB0 2 (vp_updL (mB0 2) (1920 : Int32).toNatClampNeg 0)) 3 (vp_updL (mB0 3) (1920 : Int32).toNatClampNeg 0)) 0 (vp_updL (mB0 0) (1920 : Int32).toNatClampNeg 0)) 1 (vp_updL (mB0 1) (1920 : Int32).toNatClampNeg 0))) H := hP
  have hD : va_D A (wM q G.2 (upd (upd (upd (upd mI0 1 0) 4 0) 2 0) 3 1) (vp_updL (vp_updL mJ0 0 0) 1 0) (va_up (va_up mA0 1 (upd (mA0 1) (1920 : Int32).toNatClampNeg (vp_nar .byte ((2 : Int32).toInt8.toInt32)))) 2 (upd (mA0 2) (1920 : Int32).toNatClampNeg (vp_nar .byte 1))) (va_up (va_up (va_up (va_up mB0 2 (vp_updL (mB0 2) (1920 : Int32).toNatClampNeg 0)) 3 (vp_updL (mB0 3) (1920 : Int32).toNatClampNeg 0)) 0 (vp_updL (mB0 0) (1920 : Int32).toNatClampNeg 0)) 1 (vp_updL (mB0 1) (1920 : Int32).toNatClampNeg 0))) := hD
  refine lv_istore_n (lv' := [(1, .int 0), (0, .ref (q 0))]) hx hb d15_28_34 rfl hl (by decide) rfl (fun ls hl => ?_)
  refine lv_iconst (v := 0) hx hb d15_28_35 (by decide) ?_
  refine lv_istore_n (lv' := [(2, .int 0), (1, .int 0), (0, .ref (q 0))]) hx hb d15_28_36 rfl hl (by decide) rfl (fun ls hl => ?_)
  refine lv_iload_n hx hb d15_28_37 rfl (lv_at hl 0 rfl) ?_
  refine lv_sipush (v := 200) hx hb d15_28_38 (by decide) ?_
  refine lv_icmp_ge (tgt := 171) hx hb d15_28_41 rfl (fun hc => absurd hc (by decide)) (fun _ => ?_)
  refine lv_aload_n hx hb d15_28_44 rfl (lv_at hl 2 rfl) ?_
  refine va_get (D := G.1) (ci := 13) (v := .int 0) (C := r_13) (T := f_13) (N := 42) (ref := "PagedValuesModel") hx hb hts (fun w h => List.mem_cons_of_mem _ (ly_13 w h)) hown hK hP 0 rfl rfl 3 (by decide) (hts _ (List.mem_cons_of_mem _ k1154)) (fun _ h9 => h9) rfl d15_28_45 ?_
  refine lv_if_ge (tgt := 171) hx hb d15_28_48 rfl (fun _ => ?_) (fun hc => absurd hc (by decide))
  refine lv_aload_n hx hb d15_28_171 rfl (lv_at hl 2 rfl) ?_
  refine sV_v (As := []) (rest := []) ⟨hx, hb, hml, hown, hts⟩ (a15_13_33 l G Zd q  _) (kw_V (n := 0) hts k1297 k1294 k15 k1296 ks35 (by decide +kernel) ⟨Nat.le_of_ble_eq_true rfl, Nat.le_of_ble_eq_true rfl⟩) hP hD hK hS hA hZ (va_recv (ci := 13) (q0 := 0) hK hP rfl rfl) rfl hl.1 rfl (Nat.le_of_ble_eq_true rfl) d15_28_172 ⟨Nat.le_of_ble_eq_true rfl, Nat.le_of_ble_eq_true rfl⟩ (fun u H locs hp hP hD hS => ?_)
  refine W.eq (g2 := F0 m 175 ls []) rfl ?_
  have hP : va_P G.1 vwCl (wM q G.2 (upd (upd (upd (upd mI0 1 0) 4 0) 2 0) 3 1) (vp_updL (vp_updL mJ0 0 0) 1 0) (va_up (va_up mA0 1 (upd (mA0 1) (1920 : Int32).toNatClampNeg (vp_nar .byte ((2 : Int32).toInt8.toInt32)))) 2 (upd (mA0 2) (1920 : Int32).toNatClampNeg (vp_nar .byte 1))) (va_up (va_up (va_up (va_up mB0 2 (vp_updL (mB0 2) (1920 : Int32).toNatClampNeg 0)) 3 (vp_updL (mB0 3) (1920 : Int32).toNatClampNeg 0)) 0 (vp_updL (mB0 0) (1920 : Int32).toNatClampNeg 0)) 1 (vp_updL (mB0 1) (1920 : Int32).toNatClampNeg 0))) H := hP
  have hD : va_D A (wM q G.2 (upd (upd (upd (upd mI0 1 0) 4 0) 2 0) 3 1) (vp_updL (vp_updL mJ0 0 0) 1 0) (va_up (va_up mA0 1 (upd (mA0 1) (1920 : Int32).toNatClampNeg (vp_nar .byte ((2 : Int32).toInt8.toInt32)))) 2 (upd (mA0 2) (1920 : Int32).toNatClampNeg (vp_nar .byte 1))) (va_up (va_up (va_up (va_up mB0 2 (vp_updL (mB0 2) (1920 : Int32).toNatClampNeg 0)) 3 (vp_updL (mB0 3) (1920 : Int32).toNatClampNeg 0)) 0 (vp_updL (mB0 0) (1920 : Int32).toNatClampNeg 0)) 1 (vp_updL (mB0 1) (1920 : Int32).toNatClampNeg 0))) := hD
  refine lv_aload_n hx hb d15_28_175 rfl (lv_at hl 2 rfl) ?_
  refine va_get (D := G.1) (ci := 13) (v := .int 0) (C := r_13) (T := f_13) (N := 42) (ref := "PagedValuesModel") hx hb hts (fun w h => List.mem_cons_of_mem _ (ly_13 w h)) hown hK hP 0 rfl rfl 3 (by decide) (hts _ (List.mem_cons_of_mem _ k1154)) (fun _ h9 => h9) rfl d15_28_176 ?_
  refine lv_if_ge (tgt := 197) hx hb d15_28_179 rfl (fun _ => ?_) (fun hc => absurd hc (by decide))
  exact fin_v hx hb hr hlk hS () trivial hP hD (Nat.le_of_ble_eq_true rfl) (Nat.le_of_ble_eq_true rfl) d15_28_197
set_option maxHeartbeats 4000000 in
set_option maxRecDepth 100000 in
theorem tm_put (l : Launch) (G : Gk) (Zd q : Nat → Nat) (id : Int32) (sz : Nat) : Met l y15_62 (Cond.code y15_62 prog_15_method_62_code 3 (some .int) :: TB) (rmD 7 0 0) (va_Pc [.ref (q 0), .int id] (pcW G Zd (wM q G.2 mI0 mJ0 mA0 mB0) sz)) (qI G (fun rr (_ : Unit) => rr = an_put id) (fun _ => []) (va_A (wM q G.2 mI0 mJ0 mA0 mB0) sz)) 0 0 (va_A (wM q G.2 mI0 mJ0 mA0 mB0) sz) := by
  refine go (Qc := qI G (fun rr (_ : Unit) => rr = an_put id) (fun _ => [])) "PagedValuesModel" rfl (by decide) (Nat.le_of_ble_eq_true rfl) ?_
  intro p e s m below meth c ls A hx hb hr hlk hml hown hts hin hl hP hD hK hS hA hZ
  have hl : lv_has ls 3 [(0, .ref (q 0)), (1, .int id)] := hl
  refine lv_aload_n hx hb d15_62_0 rfl (lv_at hl 0 rfl) ?_
  refine va_get (D := G.1) (ci := 13) (v := .int 0) (C := r_13) (T := f_13) (N := 42) (ref := "PagedValuesModel") hx hb hts (fun w h => List.mem_cons_of_mem _ (ly_13 w h)) hown hK hP 0 rfl rfl 40 (by decide) (hts _ (List.mem_cons_of_mem _ k1191)) (fun _ h9 => h9) rfl d15_62_1 ?_
  refine lv_if_ne (tgt := 17) hx hb d15_62_4 rfl (fun hc => absurd hc (by decide)) (fun _ => ?_)
  refine lv_iload_n hx hb d15_62_7 rfl (lv_at hl 1 rfl) ?_
  refine lv_iconst (v := 0) hx hb d15_62_8 (by decide) ?_
  refine lv_bipush (v := 7) hx hb d15_62_9 (by decide) ?_
  refine sS_i (As := [.int id, .int 0, .int 7]) (rest := []) ⟨hx, hb, hml, hown, hts⟩ (am_within l G Zd q _ id 0 7 _) (kw_S (n := 3) hts k1289 k1287 k15 k1288 (by decide +kernel) ⟨Nat.le_of_ble_eq_true rfl, Nat.le_of_ble_eq_true rfl⟩) hP hD hK hS hA hZ rfl hl.1 rfl (Nat.le_of_ble_eq_true rfl) d15_62_11 ⟨Nat.le_of_ble_eq_true rfl, Nat.le_of_ble_eq_true rfl⟩ (fun rr u H locs hp hP hD hS => ?_)
  obtain rfl := hp
  refine W.eq (g2 := F0 m 14 ls [.int (wt id 0 7)]) rfl ?_
  have hP : va_P G.1 vwCl (wM q G.2 mI0 mJ0 mA0 mB0) H := hP
  have hD : va_D A (wM q G.2 mI0 mJ0 mA0 mB0) := hD
  refine lv_if_ne (tgt := 31) hx hb d15_62_14 rfl (fun c1 => ?_) (fun c1 => ?_)
  ·
    refine lv_aload_n hx hb d15_62_31 rfl (lv_at hl 0 rfl) ?_
    refine sV_v (As := []) (rest := []) ⟨hx, hb, hml, hown, hts⟩ (a15_28_34 l G Zd q  _) (kw_V (n := 0) hts k1293 k1290 k15 k1292 ks34 (by decide +kernel) ⟨Nat.le_of_ble_eq_true rfl, Nat.le_of_ble_eq_true rfl⟩) hP hD hK hS hA hZ (va_recv (ci := 13) (q0 := 0) hK hP rfl rfl) rfl hl.1 rfl (Nat.le_of_ble_eq_true rfl) d15_62_32 ⟨Nat.le_of_ble_eq_true rfl, Nat.le_of_ble_eq_true rfl⟩ (fun u H locs hp hP hD hS => ?_)
    refine W.eq (g2 := F0 m 35 ls []) rfl ?_
    have hP : va_P G.1 vwCl (wM q G.2 (upd (upd (upd (upd mI0 1 0) 4 0) 2 0) 3 1) (vp_updL (vp_updL mJ0 0 0) 1 0) (va_up (va_up mA0 1 (upd (mA0 1) (1920 : Int32).toNatClampNeg (vp_nar .byte ((2 : Int32).toInt8.toInt32)))) 2 (upd (mA0 2) (1920 : Int32).toNatClampNeg (vp_nar .byte 1))) (va_up (va_up (va_up (va_up mB0 2 (vp_updL (mB0 2) (1920 : Int32).toNatClampNeg 0)) 3 (vp_updL (mB0 3) (1920 : Int32).toNatClampNeg 0)) 0 (vp_updL (mB0 0) (1920 : Int32).toNatClampNeg 0)) 1 (vp_updL (mB0 1) (1920 : Int32).toNatClampNeg 0))) H := hP
    have hD : va_D A (wM q G.2 (upd (upd (upd (upd mI0 1 0) 4 0) 2 0) 3 1) (vp_updL (vp_updL mJ0 0 0) 1 0) (va_up (va_up mA0 1 (upd (mA0 1) (1920 : Int32).toNatClampNeg (vp_nar .byte ((2 : Int32).toInt8.toInt32)))) 2 (upd (mA0 2) (1920 : Int32).toNatClampNeg (vp_nar .byte 1))) (va_up (va_up (va_up (va_up mB0 2 (vp_updL (mB0 2) (1920 : Int32).toNatClampNeg 0)) 3 (vp_updL (mB0 3) (1920 : Int32).toNatClampNeg 0)) 0 (vp_updL (mB0 0) (1920 : Int32).toNatClampNeg 0)) 1 (vp_updL (mB0 1) (1920 : Int32).toNatClampNeg 0))) := hD
    refine lv_aload_n hx hb d15_62_35 rfl (lv_at hl 0 rfl) ?_
    refine lv_iconst (v := 0) hx hb d15_62_36 (by decide) ?_
    refine va_put (D := G.1) (ci := 13) (v := .int 0) (ty := .int) (C := r_13) (T := f_13) (N := 42) (ref := "PagedValuesModel") hx hb hts (fun w h => List.mem_cons_of_mem _ (ly_13 w h)) ft_13 ft_13_ok nm_13 hown hK hP hD hS 0 rfl rfl 1 (by decide) (hts _ (List.mem_cons_of_mem _ k1152)) (fun _ h9 => h9) rfl (by decide +kernel) rfl rfl (Nat.le_of_ble_eq_true rfl) d15_62_37 (fun H locs hP hD hS => ?_)
    have hP : va_P G.1 vwCl (wM q G.2 (upd (upd (upd (upd (upd mI0 1 0) 4 0) 2 0) 3 1) 0 0) (vp_updL (vp_updL mJ0 0 0) 1 0) (va_up (va_up mA0 1 (upd (mA0 1) (1920 : Int32).toNatClampNeg (vp_nar .byte ((2 : Int32).toInt8.toInt32)))) 2 (upd (mA0 2) (1920 : Int32).toNatClampNeg (vp_nar .byte 1))) (va_up (va_up (va_up (va_up mB0 2 (vp_updL (mB0 2) (1920 : Int32).toNatClampNeg 0)) 3 (vp_updL (mB0 3) (1920 : Int32).toNatClampNeg 0)) 0 (vp_updL (mB0 0) (1920 : Int32).toNatClampNeg 0)) 1 (vp_updL (mB0 1) (1920 : Int32).toNatClampNeg 0))) H := hP
    have hD : va_D A (wM q G.2 (upd (upd (upd (upd (upd mI0 1 0) 4 0) 2 0) 3 1) 0 0) (vp_updL (vp_updL mJ0 0 0) 1 0) (va_up (va_up mA0 1 (upd (mA0 1) (1920 : Int32).toNatClampNeg (vp_nar .byte ((2 : Int32).toInt8.toInt32)))) 2 (upd (mA0 2) (1920 : Int32).toNatClampNeg (vp_nar .byte 1))) (va_up (va_up (va_up (va_up mB0 2 (vp_updL (mB0 2) (1920 : Int32).toNatClampNeg 0)) 3 (vp_updL (mB0 3) (1920 : Int32).toNatClampNeg 0)) 0 (vp_updL (mB0 0) (1920 : Int32).toNatClampNeg 0)) 1 (vp_updL (mB0 1) (1920 : Int32).toNatClampNeg 0))) := hD
    refine lv_aload_n hx hb d15_62_40 rfl (lv_at hl 0 rfl) ?_
    refine va_get (D := G.1) (ci := 13) (v := .int 0) (C := r_13) (T := f_13) (N := 42) (ref := "PagedValuesModel") hx hb hts (fun w h => List.mem_cons_of_mem _ (ly_13 w h)) hown hK hP 0 rfl rfl 3 (by decide) (hts _ (List.mem_cons_of_mem _ k1154)) (fun _ h9 => h9) rfl d15_62_41 ?_
    refine lv_if_lt (tgt := 55) hx hb d15_62_44 rfl (fun hc => absurd hc (by decide)) (fun _ => ?_)
    refine lv_bipush (v := (-100)) hx hb d15_62_47 (by decide) ?_
    refine lv_aload_n hx hb d15_62_49 rfl (lv_at hl 0 rfl) ?_
    refine va_get (D := G.1) (ci := 13) (v := .int 0) (C := r_13) (T := f_13) (N := 42) (ref := "PagedValuesModel") hx hb hts (fun w h => List.mem_cons_of_mem _ (ly_13 w h)) hown hK hP 0 rfl rfl 3 (by decide) (hts _ (List.mem_cons_of_mem _ k1154)) (fun _ h9 => h9) rfl d15_62_50 ?_
    refine lv_isub hx hb d15_62_53 ?_
    refine W.eq (g2 := F0 m 54 ls [.int (-100)]) rfl ?_
    exact fin_i hx hb hr hlk hS () (if_pos (show 0 ≤ id.toInt ∧ id.toInt ≤ 7 by have L9 := lits; have fc1 := c1; (first | replace fc1 := wt_0 fc1 | replace fc1 := wt_1 fc1 | replace fc1 := an_rd_0 fc1 | simp only [Int32.lt_iff_toInt_lt, Int32.le_iff_toInt_le, ← Int32.toInt_inj, ne_eq] at fc1 | skip); omega)).symm (fun k q h => by simp at h) ⟨fun i j x y h => by simp at h, fun k q h => by simp at h⟩ (Nat.le_of_ble_eq_true rfl) (Nat.le_of_ble_eq_true rfl) d15_62_54
  ·
    refine lv_aload_n hx hb d15_62_17 rfl (lv_at hl 0 rfl) ?_
    refine va_get (D := G.1) (ci := 13) (v := .int 0) (C := r_13) (T := f_13) (N := 42) (ref := "PagedValuesModel") hx hb hts (fun w h => List.mem_cons_of_mem _ (ly_13 w h)) hown hK hP 0 rfl rfl 40 (by decide) (hts _ (List.mem_cons_of_mem _ k1191)) (fun _ h9 => h9) rfl d15_62_18 ?_
    refine lv_if_eq (tgt := 29) hx hb d15_62_21 rfl (fun _ => ?_) (fun hc => absurd hc (by decide))
    refine lv_iconst (v := (-1)) hx hb d15_62_29 (by decide) ?_
    exact fin_i hx hb hr hlk hS () (if_neg (show ¬ (0 ≤ id.toInt ∧ id.toInt ≤ 7) by have L9 := lits; have fc1 := c1; (first | replace fc1 := wt_0 fc1 | replace fc1 := wt_1 fc1 | replace fc1 := an_rd_0 fc1 | simp only [Int32.lt_iff_toInt_lt, Int32.le_iff_toInt_le, ← Int32.toInt_inj, ne_eq] at fc1 | skip); omega)).symm (fun k q h => by simp at h) ⟨fun i j x y h => by simp at h, fun k q h => by simp at h⟩ (Nat.le_of_ble_eq_true rfl) (Nat.le_of_ble_eq_true rfl) d15_62_30
set_option maxHeartbeats 4000000 in
set_option maxRecDepth 100000 in
theorem a15_52_35 (l : Launch) (G : Gk) (Zd q : Nat → Nat)  (sz : Nat) : Met l y15_52 (Cond.code y15_52 prog_15_method_52_code 1 (some .int) :: TB) (rmD 0 0 0) (va_Pc [.ref (q 0)] (pcW G Zd (wM q G.2 mI0 mJ0 mA0 mB0) sz)) (qI G (fun rr (_ : Unit) => rr = 0) (fun _ => (wM q G.2 mI0 mJ0 mA0 mB0)) (va_A (wM q G.2 mI0 mJ0 mA0 mB0) sz)) 0 0 (va_A (wM q G.2 mI0 mJ0 mA0 mB0) sz) := by
  refine go (Qc := qI G (fun rr (_ : Unit) => rr = 0) (fun _ => (wM q G.2 mI0 mJ0 mA0 mB0))) "PagedValuesModel" rfl (by decide) (Nat.le_of_ble_eq_true rfl) ?_
  intro p e s m below meth c ls A hx hb hr hlk hml hown hts hin hl hP hD hK hS hA hZ
  have hl : lv_has ls 1 [(0, .ref (q 0))] := hl
  refine lv_aload_n hx hb d15_52_0 rfl (lv_at hl 0 rfl) ?_
  refine va_get (D := G.1) (ci := 13) (v := .ref (q 23)) (C := r_13) (T := f_13) (N := 42) (ref := "PagedValuesModel") hx hb hts (fun w h => List.mem_cons_of_mem _ (ly_13 w h)) hown hK hP 0 rfl rfl 36 (by decide) (hts _ (List.mem_cons_of_mem _ k1187)) (fun _ h9 => h9) rfl d15_52_1 ?_
  refine lv_iconst (v := 1) hx hb d15_52_4 (by decide) ?_
  refine va_iald (D := G.1) hx hb hK hP 23 1 rfl rfl (i := 1) (by unfold vp_in; decide) d15_52_5 ?_
  refine W.eq (g2 := F0 m 6 ls [.int 0]) rfl ?_
  refine lv_aload_n hx hb d15_52_6 rfl (lv_at hl 0 rfl) ?_
  refine va_get (D := G.1) (ci := 13) (v := .ref (q 23)) (C := r_13) (T := f_13) (N := 42) (ref := "PagedValuesModel") hx hb hts (fun w h => List.mem_cons_of_mem _ (ly_13 w h)) hown hK hP 0 rfl rfl 36 (by decide) (hts _ (List.mem_cons_of_mem _ k1187)) (fun _ h9 => h9) rfl d15_52_7 ?_
  refine lv_iconst (v := 0) hx hb d15_52_10 (by decide) ?_
  refine va_iald (D := G.1) hx hb hK hP 23 1 rfl rfl (i := 0) (by unfold vp_in; decide) d15_52_11 ?_
  refine W.eq (g2 := F0 m 12 ls [.int 0, .int 0]) rfl ?_
  refine lv_icmp_le (tgt := 19) hx hb d15_52_12 rfl (fun _ => ?_) (fun hc => absurd hc (by decide))
  refine lv_iconst (v := 0) hx hb d15_52_19 (by decide) ?_
  exact fin_i hx hb hr hlk hS () rfl hP hD (Nat.le_of_ble_eq_true rfl) (Nat.le_of_ble_eq_true rfl) d15_52_20
set_option maxHeartbeats 4000000 in
set_option maxRecDepth 100000 in
theorem a15_56_36 (l : Launch) (G : Gk) (Zd q : Nat → Nat) (x2 : Int32) (sz : Nat) : Met l y15_56 (Cond.code y15_56 prog_15_method_56_code 4 (some .int) :: TB) (rmD 0 0 0) (va_Pc [.ref (q 0), .int (-1), .int x2] (pcW G Zd (wM q G.2 mI0 mJ0 mA0 mB0) sz)) (qI G (fun rr (_ : Unit) => rr = (-1)) (fun _ => (wM q G.2 mI0 mJ0 mA0 mB0)) (va_A (wM q G.2 mI0 mJ0 mA0 mB0) sz)) 0 0 (va_A (wM q G.2 mI0 mJ0 mA0 mB0) sz) := by
  refine go (Qc := qI G (fun rr (_ : Unit) => rr = (-1)) (fun _ => (wM q G.2 mI0 mJ0 mA0 mB0))) "PagedValuesModel" rfl (by decide) (Nat.le_of_ble_eq_true rfl) ?_
  intro p e s m below meth c ls A hx hb hr hlk hml hown hts hin hl hP hD hK hS hA hZ
  have hl : lv_has ls 4 [(0, .ref (q 0)), (1, .int (-1)), (2, .int x2)] := hl
  refine lv_iload_n hx hb d15_56_0 rfl (lv_at hl 1 rfl) ?_
  refine lv_if_lt (tgt := 14) hx hb d15_56_1 rfl (fun _ => ?_) (fun hc => absurd hc (by decide))
  refine lv_iconst (v := (-1)) hx hb d15_56_14 (by decide) ?_
  refine lv_goto (tgt := 30) hx hb d15_56_15 rfl ?_
  refine lv_istore_n (lv' := [(3, .int (-1)), (0, .ref (q 0)), (1, .int (-1)), (2, .int x2)]) hx hb d15_56_30 rfl hl (by decide) rfl (fun ls hl => ?_)
  refine lv_iload_n hx hb d15_56_31 rfl (lv_at hl 0 rfl) ?_
  refine lv_if_lt (tgt := 60) hx hb d15_56_32 rfl (fun _ => ?_) (fun hc => absurd hc (by decide))
  refine lv_iconst (v := (-1)) hx hb d15_56_60 (by decide) ?_
  exact fin_i hx hb hr hlk hS () rfl hP hD (Nat.le_of_ble_eq_true rfl) (Nat.le_of_ble_eq_true rfl) d15_56_61
set_option maxHeartbeats 4000000 in
set_option maxRecDepth 100000 in
theorem tm_patch (l : Launch) (G : Gk) (Zd q : Nat → Nat) (id : Int32) (sz : Nat) : Met l y15_63 (Cond.code y15_63 prog_15_method_63_code 4 (some .int) :: TB) (rmD 1 0 0) (va_Pc [.ref (q 0), .int id] (pcW G Zd (wM q G.2 mI0 mJ0 mA0 mB0) sz)) (qI G (fun rr (_ : Unit) => rr = -1) (fun _ => []) (va_A (wM q G.2 mI0 mJ0 mA0 mB0) sz)) 0 0 (va_A (wM q G.2 mI0 mJ0 mA0 mB0) sz) := by
  refine go (Qc := qI G (fun rr (_ : Unit) => rr = -1) (fun _ => [])) "PagedValuesModel" rfl (by decide) (Nat.le_of_ble_eq_true rfl) ?_
  intro p e s m below meth c ls A hx hb hr hlk hml hown hts hin hl hP hD hK hS hA hZ
  have hl : lv_has ls 4 [(0, .ref (q 0)), (1, .int id)] := hl
  refine lv_aload_n hx hb d15_63_0 rfl (lv_at hl 0 rfl) ?_
  refine lv_aload_n hx hb d15_63_1 rfl (lv_at hl 0 rfl) ?_
  refine va_get (D := G.1) (ci := 13) (v := .ref (q 22)) (C := r_13) (T := f_13) (N := 42) (ref := "PagedValuesModel") hx hb hts (fun w h => List.mem_cons_of_mem _ (ly_13 w h)) hown hK hP 0 rfl rfl 35 (by decide) (hts _ (List.mem_cons_of_mem _ k1186)) (fun _ h9 => h9) rfl d15_63_2 ?_
  refine lv_aload_n hx hb d15_63_5 rfl (lv_at hl 0 rfl) ?_
  refine sV_i (As := []) (rest := [.ref (q 22), .ref (q 0)]) ⟨hx, hb, hml, hown, hts⟩ (a15_52_35 l G Zd q  _) (kw_V (n := 0) hts k1396 k1393 k15 k1395 ks57 (by decide +kernel) ⟨Nat.le_of_ble_eq_true rfl, Nat.le_of_ble_eq_true rfl⟩) hP hD hK hS hA hZ (va_recv (ci := 13) (q0 := 0) hK hP rfl rfl) rfl hl.1 rfl (Nat.le_of_ble_eq_true rfl) d15_63_6 ⟨Nat.le_of_ble_eq_true rfl, Nat.le_of_ble_eq_true rfl⟩ (fun rr u H locs hp hP hD hS => ?_)
  obtain rfl := hp
  refine W.eq (g2 := F0 m 9 ls [.int 0, .ref (q 22), .ref (q 0)]) rfl ?_
  have hP : va_P G.1 vwCl (wM q G.2 mI0 mJ0 mA0 mB0) H := hP
  have hD : va_D A (wM q G.2 mI0 mJ0 mA0 mB0) := hD
  refine va_iald (D := G.1) hx hb hK hP 22 1 rfl rfl (i := 0) (by unfold vp_in; decide) d15_63_9 ?_
  refine W.eq (g2 := F0 m 10 ls [.int (-1), .ref (q 0)]) rfl ?_
  refine lv_iload_n hx hb d15_63_10 rfl (lv_at hl 1 rfl) ?_
  refine sV_i (As := [.int (-1), .int id]) (rest := []) ⟨hx, hb, hml, hown, hts⟩ (a15_56_36 l G Zd q  id _) (kw_V (n := 2) hts k1400 k1397 k15 k1399 ks58 (by decide +kernel) ⟨Nat.le_of_ble_eq_true rfl, Nat.le_of_ble_eq_true rfl⟩) hP hD hK hS hA hZ (va_recv (ci := 13) (q0 := 0) hK hP rfl rfl) rfl hl.1 rfl (Nat.le_of_ble_eq_true rfl) d15_63_11 ⟨Nat.le_of_ble_eq_true rfl, Nat.le_of_ble_eq_true rfl⟩ (fun rr u H locs hp hP hD hS => ?_)
  obtain rfl := hp
  refine W.eq (g2 := F0 m 14 ls [.int (-1)]) rfl ?_
  have hP : va_P G.1 vwCl (wM q G.2 mI0 mJ0 mA0 mB0) H := hP
  have hD : va_D A (wM q G.2 mI0 mJ0 mA0 mB0) := hD
  refine lv_istore_n (lv' := [(2, .int (-1)), (0, .ref (q 0)), (1, .int id)]) hx hb d15_63_14 rfl hl (by decide) rfl (fun ls hl => ?_)
  refine lv_aload_n hx hb d15_63_15 rfl (lv_at hl 1 rfl) ?_
  refine va_get (D := G.1) (ci := 13) (v := .int 0) (C := r_13) (T := f_13) (N := 42) (ref := "PagedValuesModel") hx hb hts (fun w h => List.mem_cons_of_mem _ (ly_13 w h)) hown hK hP 0 rfl rfl 40 (by decide) (hts _ (List.mem_cons_of_mem _ k1191)) (fun _ h9 => h9) rfl d15_63_16 ?_
  refine lv_if_ne (tgt := 26) hx hb d15_63_19 rfl (fun hc => absurd hc (by decide)) (fun _ => ?_)
  refine lv_iload_n hx hb d15_63_22 rfl (lv_at hl 0 rfl) ?_
  refine lv_if_ge (tgt := 40) hx hb d15_63_23 rfl (fun hc => absurd hc (by decide)) (fun _ => ?_)
  refine lv_aload_n hx hb d15_63_26 rfl (lv_at hl 1 rfl) ?_
  refine va_get (D := G.1) (ci := 13) (v := .int 0) (C := r_13) (T := f_13) (N := 42) (ref := "PagedValuesModel") hx hb hts (fun w h => List.mem_cons_of_mem _ (ly_13 w h)) hown hK hP 0 rfl rfl 40 (by decide) (hts _ (List.mem_cons_of_mem _ k1191)) (fun _ h9 => h9) rfl d15_63_27 ?_
  refine lv_if_eq (tgt := 38) hx hb d15_63_30 rfl (fun _ => ?_) (fun hc => absurd hc (by decide))
  refine lv_iconst (v := (-1)) hx hb d15_63_38 (by decide) ?_
  exact fin_i hx hb hr hlk hS () rfl (fun k q h => by simp at h) ⟨fun i j x y h => by simp at h, fun k q h => by simp at h⟩ (Nat.le_of_ble_eq_true rfl) (Nat.le_of_ble_eq_true rfl) d15_63_39
set_option maxHeartbeats 4000000 in
set_option maxRecDepth 100000 in
theorem tm_remove (l : Launch) (G : Gk) (Zd q : Nat → Nat) (id : Int32) (sz : Nat) : Met l y15_64 (Cond.code y15_64 prog_15_method_64_code 4 (some .int) :: TB) (rmD 1 0 0) (va_Pc [.ref (q 0), .int id] (pcW G Zd (wM q G.2 mI0 mJ0 mA0 mB0) sz)) (qI G (fun rr (_ : Unit) => rr = -1) (fun _ => []) (va_A (wM q G.2 mI0 mJ0 mA0 mB0) sz)) 0 0 (va_A (wM q G.2 mI0 mJ0 mA0 mB0) sz) := by
  refine go (Qc := qI G (fun rr (_ : Unit) => rr = -1) (fun _ => [])) "PagedValuesModel" rfl (by decide) (Nat.le_of_ble_eq_true rfl) ?_
  intro p e s m below meth c ls A hx hb hr hlk hml hown hts hin hl hP hD hK hS hA hZ
  have hl : lv_has ls 4 [(0, .ref (q 0)), (1, .int id)] := hl
  refine lv_aload_n hx hb d15_64_0 rfl (lv_at hl 0 rfl) ?_
  refine lv_aload_n hx hb d15_64_1 rfl (lv_at hl 0 rfl) ?_
  refine va_get (D := G.1) (ci := 13) (v := .ref (q 22)) (C := r_13) (T := f_13) (N := 42) (ref := "PagedValuesModel") hx hb hts (fun w h => List.mem_cons_of_mem _ (ly_13 w h)) hown hK hP 0 rfl rfl 35 (by decide) (hts _ (List.mem_cons_of_mem _ k1186)) (fun _ h9 => h9) rfl d15_64_2 ?_
  refine lv_aload_n hx hb d15_64_5 rfl (lv_at hl 0 rfl) ?_
  refine sV_i (As := []) (rest := [.ref (q 22), .ref (q 0)]) ⟨hx, hb, hml, hown, hts⟩ (a15_52_35 l G Zd q  _) (kw_V (n := 0) hts k1396 k1393 k15 k1395 ks57 (by decide +kernel) ⟨Nat.le_of_ble_eq_true rfl, Nat.le_of_ble_eq_true rfl⟩) hP hD hK hS hA hZ (va_recv (ci := 13) (q0 := 0) hK hP rfl rfl) rfl hl.1 rfl (Nat.le_of_ble_eq_true rfl) d15_64_6 ⟨Nat.le_of_ble_eq_true rfl, Nat.le_of_ble_eq_true rfl⟩ (fun rr u H locs hp hP hD hS => ?_)
  obtain rfl := hp
  refine W.eq (g2 := F0 m 9 ls [.int 0, .ref (q 22), .ref (q 0)]) rfl ?_
  have hP : va_P G.1 vwCl (wM q G.2 mI0 mJ0 mA0 mB0) H := hP
  have hD : va_D A (wM q G.2 mI0 mJ0 mA0 mB0) := hD
  refine va_iald (D := G.1) hx hb hK hP 22 1 rfl rfl (i := 0) (by unfold vp_in; decide) d15_64_9 ?_
  refine W.eq (g2 := F0 m 10 ls [.int (-1), .ref (q 0)]) rfl ?_
  refine lv_iload_n hx hb d15_64_10 rfl (lv_at hl 1 rfl) ?_
  refine sV_i (As := [.int (-1), .int id]) (rest := []) ⟨hx, hb, hml, hown, hts⟩ (a15_56_36 l G Zd q  id _) (kw_V (n := 2) hts k1400 k1397 k15 k1399 ks58 (by decide +kernel) ⟨Nat.le_of_ble_eq_true rfl, Nat.le_of_ble_eq_true rfl⟩) hP hD hK hS hA hZ (va_recv (ci := 13) (q0 := 0) hK hP rfl rfl) rfl hl.1 rfl (Nat.le_of_ble_eq_true rfl) d15_64_11 ⟨Nat.le_of_ble_eq_true rfl, Nat.le_of_ble_eq_true rfl⟩ (fun rr u H locs hp hP hD hS => ?_)
  obtain rfl := hp
  refine W.eq (g2 := F0 m 14 ls [.int (-1)]) rfl ?_
  have hP : va_P G.1 vwCl (wM q G.2 mI0 mJ0 mA0 mB0) H := hP
  have hD : va_D A (wM q G.2 mI0 mJ0 mA0 mB0) := hD
  refine lv_istore_n (lv' := [(2, .int (-1)), (0, .ref (q 0)), (1, .int id)]) hx hb d15_64_14 rfl hl (by decide) rfl (fun ls hl => ?_)
  refine lv_aload_n hx hb d15_64_15 rfl (lv_at hl 1 rfl) ?_
  refine va_get (D := G.1) (ci := 13) (v := .int 0) (C := r_13) (T := f_13) (N := 42) (ref := "PagedValuesModel") hx hb hts (fun w h => List.mem_cons_of_mem _ (ly_13 w h)) hown hK hP 0 rfl rfl 40 (by decide) (hts _ (List.mem_cons_of_mem _ k1191)) (fun _ h9 => h9) rfl d15_64_16 ?_
  refine lv_if_ne (tgt := 26) hx hb d15_64_19 rfl (fun hc => absurd hc (by decide)) (fun _ => ?_)
  refine lv_iload_n hx hb d15_64_22 rfl (lv_at hl 0 rfl) ?_
  refine lv_if_ge (tgt := 40) hx hb d15_64_23 rfl (fun hc => absurd hc (by decide)) (fun _ => ?_)
  refine lv_aload_n hx hb d15_64_26 rfl (lv_at hl 1 rfl) ?_
  refine va_get (D := G.1) (ci := 13) (v := .int 0) (C := r_13) (T := f_13) (N := 42) (ref := "PagedValuesModel") hx hb hts (fun w h => List.mem_cons_of_mem _ (ly_13 w h)) hown hK hP 0 rfl rfl 40 (by decide) (hts _ (List.mem_cons_of_mem _ k1191)) (fun _ h9 => h9) rfl d15_64_27 ?_
  refine lv_if_eq (tgt := 38) hx hb d15_64_30 rfl (fun _ => ?_) (fun hc => absurd hc (by decide))
  refine lv_iconst (v := (-1)) hx hb d15_64_38 (by decide) ?_
  exact fin_i hx hb hr hlk hS () rfl (fun k q h => by simp at h) ⟨fun i j x y h => by simp at h, fun k q h => by simp at h⟩ (Nat.le_of_ble_eq_true rfl) (Nat.le_of_ble_eq_true rfl) d15_64_39
set_option maxHeartbeats 4000000 in
set_option maxRecDepth 100000 in
theorem tm_result (l : Launch) (G : Gk) (Zd q : Nat → Nat) (i : Int32) (sz : Nat) : Met l y15_79 (Cond.code y15_79 prog_15_method_79_code 2 (some .int) :: TB) (rmD 1 0 0) (va_Pc [.ref (q 0), .int i] (pcW G Zd (wM q G.2 mI0 mJ0 mA0 mB0) sz)) (qI G (fun rr (_ : Unit) => rr = -1) (fun _ => []) (va_A (wM q G.2 mI0 mJ0 mA0 mB0) sz)) 0 0 (va_A (wM q G.2 mI0 mJ0 mA0 mB0) sz) := by
  refine go (Qc := qI G (fun rr (_ : Unit) => rr = -1) (fun _ => [])) "PagedValuesModel" rfl (by decide) (Nat.le_of_ble_eq_true rfl) ?_
  intro p e s m below meth c ls A hx hb hr hlk hml hown hts hin hl hP hD hK hS hA hZ
  have hl : lv_has ls 2 [(0, .ref (q 0)), (1, .int i)] := hl
  refine lv_iload_n hx hb d15_79_0 rfl (lv_at hl 1 rfl) ?_
  refine lv_iconst (v := 0) hx hb d15_79_1 (by decide) ?_
  refine lv_aload_n hx hb d15_79_2 rfl (lv_at hl 0 rfl) ?_
  refine va_get (D := G.1) (ci := 13) (v := .int 0) (C := r_13) (T := f_13) (N := 42) (ref := "PagedValuesModel") hx hb hts (fun w h => List.mem_cons_of_mem _ (ly_13 w h)) hown hK hP 0 rfl rfl 28 (by decide) (hts _ (List.mem_cons_of_mem _ k1179)) (fun _ h9 => h9) rfl d15_79_3 ?_
  refine lv_iconst (v := 1) hx hb d15_79_6 (by decide) ?_
  refine lv_isub hx hb d15_79_7 ?_
  refine W.eq (g2 := F0 m 8 ls [.int (-1), .int 0, .int i]) rfl ?_
  refine sS_i (As := [.int i, .int 0, .int (-1)]) (rest := []) ⟨hx, hb, hml, hown, hts⟩ (am_within l G Zd q _ i 0 (-1) _) (kw_S (n := 3) hts k1289 k1287 k15 k1288 (by decide +kernel) ⟨Nat.le_of_ble_eq_true rfl, Nat.le_of_ble_eq_true rfl⟩) hP hD hK hS hA hZ rfl hl.1 rfl (Nat.le_of_ble_eq_true rfl) d15_79_8 ⟨Nat.le_of_ble_eq_true rfl, Nat.le_of_ble_eq_true rfl⟩ (fun rr u H locs hp hP hD hS => ?_)
  have hp := hp.trans (wt_e (by decide))
  obtain rfl := hp
  refine W.eq (g2 := F0 m 11 ls [.int 0]) rfl ?_
  have hP : va_P G.1 vwCl (wM q G.2 mI0 mJ0 mA0 mB0) H := hP
  have hD : va_D A (wM q G.2 mI0 mJ0 mA0 mB0) := hD
  refine lv_if_eq (tgt := 23) hx hb d15_79_11 rfl (fun _ => ?_) (fun hc => absurd hc (by decide))
  refine lv_iconst (v := (-1)) hx hb d15_79_23 (by decide) ?_
  exact fin_i hx hb hr hlk hS () rfl (fun k q h => by simp at h) ⟨fun i j x y h => by simp at h, fun k q h => by simp at h⟩ (Nat.le_of_ble_eq_true rfl) (Nat.le_of_ble_eq_true rfl) d15_79_24
set_option maxHeartbeats 4000000 in
set_option maxRecDepth 100000 in
theorem tm_show (l : Launch) (G : Gk) (Zd q : Nat → Nat) (i : Int32) (sz : Nat) : Met l y15_86 (Cond.code y15_86 prog_15_method_86_code 2 (some .int) :: TB) (rmD 1 0 0) (va_Pc [.ref (q 0), .int i] (pcW G Zd (wM q G.2 mI0 mJ0 mA0 mB0) sz)) (qI G (fun rr (_ : Unit) => rr = -1) (fun _ => []) (va_A (wM q G.2 mI0 mJ0 mA0 mB0) sz)) 0 0 (va_A (wM q G.2 mI0 mJ0 mA0 mB0) sz) := by
  refine go (Qc := qI G (fun rr (_ : Unit) => rr = -1) (fun _ => [])) "PagedValuesModel" rfl (by decide) (Nat.le_of_ble_eq_true rfl) ?_
  intro p e s m below meth c ls A hx hb hr hlk hml hown hts hin hl hP hD hK hS hA hZ
  have hl : lv_has ls 2 [(0, .ref (q 0)), (1, .int i)] := hl
  refine lv_iload_n hx hb d15_86_0 rfl (lv_at hl 1 rfl) ?_
  refine lv_iconst (v := 0) hx hb d15_86_1 (by decide) ?_
  refine lv_aload_n hx hb d15_86_2 rfl (lv_at hl 0 rfl) ?_
  refine va_get (D := G.1) (ci := 13) (v := .int 0) (C := r_13) (T := f_13) (N := 42) (ref := "PagedValuesModel") hx hb hts (fun w h => List.mem_cons_of_mem _ (ly_13 w h)) hown hK hP 0 rfl rfl 28 (by decide) (hts _ (List.mem_cons_of_mem _ k1179)) (fun _ h9 => h9) rfl d15_86_3 ?_
  refine lv_iconst (v := 1) hx hb d15_86_6 (by decide) ?_
  refine lv_isub hx hb d15_86_7 ?_
  refine W.eq (g2 := F0 m 8 ls [.int (-1), .int 0, .int i]) rfl ?_
  refine sS_i (As := [.int i, .int 0, .int (-1)]) (rest := []) ⟨hx, hb, hml, hown, hts⟩ (am_within l G Zd q _ i 0 (-1) _) (kw_S (n := 3) hts k1289 k1287 k15 k1288 (by decide +kernel) ⟨Nat.le_of_ble_eq_true rfl, Nat.le_of_ble_eq_true rfl⟩) hP hD hK hS hA hZ rfl hl.1 rfl (Nat.le_of_ble_eq_true rfl) d15_86_8 ⟨Nat.le_of_ble_eq_true rfl, Nat.le_of_ble_eq_true rfl⟩ (fun rr u H locs hp hP hD hS => ?_)
  have hp := hp.trans (wt_e (by decide))
  obtain rfl := hp
  refine W.eq (g2 := F0 m 11 ls [.int 0]) rfl ?_
  have hP : va_P G.1 vwCl (wM q G.2 mI0 mJ0 mA0 mB0) H := hP
  have hD : va_D A (wM q G.2 mI0 mJ0 mA0 mB0) := hD
  refine lv_if_ne (tgt := 16) hx hb d15_86_11 rfl (fun hc => absurd hc (by decide)) (fun _ => ?_)
  refine lv_iconst (v := (-1)) hx hb d15_86_14 (by decide) ?_
  exact fin_i hx hb hr hlk hS () rfl (fun k q h => by simp at h) ⟨fun i j x y h => by simp at h, fun k q h => by simp at h⟩ (Nat.le_of_ble_eq_true rfl) (Nat.le_of_ble_eq_true rfl) d15_86_15
set_option maxHeartbeats 4000000 in
set_option maxRecDepth 100000 in
theorem tm_output (l : Launch) (G : Gk) (Zd q : Nat → Nat) (i : Int32) (sz : Nat) : Met l y15_88 (Cond.code y15_88 prog_15_method_88_code 2 (some .int) :: TB) (rmD 1 0 0) (va_Pc [.ref (q 0), .int i] (pcW G Zd (wM q G.2 mI0 mJ0 mA0 mB0) sz)) (qI G (fun rr (_ : Unit) => rr = -1) (fun _ => []) (va_A (wM q G.2 mI0 mJ0 mA0 mB0) sz)) 0 0 (va_A (wM q G.2 mI0 mJ0 mA0 mB0) sz) := by
  refine go (Qc := qI G (fun rr (_ : Unit) => rr = -1) (fun _ => [])) "PagedValuesModel" rfl (by decide) (Nat.le_of_ble_eq_true rfl) ?_
  intro p e s m below meth c ls A hx hb hr hlk hml hown hts hin hl hP hD hK hS hA hZ
  have hl : lv_has ls 2 [(0, .ref (q 0)), (1, .int i)] := hl
  refine lv_iload_n hx hb d15_88_0 rfl (lv_at hl 1 rfl) ?_
  refine lv_iconst (v := 0) hx hb d15_88_1 (by decide) ?_
  refine lv_aload_n hx hb d15_88_2 rfl (lv_at hl 0 rfl) ?_
  refine va_get (D := G.1) (ci := 13) (v := .int 0) (C := r_13) (T := f_13) (N := 42) (ref := "PagedValuesModel") hx hb hts (fun w h => List.mem_cons_of_mem _ (ly_13 w h)) hown hK hP 0 rfl rfl 30 (by decide) (hts _ (List.mem_cons_of_mem _ k1181)) (fun _ h9 => h9) rfl d15_88_3 ?_
  refine lv_iconst (v := 1) hx hb d15_88_6 (by decide) ?_
  refine lv_isub hx hb d15_88_7 ?_
  refine W.eq (g2 := F0 m 8 ls [.int (-1), .int 0, .int i]) rfl ?_
  refine sS_i (As := [.int i, .int 0, .int (-1)]) (rest := []) ⟨hx, hb, hml, hown, hts⟩ (am_within l G Zd q _ i 0 (-1) _) (kw_S (n := 3) hts k1289 k1287 k15 k1288 (by decide +kernel) ⟨Nat.le_of_ble_eq_true rfl, Nat.le_of_ble_eq_true rfl⟩) hP hD hK hS hA hZ rfl hl.1 rfl (Nat.le_of_ble_eq_true rfl) d15_88_8 ⟨Nat.le_of_ble_eq_true rfl, Nat.le_of_ble_eq_true rfl⟩ (fun rr u H locs hp hP hD hS => ?_)
  have hp := hp.trans (wt_e (by decide))
  obtain rfl := hp
  refine W.eq (g2 := F0 m 11 ls [.int 0]) rfl ?_
  have hP : va_P G.1 vwCl (wM q G.2 mI0 mJ0 mA0 mB0) H := hP
  have hD : va_D A (wM q G.2 mI0 mJ0 mA0 mB0) := hD
  refine lv_if_eq (tgt := 23) hx hb d15_88_11 rfl (fun _ => ?_) (fun hc => absurd hc (by decide))
  refine lv_iconst (v := (-1)) hx hb d15_88_23 (by decide) ?_
  exact fin_i hx hb hr hlk hS () rfl (fun k q h => by simp at h) ⟨fun i j x y h => by simp at h, fun k q h => by simp at h⟩ (Nat.le_of_ble_eq_true rfl) (Nat.le_of_ble_eq_true rfl) d15_88_24
set_option maxHeartbeats 4000000 in
set_option maxRecDepth 100000 in
theorem a15_52_37 (l : Launch) (G : Gk) (Zd q : Nat → Nat)  (sz : Nat) : Met l y15_52 (Cond.code y15_52 prog_15_method_52_code 1 (some .int) :: TB) (rmD 0 0 0) (va_Pc [.ref (q 0)] (pcW G Zd (wM q G.2 mI0 mJ0 (va_up mA0 17 (upd (mA0 17) (0 : Int32).toNatClampNeg (vp_nar .boolean 1))) mB0) sz)) (qI G (fun rr (_ : Unit) => rr = 0) (fun _ => (wM q G.2 mI0 mJ0 (va_up mA0 17 (upd (mA0 17) (0 : Int32).toNatClampNeg (vp_nar .boolean 1))) mB0)) (va_A (wM q G.2 mI0 mJ0 (va_up mA0 17 (upd (mA0 17) (0 : Int32).toNatClampNeg (vp_nar .boolean 1))) mB0) sz)) 0 0 (va_A (wM q G.2 mI0 mJ0 (va_up mA0 17 (upd (mA0 17) (0 : Int32).toNatClampNeg (vp_nar .boolean 1))) mB0) sz) := by
  refine go (Qc := qI G (fun rr (_ : Unit) => rr = 0) (fun _ => (wM q G.2 mI0 mJ0 (va_up mA0 17 (upd (mA0 17) (0 : Int32).toNatClampNeg (vp_nar .boolean 1))) mB0))) "PagedValuesModel" rfl (by decide) (Nat.le_of_ble_eq_true rfl) ?_
  intro p e s m below meth c ls A hx hb hr hlk hml hown hts hin hl hP hD hK hS hA hZ
  have hl : lv_has ls 1 [(0, .ref (q 0))] := hl
  refine lv_aload_n hx hb d15_52_0 rfl (lv_at hl 0 rfl) ?_
  refine va_get (D := G.1) (ci := 13) (v := .ref (q 23)) (C := r_13) (T := f_13) (N := 42) (ref := "PagedValuesModel") hx hb hts (fun w h => List.mem_cons_of_mem _ (ly_13 w h)) hown hK hP 0 rfl rfl 36 (by decide) (hts _ (List.mem_cons_of_mem _ k1187)) (fun _ h9 => h9) rfl d15_52_1 ?_
  refine lv_iconst (v := 1) hx hb d15_52_4 (by decide) ?_
  refine va_iald (D := G.1) hx hb hK hP 23 1 rfl rfl (i := 1) (by unfold vp_in; decide) d15_52_5 ?_
  refine W.eq (g2 := F0 m 6 ls [.int 0]) rfl ?_
  refine lv_aload_n hx hb d15_52_6 rfl (lv_at hl 0 rfl) ?_
  refine va_get (D := G.1) (ci := 13) (v := .ref (q 23)) (C := r_13) (T := f_13) (N := 42) (ref := "PagedValuesModel") hx hb hts (fun w h => List.mem_cons_of_mem _ (ly_13 w h)) hown hK hP 0 rfl rfl 36 (by decide) (hts _ (List.mem_cons_of_mem _ k1187)) (fun _ h9 => h9) rfl d15_52_7 ?_
  refine lv_iconst (v := 0) hx hb d15_52_10 (by decide) ?_
  refine va_iald (D := G.1) hx hb hK hP 23 1 rfl rfl (i := 0) (by unfold vp_in; decide) d15_52_11 ?_
  refine W.eq (g2 := F0 m 12 ls [.int 0, .int 0]) rfl ?_
  refine lv_icmp_le (tgt := 19) hx hb d15_52_12 rfl (fun _ => ?_) (fun hc => absurd hc (by decide))
  refine lv_iconst (v := 0) hx hb d15_52_19 (by decide) ?_
  exact fin_i hx hb hr hlk hS () rfl hP hD (Nat.le_of_ble_eq_true rfl) (Nat.le_of_ble_eq_true rfl) d15_52_20
set_option maxHeartbeats 4000000 in
set_option maxRecDepth 100000 in
theorem tm_open (l : Launch) (G : Gk) (Zd q : Nat → Nat)  (sz : Nat) : Met l y15_89 (Cond.code y15_89 prog_15_method_89_code 2 (some .int) :: TB) (rmD 1 0 0) (va_Pc [.ref (q 0)] (pcW G Zd (wM q G.2 mI0 mJ0 mA0 mB0) sz)) (qI G (fun rr (_ : Unit) => rr = 0) (fun _ => []) (va_A (wM q G.2 mI0 mJ0 mA0 mB0) sz)) 0 0 (va_A (wM q G.2 mI0 mJ0 mA0 mB0) sz) := by
  refine go (Qc := qI G (fun rr (_ : Unit) => rr = 0) (fun _ => [])) "PagedValuesModel" rfl (by decide) (Nat.le_of_ble_eq_true rfl) ?_
  intro p e s m below meth c ls A hx hb hr hlk hml hown hts hin hl hP hD hK hS hA hZ
  have hl : lv_has ls 2 [(0, .ref (q 0))] := hl
  refine lv_aload_n hx hb d15_89_0 rfl (lv_at hl 0 rfl) ?_
  refine va_get (D := G.1) (ci := 13) (v := .int 0) (C := r_13) (T := f_13) (N := 42) (ref := "PagedValuesModel") hx hb hts (fun w h => List.mem_cons_of_mem _ (ly_13 w h)) hown hK hP 0 rfl rfl 40 (by decide) (hts _ (List.mem_cons_of_mem _ k1191)) (fun _ h9 => h9) rfl d15_89_1 ?_
  refine lv_if_eq (tgt := 10) hx hb d15_89_4 rfl (fun _ => ?_) (fun hc => absurd hc (by decide))
  refine lv_iconst (v := 0) hx hb d15_89_10 (by decide) ?_
  refine lv_istore_n (lv' := [(1, .int 0), (0, .ref (q 0))]) hx hb d15_89_11 rfl hl (by decide) rfl (fun ls hl => ?_)
  refine lv_iload_n hx hb d15_89_12 rfl (lv_at hl 0 rfl) ?_
  refine lv_iconst (v := 3) hx hb d15_89_13 (by decide) ?_
  refine lv_icmp_ge (tgt := 56) hx hb d15_89_14 rfl (fun hc => absurd hc (by decide)) (fun _ => ?_)
  refine lv_aload_n hx hb d15_89_17 rfl (lv_at hl 1 rfl) ?_
  refine va_get (D := G.1) (ci := 13) (v := .ref (q 24)) (C := r_13) (T := f_13) (N := 42) (ref := "PagedValuesModel") hx hb hts (fun w h => List.mem_cons_of_mem _ (ly_13 w h)) hown hK hP 0 rfl rfl 37 (by decide) (hts _ (List.mem_cons_of_mem _ k1188)) (fun _ h9 => h9) rfl d15_89_18 ?_
  refine lv_iload_n hx hb d15_89_21 rfl (lv_at hl 0 rfl) ?_
  refine va_zald (D := G.1) hx hb hK hP 24 3 rfl rfl (i := 0) (by unfold vp_in; decide) d15_89_22 ?_
  refine W.eq (g2 := F0 m 23 ls [.int 0]) rfl ?_
  refine lv_if_ne (tgt := 50) hx hb d15_89_23 rfl (fun hc => absurd hc (by decide)) (fun _ => ?_)
  refine lv_aload_n hx hb d15_89_26 rfl (lv_at hl 1 rfl) ?_
  refine va_get (D := G.1) (ci := 13) (v := .ref (q 24)) (C := r_13) (T := f_13) (N := 42) (ref := "PagedValuesModel") hx hb hts (fun w h => List.mem_cons_of_mem _ (ly_13 w h)) hown hK hP 0 rfl rfl 37 (by decide) (hts _ (List.mem_cons_of_mem _ k1188)) (fun _ h9 => h9) rfl d15_89_27 ?_
  refine lv_iload_n hx hb d15_89_30 rfl (lv_at hl 0 rfl) ?_
  refine lv_iconst (v := 1) hx hb d15_89_31 (by decide) ?_
  refine va_zast (D := G.1) hx hb hK hP hD hS 24 3 rfl rfl (i := 0) (x := 1) (by unfold vp_in; decide) d15_89_32 (fun H locs hP hD hS => ?_)
  have hP : va_P G.1 vwCl (wM q G.2 mI0 mJ0 (va_up mA0 17 (upd (mA0 17) (0 : Int32).toNatClampNeg (vp_nar .boolean 1))) mB0) H := hP
  have hD : va_D A (wM q G.2 mI0 mJ0 (va_up mA0 17 (upd (mA0 17) (0 : Int32).toNatClampNeg (vp_nar .boolean 1))) mB0) := hD
  refine lv_aload_n hx hb d15_89_33 rfl (lv_at hl 1 rfl) ?_
  refine va_get (D := G.1) (ci := 13) (v := .ref (q 25)) (C := r_13) (T := f_13) (N := 42) (ref := "PagedValuesModel") hx hb hts (fun w h => List.mem_cons_of_mem _ (ly_13 w h)) hown hK hP 0 rfl rfl 38 (by decide) (hts _ (List.mem_cons_of_mem _ k1189)) (fun _ h9 => h9) rfl d15_89_34 ?_
  refine lv_iload_n hx hb d15_89_37 rfl (lv_at hl 0 rfl) ?_
  refine lv_aload_n hx hb d15_89_38 rfl (lv_at hl 1 rfl) ?_
  refine va_get (D := G.1) (ci := 13) (v := .ref (q 22)) (C := r_13) (T := f_13) (N := 42) (ref := "PagedValuesModel") hx hb hts (fun w h => List.mem_cons_of_mem _ (ly_13 w h)) hown hK hP 0 rfl rfl 35 (by decide) (hts _ (List.mem_cons_of_mem _ k1186)) (fun _ h9 => h9) rfl d15_89_39 ?_
  refine lv_aload_n hx hb d15_89_42 rfl (lv_at hl 1 rfl) ?_
  refine sV_i (As := []) (rest := [.ref (q 22), .int 0, .ref (q 25)]) ⟨hx, hb, hml, hown, hts⟩ (a15_52_37 l G Zd q  _) (kw_V (n := 0) hts k1396 k1393 k15 k1395 ks57 (by decide +kernel) ⟨Nat.le_of_ble_eq_true rfl, Nat.le_of_ble_eq_true rfl⟩) hP hD hK hS hA hZ (va_recv (ci := 13) (q0 := 0) hK hP rfl rfl) rfl hl.1 rfl (Nat.le_of_ble_eq_true rfl) d15_89_43 ⟨Nat.le_of_ble_eq_true rfl, Nat.le_of_ble_eq_true rfl⟩ (fun rr u H locs hp hP hD hS => ?_)
  obtain rfl := hp
  refine W.eq (g2 := F0 m 46 ls [.int 0, .ref (q 22), .int 0, .ref (q 25)]) rfl ?_
  have hP : va_P G.1 vwCl (wM q G.2 mI0 mJ0 (va_up mA0 17 (upd (mA0 17) (0 : Int32).toNatClampNeg (vp_nar .boolean 1))) mB0) H := hP
  have hD : va_D A (wM q G.2 mI0 mJ0 (va_up mA0 17 (upd (mA0 17) (0 : Int32).toNatClampNeg (vp_nar .boolean 1))) mB0) := hD
  refine va_iald (D := G.1) hx hb hK hP 22 1 rfl rfl (i := 0) (by unfold vp_in; decide) d15_89_46 ?_
  refine W.eq (g2 := F0 m 47 ls [.int (-1), .int 0, .ref (q 25)]) rfl ?_
  refine va_iast (D := G.1) hx hb hK hP hD hS 25 1 rfl rfl (i := 0) (x := (-1)) (by unfold vp_in; decide) d15_89_47 (fun H locs hP hD hS => ?_)
  have hP : va_P G.1 vwCl (wM q G.2 mI0 mJ0 (va_up (va_up mA0 17 (upd (mA0 17) (0 : Int32).toNatClampNeg (vp_nar .boolean 1))) 18 (upd (mA0 18) (0 : Int32).toNatClampNeg (-1))) mB0) H := hP
  have hD : va_D A (wM q G.2 mI0 mJ0 (va_up (va_up mA0 17 (upd (mA0 17) (0 : Int32).toNatClampNeg (vp_nar .boolean 1))) 18 (upd (mA0 18) (0 : Int32).toNatClampNeg (-1))) mB0) := hD
  refine lv_iload_n hx hb d15_89_48 rfl (lv_at hl 0 rfl) ?_
  exact fin_i hx hb hr hlk hS () rfl (fun k q h => by simp at h) ⟨fun i j x y h => by simp at h, fun k q h => by simp at h⟩ (Nat.le_of_ble_eq_true rfl) (Nat.le_of_ble_eq_true rfl) d15_89_49
set_option maxHeartbeats 4000000 in
set_option maxRecDepth 100000 in
theorem tm_restart (l : Launch) (G : Gk) (Zd q : Nat → Nat)  (sz : Nat) : Met l y15_92 (Cond.code y15_92 prog_15_method_92_code 2 (some .boolean) :: TB) (rmD 0 0 0) (va_Pc [.ref (q 0)] (pcW G Zd (wM q G.2 mI0 mJ0 mA0 mB0) sz)) (qI G (fun rr (_ : Unit) => rr = 0) (fun _ => []) (va_A (wM q G.2 mI0 mJ0 mA0 mB0) sz)) 0 0 (va_A (wM q G.2 mI0 mJ0 mA0 mB0) sz) := by
  refine go (Qc := qI G (fun rr (_ : Unit) => rr = 0) (fun _ => [])) "PagedValuesModel" rfl (by decide) (Nat.le_of_ble_eq_true rfl) ?_
  intro p e s m below meth c ls A hx hb hr hlk hml hown hts hin hl hP hD hK hS hA hZ
  have hl : lv_has ls 2 [(0, .ref (q 0))] := hl
  refine lv_aload_n hx hb d15_92_0 rfl (lv_at hl 0 rfl) ?_
  refine va_get (D := G.1) (ci := 13) (v := .int 0) (C := r_13) (T := f_13) (N := 42) (ref := "PagedValuesModel") hx hb hts (fun w h => List.mem_cons_of_mem _ (ly_13 w h)) hown hK hP 0 rfl rfl 40 (by decide) (hts _ (List.mem_cons_of_mem _ k1191)) (fun _ h9 => h9) rfl d15_92_1 ?_
  refine lv_istore_n (lv' := [(1, .int 0), (0, .ref (q 0))]) hx hb d15_92_4 rfl hl (by decide) rfl (fun ls hl => ?_)
  refine lv_aload_n hx hb d15_92_5 rfl (lv_at hl 1 rfl) ?_
  refine lv_iconst (v := 0) hx hb d15_92_6 (by decide) ?_
  refine va_put (D := G.1) (ci := 13) (v := .int 0) (ty := .boolean) (C := r_13) (T := f_13) (N := 42) (ref := "PagedValuesModel") hx hb hts (fun w h => List.mem_cons_of_mem _ (ly_13 w h)) ft_13 ft_13_ok nm_13 hown hK hP hD hS 0 rfl rfl 40 (by decide) (hts _ (List.mem_cons_of_mem _ k1191)) (fun _ h9 => h9) rfl (by decide +kernel) (by decide) (by decide) (Nat.le_of_ble_eq_true rfl) d15_92_7 (fun H locs hP hD hS => ?_)
  have hP : va_P G.1 vwCl (wM q G.2 (upd mI0 13 0) mJ0 mA0 mB0) H := hP
  have hD : va_D A (wM q G.2 (upd mI0 13 0) mJ0 mA0 mB0) := hD
  refine lv_iload_n hx hb d15_92_10 rfl (lv_at hl 0 rfl) ?_
  exact fin_z hx hb hr hlk (by decide) hS () rfl (fun k q h => by simp at h) ⟨fun i j x y h => by simp at h, fun k q h => by simp at h⟩ (Nat.le_of_ble_eq_true rfl) (Nat.le_of_ble_eq_true rfl) d15_92_11
set_option maxHeartbeats 4000000 in
set_option maxRecDepth 100000 in
theorem tm_fuse (l : Launch) (G : Gk) (Zd q : Nat → Nat) (k : Int32) (sz : Nat) : Met l y15_91 (Cond.code y15_91 prog_15_method_91_code 2 (some .boolean) :: TB) (rmD 1 0 0) (va_Pc [.ref (q 0), .int k] (pcW G Zd (wM q G.2 mI0 mJ0 mA0 mB0) sz)) (qI G (fun rr (_ : Unit) => rr = an_fuse k) (fun _ => []) (va_A (wM q G.2 mI0 mJ0 mA0 mB0) sz)) 0 0 (va_A (wM q G.2 mI0 mJ0 mA0 mB0) sz) := by
  refine go (Qc := qI G (fun rr (_ : Unit) => rr = an_fuse k) (fun _ => [])) "PagedValuesModel" rfl (by decide) (Nat.le_of_ble_eq_true rfl) ?_
  intro p e s m below meth c ls A hx hb hr hlk hml hown hts hin hl hP hD hK hS hA hZ
  have hl : lv_has ls 2 [(0, .ref (q 0)), (1, .int k)] := hl
  refine lv_aload_n hx hb d15_91_0 rfl (lv_at hl 0 rfl) ?_
  refine va_get (D := G.1) (ci := 13) (v := .int 0) (C := r_13) (T := f_13) (N := 42) (ref := "PagedValuesModel") hx hb hts (fun w h => List.mem_cons_of_mem _ (ly_13 w h)) hown hK hP 0 rfl rfl 40 (by decide) (hts _ (List.mem_cons_of_mem _ k1191)) (fun _ h9 => h9) rfl d15_91_1 ?_
  refine lv_if_ne (tgt := 17) hx hb d15_91_4 rfl (fun hc => absurd hc (by decide)) (fun _ => ?_)
  refine lv_iload_n hx hb d15_91_7 rfl (lv_at hl 1 rfl) ?_
  refine lv_iconst (v := 1) hx hb d15_91_8 (by decide) ?_
  refine lv_bipush (v := 20) hx hb d15_91_9 (by decide) ?_
  refine sS_i (As := [.int k, .int 1, .int 20]) (rest := []) ⟨hx, hb, hml, hown, hts⟩ (am_within l G Zd q _ k 1 20 _) (kw_S (n := 3) hts k1289 k1287 k15 k1288 (by decide +kernel) ⟨Nat.le_of_ble_eq_true rfl, Nat.le_of_ble_eq_true rfl⟩) hP hD hK hS hA hZ rfl hl.1 rfl (Nat.le_of_ble_eq_true rfl) d15_91_11 ⟨Nat.le_of_ble_eq_true rfl, Nat.le_of_ble_eq_true rfl⟩ (fun rr u H locs hp hP hD hS => ?_)
  obtain rfl := hp
  refine W.eq (g2 := F0 m 14 ls [.int (wt k 1 20)]) rfl ?_
  have hP : va_P G.1 vwCl (wM q G.2 mI0 mJ0 mA0 mB0) H := hP
  have hD : va_D A (wM q G.2 mI0 mJ0 mA0 mB0) := hD
  refine lv_if_ne (tgt := 19) hx hb d15_91_14 rfl (fun c1 => ?_) (fun c1 => ?_)
  ·
    refine lv_aload_n hx hb d15_91_19 rfl (lv_at hl 0 rfl) ?_
    refine lv_iload_n hx hb d15_91_20 rfl (lv_at hl 1 rfl) ?_
    refine va_put (D := G.1) (ci := 13) (v := .int k) (ty := .int) (C := r_13) (T := f_13) (N := 42) (ref := "PagedValuesModel") hx hb hts (fun w h => List.mem_cons_of_mem _ (ly_13 w h)) ft_13 ft_13_ok nm_13 hown hK hP hD hS 0 rfl rfl 39 (by decide) (hts _ (List.mem_cons_of_mem _ k1190)) (fun _ h9 => h9) rfl (by decide +kernel) rfl rfl (Nat.le_of_ble_eq_true rfl) d15_91_21 (fun H locs hP hD hS => ?_)
    have hP : va_P G.1 vwCl (wM q G.2 (upd mI0 12 k) mJ0 mA0 mB0) H := hP
    have hD : va_D A (wM q G.2 (upd mI0 12 k) mJ0 mA0 mB0) := hD
    refine lv_iconst (v := 1) hx hb d15_91_24 (by decide) ?_
    exact fin_z hx hb hr hlk (by decide) hS () (if_pos (show 1 ≤ k.toInt ∧ k.toInt ≤ 20 by have L9 := lits; have fc1 := c1; (first | replace fc1 := wt_0 fc1 | replace fc1 := wt_1 fc1 | replace fc1 := an_rd_0 fc1 | simp only [Int32.lt_iff_toInt_lt, Int32.le_iff_toInt_le, ← Int32.toInt_inj, ne_eq] at fc1 | skip); omega)).symm (fun k q h => by simp at h) ⟨fun i j x y h => by simp at h, fun k q h => by simp at h⟩ (Nat.le_of_ble_eq_true rfl) (Nat.le_of_ble_eq_true rfl) d15_91_25
  ·
    refine lv_iconst (v := 0) hx hb d15_91_17 (by decide) ?_
    exact fin_z hx hb hr hlk (by decide) hS () (if_neg (show ¬ (1 ≤ k.toInt ∧ k.toInt ≤ 20) by have L9 := lits; have fc1 := c1; (first | replace fc1 := wt_0 fc1 | replace fc1 := wt_1 fc1 | replace fc1 := an_rd_0 fc1 | simp only [Int32.lt_iff_toInt_lt, Int32.le_iff_toInt_le, ← Int32.toInt_inj, ne_eq] at fc1 | skip); omega)).symm (fun k q h => by simp at h) ⟨fun i j x y h => by simp at h, fun k q h => by simp at h⟩ (Nat.le_of_ble_eq_true rfl) (Nat.le_of_ble_eq_true rfl) d15_91_18
set_option maxHeartbeats 4000000 in
set_option maxRecDepth 100000 in
theorem a15_53_38 (l : Launch) (G : Gk) (Zd q : Nat → Nat) (x2 : Int32) (sz : Nat) : Met l y15_53 (Cond.code y15_53 prog_15_method_53_code 3 (some .boolean) :: TB) (rmD 0 0 0) (va_Pc [.ref (q 0), .int (-1), .int x2] (pcW G Zd (wM q G.2 mI0 mJ0 mA0 mB0) sz)) (qI G (fun rr (_ : Unit) => rr = 0) (fun _ => (wM q G.2 mI0 mJ0 mA0 mB0)) (va_A (wM q G.2 mI0 mJ0 mA0 mB0) sz)) 0 0 (va_A (wM q G.2 mI0 mJ0 mA0 mB0) sz) := by
  refine go (Qc := qI G (fun rr (_ : Unit) => rr = 0) (fun _ => (wM q G.2 mI0 mJ0 mA0 mB0))) "PagedValuesModel" rfl (by decide) (Nat.le_of_ble_eq_true rfl) ?_
  intro p e s m below meth c ls A hx hb hr hlk hml hown hts hin hl hP hD hK hS hA hZ
  have hl : lv_has ls 3 [(0, .ref (q 0)), (1, .int (-1)), (2, .int x2)] := hl
  refine lv_iload_n hx hb d15_53_0 rfl (lv_at hl 1 rfl) ?_
  refine lv_if_lt (tgt := 39) hx hb d15_53_1 rfl (fun _ => ?_) (fun hc => absurd hc (by decide))
  refine lv_iconst (v := 0) hx hb d15_53_39 (by decide) ?_
  exact fin_z hx hb hr hlk (by decide) hS () rfl hP hD (Nat.le_of_ble_eq_true rfl) (Nat.le_of_ble_eq_true rfl) d15_53_40
set_option maxHeartbeats 4000000 in
set_option maxRecDepth 100000 in
theorem a15_54_39 (l : Launch) (G : Gk) (Zd q : Nat → Nat) (x1 : Int32) (sz : Nat) : Met l y15_54 (Cond.code y15_54 prog_15_method_54_code 4 (some .boolean) :: TB) (rmD 1 0 0) (va_Pc [.ref (q 0), .int x1] (pcW G Zd (wM q G.2 mI0 mJ0 mA0 mB0) sz)) (qI G (fun rr (_ : Unit) => rr = 1) (fun _ => (wM q G.2 mI0 mJ0 mA0 mB0)) (va_A (wM q G.2 mI0 mJ0 mA0 mB0) sz)) 0 0 (va_A (wM q G.2 mI0 mJ0 mA0 mB0) sz) := by
  refine go (Qc := qI G (fun rr (_ : Unit) => rr = 1) (fun _ => (wM q G.2 mI0 mJ0 mA0 mB0))) "PagedValuesModel" rfl (by decide) (Nat.le_of_ble_eq_true rfl) ?_
  intro p e s m below meth c ls A hx hb hr hlk hml hown hts hin hl hP hD hK hS hA hZ
  have hl : lv_has ls 4 [(0, .ref (q 0)), (1, .int x1)] := hl
  refine lv_aload_n hx hb d15_54_0 rfl (lv_at hl 0 rfl) ?_
  refine lv_aload_n hx hb d15_54_1 rfl (lv_at hl 0 rfl) ?_
  refine va_get (D := G.1) (ci := 13) (v := .ref (q 22)) (C := r_13) (T := f_13) (N := 42) (ref := "PagedValuesModel") hx hb hts (fun w h => List.mem_cons_of_mem _ (ly_13 w h)) hown hK hP 0 rfl rfl 35 (by decide) (hts _ (List.mem_cons_of_mem _ k1186)) (fun _ h9 => h9) rfl d15_54_2 ?_
  refine lv_iconst (v := 0) hx hb d15_54_5 (by decide) ?_
  refine va_iald (D := G.1) hx hb hK hP 22 1 rfl rfl (i := 0) (by unfold vp_in; decide) d15_54_6 ?_
  refine W.eq (g2 := F0 m 7 ls [.int (-1), .ref (q 0)]) rfl ?_
  refine lv_iload_n hx hb d15_54_7 rfl (lv_at hl 1 rfl) ?_
  refine sV_i (As := [.int (-1), .int x1]) (rest := []) ⟨hx, hb, hml, hown, hts⟩ (a15_53_38 l G Zd q  x1 _) (kw_V (n := 2) hts k1412 k1409 k15 k1411 ks61 (by decide +kernel) ⟨Nat.le_of_ble_eq_true rfl, Nat.le_of_ble_eq_true rfl⟩) hP hD hK hS hA hZ (va_recv (ci := 13) (q0 := 0) hK hP rfl rfl) rfl hl.1 rfl (Nat.le_of_ble_eq_true rfl) d15_54_8 ⟨Nat.le_of_ble_eq_true rfl, Nat.le_of_ble_eq_true rfl⟩ (fun rr u H locs hp hP hD hS => ?_)
  obtain rfl := hp
  refine W.eq (g2 := F0 m 11 ls [.int 0]) rfl ?_
  have hP : va_P G.1 vwCl (wM q G.2 mI0 mJ0 mA0 mB0) H := hP
  have hD : va_D A (wM q G.2 mI0 mJ0 mA0 mB0) := hD
  refine lv_if_ne (tgt := 28) hx hb d15_54_11 rfl (fun hc => absurd hc (by decide)) (fun _ => ?_)
  refine lv_aload_n hx hb d15_54_14 rfl (lv_at hl 0 rfl) ?_
  refine lv_aload_n hx hb d15_54_15 rfl (lv_at hl 0 rfl) ?_
  refine va_get (D := G.1) (ci := 13) (v := .ref (q 22)) (C := r_13) (T := f_13) (N := 42) (ref := "PagedValuesModel") hx hb hts (fun w h => List.mem_cons_of_mem _ (ly_13 w h)) hown hK hP 0 rfl rfl 35 (by decide) (hts _ (List.mem_cons_of_mem _ k1186)) (fun _ h9 => h9) rfl d15_54_16 ?_
  refine lv_iconst (v := 1) hx hb d15_54_19 (by decide) ?_
  refine va_iald (D := G.1) hx hb hK hP 22 1 rfl rfl (i := 1) (by unfold vp_in; decide) d15_54_20 ?_
  refine W.eq (g2 := F0 m 21 ls [.int (-1), .ref (q 0)]) rfl ?_
  refine lv_iload_n hx hb d15_54_21 rfl (lv_at hl 1 rfl) ?_
  refine sV_i (As := [.int (-1), .int x1]) (rest := []) ⟨hx, hb, hml, hown, hts⟩ (a15_53_38 l G Zd q  x1 _) (kw_V (n := 2) hts k1412 k1409 k15 k1411 ks61 (by decide +kernel) ⟨Nat.le_of_ble_eq_true rfl, Nat.le_of_ble_eq_true rfl⟩) hP hD hK hS hA hZ (va_recv (ci := 13) (q0 := 0) hK hP rfl rfl) rfl hl.1 rfl (Nat.le_of_ble_eq_true rfl) d15_54_22 ⟨Nat.le_of_ble_eq_true rfl, Nat.le_of_ble_eq_true rfl⟩ (fun rr u H locs hp hP hD hS => ?_)
  obtain rfl := hp
  refine W.eq (g2 := F0 m 25 ls [.int 0]) rfl ?_
  have hP : va_P G.1 vwCl (wM q G.2 mI0 mJ0 mA0 mB0) H := hP
  have hD : va_D A (wM q G.2 mI0 mJ0 mA0 mB0) := hD
  refine lv_if_eq (tgt := 32) hx hb d15_54_25 rfl (fun _ => ?_) (fun hc => absurd hc (by decide))
  refine lv_iconst (v := 0) hx hb d15_54_32 (by decide) ?_
  refine lv_istore_n (lv' := [(2, .int 0), (0, .ref (q 0)), (1, .int x1)]) hx hb d15_54_33 rfl hl (by decide) rfl (fun ls hl => ?_)
  refine lv_iconst (v := 0) hx hb d15_54_34 (by decide) ?_
  refine lv_istore_n (lv' := [(3, .int 0), (2, .int 0), (0, .ref (q 0)), (1, .int x1)]) hx hb d15_54_35 rfl hl (by decide) rfl (fun ls hl => ?_)
  refine lv_iload_n hx hb d15_54_36 rfl (lv_at hl 0 rfl) ?_
  refine lv_iconst (v := 3) hx hb d15_54_37 (by decide) ?_
  refine lv_icmp_ge (tgt := 80) hx hb d15_54_38 rfl (fun hc => absurd hc (by decide)) (fun _ => ?_)
  refine lv_iload_n hx hb d15_54_41 rfl (lv_at hl 1 rfl) ?_
  refine lv_if_ne (tgt := 68) hx hb d15_54_42 rfl (fun hc => absurd hc (by decide)) (fun _ => ?_)
  refine lv_aload_n hx hb d15_54_45 rfl (lv_at hl 2 rfl) ?_
  refine va_get (D := G.1) (ci := 13) (v := .ref (q 24)) (C := r_13) (T := f_13) (N := 42) (ref := "PagedValuesModel") hx hb hts (fun w h => List.mem_cons_of_mem _ (ly_13 w h)) hown hK hP 0 rfl rfl 37 (by decide) (hts _ (List.mem_cons_of_mem _ k1188)) (fun _ h9 => h9) rfl d15_54_46 ?_
  refine lv_iload_n hx hb d15_54_49 rfl (lv_at hl 0 rfl) ?_
  refine va_zald (D := G.1) hx hb hK hP 24 3 rfl rfl (i := 0) (by unfold vp_in; decide) d15_54_50 ?_
  refine W.eq (g2 := F0 m 51 ls [.int 0]) rfl ?_
  refine lv_if_eq (tgt := 72) hx hb d15_54_51 rfl (fun _ => ?_) (fun hc => absurd hc (by decide))
  refine lv_iconst (v := 0) hx hb d15_54_72 (by decide) ?_
  refine lv_istore_n (lv' := [(2, .int 0), (3, .int 0), (0, .ref (q 0)), (1, .int x1)]) hx hb d15_54_73 rfl hl (by decide) rfl (fun ls hl => ?_)
  refine lv_iinc (k := 1) (v := 1) (lv' := [(3, .int 1), (2, .int 0), (0, .ref (q 0)), (1, .int x1)]) hx hb d15_54_74 hl rfl (by first | decide | rfl) (by decide) rfl (fun ls hl => ?_)
  refine lv_goto (tgt := 36) hx hb d15_54_77 rfl ?_
  refine lv_iload_n hx hb d15_54_36 rfl (lv_at hl 0 rfl) ?_
  refine lv_iconst (v := 3) hx hb d15_54_37 (by decide) ?_
  refine lv_icmp_ge (tgt := 80) hx hb d15_54_38 rfl (fun hc => absurd hc (by decide)) (fun _ => ?_)
  refine lv_iload_n hx hb d15_54_41 rfl (lv_at hl 1 rfl) ?_
  refine lv_if_ne (tgt := 68) hx hb d15_54_42 rfl (fun hc => absurd hc (by decide)) (fun _ => ?_)
  refine lv_aload_n hx hb d15_54_45 rfl (lv_at hl 2 rfl) ?_
  refine va_get (D := G.1) (ci := 13) (v := .ref (q 24)) (C := r_13) (T := f_13) (N := 42) (ref := "PagedValuesModel") hx hb hts (fun w h => List.mem_cons_of_mem _ (ly_13 w h)) hown hK hP 0 rfl rfl 37 (by decide) (hts _ (List.mem_cons_of_mem _ k1188)) (fun _ h9 => h9) rfl d15_54_46 ?_
  refine lv_iload_n hx hb d15_54_49 rfl (lv_at hl 0 rfl) ?_
  refine va_zald (D := G.1) hx hb hK hP 24 3 rfl rfl (i := 1) (by unfold vp_in; decide) d15_54_50 ?_
  refine W.eq (g2 := F0 m 51 ls [.int 0]) rfl ?_
  refine lv_if_eq (tgt := 72) hx hb d15_54_51 rfl (fun _ => ?_) (fun hc => absurd hc (by decide))
  refine lv_iconst (v := 0) hx hb d15_54_72 (by decide) ?_
  refine lv_istore_n (lv' := [(2, .int 0), (3, .int 1), (0, .ref (q 0)), (1, .int x1)]) hx hb d15_54_73 rfl hl (by decide) rfl (fun ls hl => ?_)
  refine lv_iinc (k := 1) (v := 2) (lv' := [(3, .int 2), (2, .int 0), (0, .ref (q 0)), (1, .int x1)]) hx hb d15_54_74 hl rfl (by first | decide | rfl) (by decide) rfl (fun ls hl => ?_)
  refine lv_goto (tgt := 36) hx hb d15_54_77 rfl ?_
  refine lv_iload_n hx hb d15_54_36 rfl (lv_at hl 0 rfl) ?_
  refine lv_iconst (v := 3) hx hb d15_54_37 (by decide) ?_
  refine lv_icmp_ge (tgt := 80) hx hb d15_54_38 rfl (fun hc => absurd hc (by decide)) (fun _ => ?_)
  refine lv_iload_n hx hb d15_54_41 rfl (lv_at hl 1 rfl) ?_
  refine lv_if_ne (tgt := 68) hx hb d15_54_42 rfl (fun hc => absurd hc (by decide)) (fun _ => ?_)
  refine lv_aload_n hx hb d15_54_45 rfl (lv_at hl 2 rfl) ?_
  refine va_get (D := G.1) (ci := 13) (v := .ref (q 24)) (C := r_13) (T := f_13) (N := 42) (ref := "PagedValuesModel") hx hb hts (fun w h => List.mem_cons_of_mem _ (ly_13 w h)) hown hK hP 0 rfl rfl 37 (by decide) (hts _ (List.mem_cons_of_mem _ k1188)) (fun _ h9 => h9) rfl d15_54_46 ?_
  refine lv_iload_n hx hb d15_54_49 rfl (lv_at hl 0 rfl) ?_
  refine va_zald (D := G.1) hx hb hK hP 24 3 rfl rfl (i := 2) (by unfold vp_in; decide) d15_54_50 ?_
  refine W.eq (g2 := F0 m 51 ls [.int 0]) rfl ?_
  refine lv_if_eq (tgt := 72) hx hb d15_54_51 rfl (fun _ => ?_) (fun hc => absurd hc (by decide))
  refine lv_iconst (v := 0) hx hb d15_54_72 (by decide) ?_
  refine lv_istore_n (lv' := [(2, .int 0), (3, .int 2), (0, .ref (q 0)), (1, .int x1)]) hx hb d15_54_73 rfl hl (by decide) rfl (fun ls hl => ?_)
  refine lv_iinc (k := 1) (v := 3) (lv' := [(3, .int 3), (2, .int 0), (0, .ref (q 0)), (1, .int x1)]) hx hb d15_54_74 hl rfl (by first | decide | rfl) (by decide) rfl (fun ls hl => ?_)
  refine lv_goto (tgt := 36) hx hb d15_54_77 rfl ?_
  refine lv_iload_n hx hb d15_54_36 rfl (lv_at hl 0 rfl) ?_
  refine lv_iconst (v := 3) hx hb d15_54_37 (by decide) ?_
  refine lv_icmp_ge (tgt := 80) hx hb d15_54_38 rfl (fun _ => ?_) (fun hc => absurd hc (by decide))
  refine lv_iload_n hx hb d15_54_80 rfl (lv_at hl 1 rfl) ?_
  refine lv_if_ne (tgt := 88) hx hb d15_54_81 rfl (fun hc => absurd hc (by decide)) (fun _ => ?_)
  refine lv_iconst (v := 1) hx hb d15_54_84 (by decide) ?_
  refine lv_goto (tgt := 89) hx hb d15_54_85 rfl ?_
  exact fin_z hx hb hr hlk (by decide) hS () rfl hP hD (Nat.le_of_ble_eq_true rfl) (Nat.le_of_ble_eq_true rfl) d15_54_89
set_option maxHeartbeats 4000000 in
set_option maxRecDepth 100000 in
theorem tm_page (l : Launch) (G : Gk) (Zd q : Nat → Nat) (n : Int32) (sz : Nat) : Met l y15_93 (Cond.code y15_93 prog_15_method_93_code 2 (some .int) :: TB) (rmD 2 0 0) (va_Pc [.ref (q 0), .int n] (pcW G Zd (wM q G.2 mI0 mJ0 mA0 mB0) sz)) (qI G (fun rr (_ : Unit) => rr = an_page n) (fun _ => []) (va_A (wM q G.2 mI0 mJ0 mA0 mB0) sz)) 0 0 (va_A (wM q G.2 mI0 mJ0 mA0 mB0) sz) := by
  refine go (Qc := qI G (fun rr (_ : Unit) => rr = an_page n) (fun _ => [])) "PagedValuesModel" rfl (by decide) (Nat.le_of_ble_eq_true rfl) ?_
  intro p e s m below meth c ls A hx hb hr hlk hml hown hts hin hl hP hD hK hS hA hZ
  have hl : lv_has ls 2 [(0, .ref (q 0)), (1, .int n)] := hl
  refine lv_iload_n hx hb d15_93_0 rfl (lv_at hl 1 rfl) ?_
  refine lv_iconst (v := 0) hx hb d15_93_1 (by decide) ?_
  refine lv_bipush (v := 11) hx hb d15_93_2 (by decide) ?_
  refine sS_i (As := [.int n, .int 0, .int 11]) (rest := []) ⟨hx, hb, hml, hown, hts⟩ (am_within l G Zd q _ n 0 11 _) (kw_S (n := 3) hts k1289 k1287 k15 k1288 (by decide +kernel) ⟨Nat.le_of_ble_eq_true rfl, Nat.le_of_ble_eq_true rfl⟩) hP hD hK hS hA hZ rfl hl.1 rfl (Nat.le_of_ble_eq_true rfl) d15_93_4 ⟨Nat.le_of_ble_eq_true rfl, Nat.le_of_ble_eq_true rfl⟩ (fun rr u H locs hp hP hD hS => ?_)
  obtain rfl := hp
  refine W.eq (g2 := F0 m 7 ls [.int (wt n 0 11)]) rfl ?_
  have hP : va_P G.1 vwCl (wM q G.2 mI0 mJ0 mA0 mB0) H := hP
  have hD : va_D A (wM q G.2 mI0 mJ0 mA0 mB0) := hD
  refine lv_if_ne (tgt := 14) hx hb d15_93_7 rfl (fun c1 => ?_) (fun c1 => ?_)
  ·
    refine lv_aload_n hx hb d15_93_14 rfl (lv_at hl 0 rfl) ?_
    refine lv_iload_n hx hb d15_93_15 rfl (lv_at hl 1 rfl) ?_
    refine sV_i (As := [.int n]) (rest := []) ⟨hx, hb, hml, hown, hts⟩ (a15_54_39 l G Zd q  n _) (kw_V (n := 1) hts k1408 k1405 k15 k1407 ks60 (by decide +kernel) ⟨Nat.le_of_ble_eq_true rfl, Nat.le_of_ble_eq_true rfl⟩) hP hD hK hS hA hZ (va_recv (ci := 13) (q0 := 0) hK hP rfl rfl) rfl hl.1 rfl (Nat.le_of_ble_eq_true rfl) d15_93_16 ⟨Nat.le_of_ble_eq_true rfl, Nat.le_of_ble_eq_true rfl⟩ (fun rr u H locs hp hP hD hS => ?_)
    obtain rfl := hp
    refine W.eq (g2 := F0 m 19 ls [.int 1]) rfl ?_
    have hP : va_P G.1 vwCl (wM q G.2 mI0 mJ0 mA0 mB0) H := hP
    have hD : va_D A (wM q G.2 mI0 mJ0 mA0 mB0) := hD
    refine lv_if_eq (tgt := 26) hx hb d15_93_19 rfl (fun hc => absurd hc (by decide)) (fun _ => ?_)
    refine lv_iconst (v := 0) hx hb d15_93_22 (by decide) ?_
    refine lv_goto (tgt := 32) hx hb d15_93_23 rfl ?_
    exact fin_i hx hb hr hlk hS () (if_pos (show 0 ≤ n.toInt ∧ n.toInt ≤ 11 by have L9 := lits; have fc1 := c1; (first | replace fc1 := wt_0 fc1 | replace fc1 := wt_1 fc1 | replace fc1 := an_rd_0 fc1 | simp only [Int32.lt_iff_toInt_lt, Int32.le_iff_toInt_le, ← Int32.toInt_inj, ne_eq] at fc1 | skip); omega)).symm (fun k q h => by simp at h) ⟨fun i j x y h => by simp at h, fun k q h => by simp at h⟩ (Nat.le_of_ble_eq_true rfl) (Nat.le_of_ble_eq_true rfl) d15_93_32
  ·
    refine lv_iconst (v := (-1)) hx hb d15_93_10 (by decide) ?_
    refine lv_goto (tgt := 32) hx hb d15_93_11 rfl ?_
    exact fin_i hx hb hr hlk hS () (if_neg (show ¬ (0 ≤ n.toInt ∧ n.toInt ≤ 11) by have L9 := lits; have fc1 := c1; (first | replace fc1 := wt_0 fc1 | replace fc1 := wt_1 fc1 | replace fc1 := an_rd_0 fc1 | simp only [Int32.lt_iff_toInt_lt, Int32.le_iff_toInt_le, ← Int32.toInt_inj, ne_eq] at fc1 | skip); omega)).symm (fun k q h => by simp at h) ⟨fun i j x y h => by simp at h, fun k q h => by simp at h⟩ (Nat.le_of_ble_eq_true rfl) (Nat.le_of_ble_eq_true rfl) d15_93_32
set_option maxHeartbeats 4000000 in
set_option maxRecDepth 100000 in
theorem am_isReader (l : Launch) (G : Gk) (Zd q : Nat → Nat) (r : Int32) (sz : Nat) : Met l y15_76 (Cond.code y15_76 prog_15_method_76_code 2 (some .boolean) :: TB) (rmD 1 0 0) (va_Pc [.ref (q 0), .int r] (pcW G Zd (wM q G.2 mI0 mJ0 mA0 mB0) sz)) (qI G (fun rr (_ : Unit) => rr = an_rd r) (fun _ => (wM q G.2 mI0 mJ0 mA0 mB0)) (va_A (wM q G.2 mI0 mJ0 mA0 mB0) sz)) 0 0 (va_A (wM q G.2 mI0 mJ0 mA0 mB0) sz) := by
  refine go (Qc := qI G (fun rr (_ : Unit) => rr = an_rd r) (fun _ => (wM q G.2 mI0 mJ0 mA0 mB0))) "PagedValuesModel" rfl (by decide) (Nat.le_of_ble_eq_true rfl) ?_
  intro p e s m below meth c ls A hx hb hr hlk hml hown hts hin hl hP hD hK hS hA hZ
  have hl : lv_has ls 2 [(0, .ref (q 0)), (1, .int r)] := hl
  refine lv_iload_n hx hb d15_76_0 rfl (lv_at hl 1 rfl) ?_
  refine lv_iconst (v := (-1)) hx hb d15_76_1 (by decide) ?_
  refine lv_icmp_eq (tgt := 23) hx hb d15_76_2 rfl (fun c1 => ?_) (fun c1 => ?_)
  ·
    refine lv_iconst (v := 1) hx hb d15_76_23 (by decide) ?_
    refine lv_goto (tgt := 28) hx hb d15_76_24 rfl ?_
    exact fin_z hx hb hr hlk (by decide) hS () (if_pos (show r.toInt = -1 by have L9 := lits; have fc1 := c1; (first | replace fc1 := wt_0 fc1 | replace fc1 := wt_1 fc1 | replace fc1 := an_rd_0 fc1 | simp only [Int32.lt_iff_toInt_lt, Int32.le_iff_toInt_le, ← Int32.toInt_inj, ne_eq] at fc1 | skip); omega)).symm hP hD (Nat.le_of_ble_eq_true rfl) (Nat.le_of_ble_eq_true rfl) d15_76_28
  ·
    refine lv_iload_n hx hb d15_76_5 rfl (lv_at hl 1 rfl) ?_
    refine lv_iconst (v := 0) hx hb d15_76_6 (by decide) ?_
    refine lv_iconst (v := 2) hx hb d15_76_7 (by decide) ?_
    refine sS_i (As := [.int r, .int 0, .int 2]) (rest := []) ⟨hx, hb, hml, hown, hts⟩ (am_within l G Zd q _ r 0 2 _) (kw_S (n := 3) hts k1289 k1287 k15 k1288 (by decide +kernel) ⟨Nat.le_of_ble_eq_true rfl, Nat.le_of_ble_eq_true rfl⟩) hP hD hK hS hA hZ rfl hl.1 rfl (Nat.le_of_ble_eq_true rfl) d15_76_8 ⟨Nat.le_of_ble_eq_true rfl, Nat.le_of_ble_eq_true rfl⟩ (fun rr u H locs hp hP hD hS => ?_)
    obtain rfl := hp
    refine W.eq (g2 := F0 m 11 ls [.int (wt r 0 2)]) rfl ?_
    have hP : va_P G.1 vwCl (wM q G.2 mI0 mJ0 mA0 mB0) H := hP
    have hD : va_D A (wM q G.2 mI0 mJ0 mA0 mB0) := hD
    refine lv_if_eq (tgt := 27) hx hb d15_76_11 rfl (fun c2 => ?_) (fun c2 => ?_)
    ·
      refine lv_iconst (v := 0) hx hb d15_76_27 (by decide) ?_
      exact fin_z hx hb hr hlk (by decide) hS () (if_neg (show ¬ (r.toInt = -1) by have L9 := lits; have fc1 := c1; (first | replace fc1 := wt_0 fc1 | replace fc1 := wt_1 fc1 | replace fc1 := an_rd_0 fc1 | simp only [Int32.lt_iff_toInt_lt, Int32.le_iff_toInt_le, ← Int32.toInt_inj, ne_eq] at fc1 | skip); have fc2 := c2; (first | replace fc2 := wt_0 fc2 | replace fc2 := wt_1 fc2 | replace fc2 := an_rd_0 fc2 | simp only [Int32.lt_iff_toInt_lt, Int32.le_iff_toInt_le, ← Int32.toInt_inj, ne_eq] at fc2 | skip); omega)).symm hP hD (Nat.le_of_ble_eq_true rfl) (Nat.le_of_ble_eq_true rfl) d15_76_28
    ·
      refine lv_aload_n hx hb d15_76_14 rfl (lv_at hl 0 rfl) ?_
      refine va_get (D := G.1) (ci := 13) (v := .ref (q 24)) (C := r_13) (T := f_13) (N := 42) (ref := "PagedValuesModel") hx hb hts (fun w h => List.mem_cons_of_mem _ (ly_13 w h)) hown hK hP 0 rfl rfl 37 (by decide) (hts _ (List.mem_cons_of_mem _ k1188)) (fun _ h9 => h9) rfl d15_76_15 ?_
      refine lv_iload_n hx hb d15_76_18 rfl (lv_at hl 1 rfl) ?_
      refine va_zald (D := G.1) hx hb hK hP 24 3 rfl rfl (i := r) (wt_in (wt_1 c2) (by decide)) d15_76_19 ?_
      refine W.eq (g2 := F0 m 20 ls [.int 0]) rfl ?_
      refine lv_if_eq (tgt := 27) hx hb d15_76_20 rfl (fun _ => ?_) (fun hc => absurd hc (by decide))
      refine lv_iconst (v := 0) hx hb d15_76_27 (by decide) ?_
      exact fin_z hx hb hr hlk (by decide) hS () (if_neg (show ¬ (r.toInt = -1) by have L9 := lits; have fc1 := c1; (first | replace fc1 := wt_0 fc1 | replace fc1 := wt_1 fc1 | replace fc1 := an_rd_0 fc1 | simp only [Int32.lt_iff_toInt_lt, Int32.le_iff_toInt_le, ← Int32.toInt_inj, ne_eq] at fc1 | skip); have fc2 := c2; (first | replace fc2 := wt_0 fc2 | replace fc2 := wt_1 fc2 | replace fc2 := an_rd_0 fc2 | simp only [Int32.lt_iff_toInt_lt, Int32.le_iff_toInt_le, ← Int32.toInt_inj, ne_eq] at fc2 | skip); omega)).symm hP hD (Nat.le_of_ble_eq_true rfl) (Nat.le_of_ble_eq_true rfl) d15_76_28
set_option maxHeartbeats 4000000 in
set_option maxRecDepth 100000 in
theorem a15_7_40 (l : Launch) (G : Gk) (Zd q : Nat → Nat)  (sz : Nat) : Met l y15_7 (Cond.code y15_7 prog_15_method_7_code 1 (some .int) :: TB) (rmD 0 0 0) (va_Pc [.ref (q 0)] (pcW G Zd (wM q G.2 (upd (upd (upd (upd (upd mI0 10 0) 1 0) 2 (-1)) 5 0) 6 0) mJ0 mA0 mB0) sz)) (qI G (fun rr (_ : Unit) => rr = (-1)) (fun _ => (wM q G.2 (upd (upd (upd (upd (upd mI0 10 0) 1 0) 2 (-1)) 5 0) 6 0) mJ0 mA0 mB0)) (va_A (wM q G.2 (upd (upd (upd (upd (upd mI0 10 0) 1 0) 2 (-1)) 5 0) 6 0) mJ0 mA0 mB0) sz)) 0 0 (va_A (wM q G.2 (upd (upd (upd (upd (upd mI0 10 0) 1 0) 2 (-1)) 5 0) 6 0) mJ0 mA0 mB0) sz) := by
  refine go (Qc := qI G (fun rr (_ : Unit) => rr = (-1)) (fun _ => (wM q G.2 (upd (upd (upd (upd (upd mI0 10 0) 1 0) 2 (-1)) 5 0) 6 0) mJ0 mA0 mB0))) "PagedValuesModel" rfl (by decide) (Nat.le_of_ble_eq_true rfl) ?_
  intro p e s m below meth c ls A hx hb hr hlk hml hown hts hin hl hP hD hK hS hA hZ
  have hl : lv_has ls 1 [(0, .ref (q 0))] := hl
  refine lv_aload_n hx hb d15_7_0 rfl (lv_at hl 0 rfl) ?_
  refine va_get (D := G.1) (ci := 13) (v := .int 0) (C := r_13) (T := f_13) (N := 42) (ref := "PagedValuesModel") hx hb hts (fun w h => List.mem_cons_of_mem _ (ly_13 w h)) hown hK hP 0 rfl rfl 2 (by decide) (hts _ (List.mem_cons_of_mem _ k1153)) (fun _ h9 => h9) rfl d15_7_1 ?_
  refine lv_aload_n hx hb d15_7_4 rfl (lv_at hl 0 rfl) ?_
  refine va_get (D := G.1) (ci := 13) (v := .int 0) (C := r_13) (T := f_13) (N := 42) (ref := "PagedValuesModel") hx hb hts (fun w h => List.mem_cons_of_mem _ (ly_13 w h)) hown hK hP 0 rfl rfl 1 (by decide) (hts _ (List.mem_cons_of_mem _ k1152)) (fun _ h9 => h9) rfl d15_7_5 ?_
  refine lv_icmp_ge (tgt := 23) hx hb d15_7_8 rfl (fun _ => ?_) (fun hc => absurd hc (by decide))
  refine lv_iconst (v := (-1)) hx hb d15_7_23 (by decide) ?_
  exact fin_i hx hb hr hlk hS () rfl hP hD (Nat.le_of_ble_eq_true rfl) (Nat.le_of_ble_eq_true rfl) d15_7_24
set_option maxHeartbeats 4000000 in
set_option maxRecDepth 100000 in
theorem a15_8_41 (l : Launch) (G : Gk) (Zd q : Nat → Nat)  (sz : Nat) : Met l y15_8 (Cond.code y15_8 prog_15_method_8_code 1 none :: TB) (rmD 0 0 0) (va_Pc [.ref (q 0)] (pcW G Zd (wM q G.2 (upd (upd (upd (upd (upd mI0 10 0) 1 0) 2 (-1)) 5 0) 6 0) mJ0 mA0 mB0) sz)) (qV G (fun (_ : Unit) => True) (fun _ => (wM q G.2 (upd (upd (upd (upd (upd mI0 10 0) 1 0) 5 0) 6 0) 2 0) mJ0 mA0 mB0)) (va_A (wM q G.2 (upd (upd (upd (upd (upd mI0 10 0) 1 0) 2 (-1)) 5 0) 6 0) mJ0 mA0 mB0) sz)) 0 0 (va_A (wM q G.2 (upd (upd (upd (upd (upd mI0 10 0) 1 0) 2 (-1)) 5 0) 6 0) mJ0 mA0 mB0) sz) := by
  refine go (Qc := qV G (fun (_ : Unit) => True) (fun _ => (wM q G.2 (upd (upd (upd (upd (upd mI0 10 0) 1 0) 5 0) 6 0) 2 0) mJ0 mA0 mB0))) "PagedValuesModel" rfl (by decide) (Nat.le_of_ble_eq_true rfl) ?_
  intro p e s m below meth c ls A hx hb hr hlk hml hown hts hin hl hP hD hK hS hA hZ
  have hl : lv_has ls 1 [(0, .ref (q 0))] := hl
  refine lv_aload_n hx hb d15_8_0 rfl (lv_at hl 0 rfl) ?_
  refine lv_aload_n hx hb d15_8_1 rfl (lv_at hl 0 rfl) ?_
  refine va_get (D := G.1) (ci := 13) (v := .int (-1)) (C := r_13) (T := f_13) (N := 42) (ref := "PagedValuesModel") hx hb hts (fun w h => List.mem_cons_of_mem _ (ly_13 w h)) hown hK hP 0 rfl rfl 3 (by decide) (hts _ (List.mem_cons_of_mem _ k1154)) (fun _ h9 => h9) rfl d15_8_2 ?_
  refine lv_if_ge (tgt := 15) hx hb d15_8_5 rfl (fun hc => absurd hc (by decide)) (fun _ => ?_)
  refine lv_aload_n hx hb d15_8_8 rfl (lv_at hl 0 rfl) ?_
  refine va_get (D := G.1) (ci := 13) (v := .int 0) (C := r_13) (T := f_13) (N := 42) (ref := "PagedValuesModel") hx hb hts (fun w h => List.mem_cons_of_mem _ (ly_13 w h)) hown hK hP 0 rfl rfl 2 (by decide) (hts _ (List.mem_cons_of_mem _ k1153)) (fun _ h9 => h9) rfl d15_8_9 ?_
  refine lv_goto (tgt := 19) hx hb d15_8_12 rfl ?_
  refine va_put (D := G.1) (ci := 13) (v := .int 0) (ty := .int) (C := r_13) (T := f_13) (N := 42) (ref := "PagedValuesModel") hx hb hts (fun w h => List.mem_cons_of_mem _ (ly_13 w h)) ft_13 ft_13_ok nm_13 hown hK hP hD hS 0 rfl rfl 3 (by decide) (hts _ (List.mem_cons_of_mem _ k1154)) (fun _ h9 => h9) rfl (by decide +kernel) rfl rfl (Nat.le_of_ble_eq_true rfl) d15_8_19 (fun H locs hP hD hS => ?_)
  have hP : va_P G.1 vwCl (wM q G.2 (upd (upd (upd (upd (upd mI0 10 0) 1 0) 5 0) 6 0) 2 0) mJ0 mA0 mB0) H := hP
  have hD : va_D A (wM q G.2 (upd (upd (upd (upd (upd mI0 10 0) 1 0) 5 0) 6 0) 2 0) mJ0 mA0 mB0) := hD
  exact fin_v hx hb hr hlk hS () trivial hP hD (Nat.le_of_ble_eq_true rfl) (Nat.le_of_ble_eq_true rfl) d15_8_22
set_option maxHeartbeats 4000000 in
set_option maxRecDepth 100000 in
theorem a15_9_42 (l : Launch) (G : Gk) (Zd q : Nat → Nat)  (sz : Nat) : Met l y15_9 (Cond.code y15_9 prog_15_method_9_code 2 none :: TB) (rmD 1 0 0) (va_Pc [.ref (q 0), .int 36] (pcW G Zd (wM q G.2 (upd (upd (upd (upd (upd mI0 10 0) 1 0) 2 (-1)) 5 0) 6 0) mJ0 mA0 mB0) sz)) (qV G (fun (_ : Unit) => True) (fun _ => (wM q G.2 (upd (upd (upd (upd (upd mI0 10 0) 1 0) 5 0) 6 0) 2 0) mJ0 mA0 mB0)) (va_A (wM q G.2 (upd (upd (upd (upd (upd mI0 10 0) 1 0) 2 (-1)) 5 0) 6 0) mJ0 mA0 mB0) sz)) 0 0 (va_A (wM q G.2 (upd (upd (upd (upd (upd mI0 10 0) 1 0) 2 (-1)) 5 0) 6 0) mJ0 mA0 mB0) sz) := by
  refine go (Qc := qV G (fun (_ : Unit) => True) (fun _ => (wM q G.2 (upd (upd (upd (upd (upd mI0 10 0) 1 0) 5 0) 6 0) 2 0) mJ0 mA0 mB0))) "PagedValuesModel" rfl (by decide) (Nat.le_of_ble_eq_true rfl) ?_
  intro p e s m below meth c ls A hx hb hr hlk hml hown hts hin hl hP hD hK hS hA hZ
  have hl : lv_has ls 2 [(0, .ref (q 0)), (1, .int 36)] := hl
  refine lv_aload_n hx hb d15_9_0 rfl (lv_at hl 0 rfl) ?_
  refine va_get (D := G.1) (ci := 13) (v := .int (-1)) (C := r_13) (T := f_13) (N := 42) (ref := "PagedValuesModel") hx hb hts (fun w h => List.mem_cons_of_mem _ (ly_13 w h)) hown hK hP 0 rfl rfl 3 (by decide) (hts _ (List.mem_cons_of_mem _ k1154)) (fun _ h9 => h9) rfl d15_9_1 ?_
  refine lv_if_ge (tgt := 28) hx hb d15_9_4 rfl (fun hc => absurd hc (by decide)) (fun _ => ?_)
  refine lv_aload_n hx hb d15_9_7 rfl (lv_at hl 0 rfl) ?_
  refine sV_i (As := []) (rest := []) ⟨hx, hb, hml, hown, hts⟩ (a15_7_40 l G Zd q  _) (kw_V (n := 0) hts k1305 k1302 k15 k1304 ks37 (by decide +kernel) ⟨Nat.le_of_ble_eq_true rfl, Nat.le_of_ble_eq_true rfl⟩) hP hD hK hS hA hZ (va_recv (ci := 13) (q0 := 0) hK hP rfl rfl) rfl hl.1 rfl (Nat.le_of_ble_eq_true rfl) d15_9_8 ⟨Nat.le_of_ble_eq_true rfl, Nat.le_of_ble_eq_true rfl⟩ (fun rr u H locs hp hP hD hS => ?_)
  obtain rfl := hp
  refine W.eq (g2 := F0 m 11 ls [.int (-1)]) rfl ?_
  have hP : va_P G.1 vwCl (wM q G.2 (upd (upd (upd (upd (upd mI0 10 0) 1 0) 2 (-1)) 5 0) 6 0) mJ0 mA0 mB0) H := hP
  have hD : va_D A (wM q G.2 (upd (upd (upd (upd (upd mI0 10 0) 1 0) 2 (-1)) 5 0) 6 0) mJ0 mA0 mB0) := hD
  refine lv_iload_n hx hb d15_9_11 rfl (lv_at hl 1 rfl) ?_
  refine lv_icmp_ne (tgt := 28) hx hb d15_9_12 rfl (fun _ => ?_) (fun hc => absurd hc (by decide))
  refine lv_aload_n hx hb d15_9_28 rfl (lv_at hl 0 rfl) ?_
  refine sV_v (As := []) (rest := []) ⟨hx, hb, hml, hown, hts⟩ (a15_8_41 l G Zd q  _) (kw_V (n := 0) hts k1320 k1317 k15 k1319 ks40 (by decide +kernel) ⟨Nat.le_of_ble_eq_true rfl, Nat.le_of_ble_eq_true rfl⟩) hP hD hK hS hA hZ (va_recv (ci := 13) (q0 := 0) hK hP rfl rfl) rfl hl.1 rfl (Nat.le_of_ble_eq_true rfl) d15_9_29 ⟨Nat.le_of_ble_eq_true rfl, Nat.le_of_ble_eq_true rfl⟩ (fun u H locs hp hP hD hS => ?_)
  refine W.eq (g2 := F0 m 32 ls []) rfl ?_
  have hP : va_P G.1 vwCl (wM q G.2 (upd (upd (upd (upd (upd mI0 10 0) 1 0) 5 0) 6 0) 2 0) mJ0 mA0 mB0) H := hP
  have hD : va_D A (wM q G.2 (upd (upd (upd (upd (upd mI0 10 0) 1 0) 5 0) 6 0) 2 0) mJ0 mA0 mB0) := hD
  exact fin_v hx hb hr hlk hS () trivial hP hD (Nat.le_of_ble_eq_true rfl) (Nat.le_of_ble_eq_true rfl) d15_9_32
set_option maxHeartbeats 4000000 in
set_option maxRecDepth 100000 in
theorem a15_72_43 (l : Launch) (G : Gk) (Zd q : Nat → Nat)  (sz : Nat) : Met l y15_72 (Cond.code y15_72 prog_15_method_72_code 2 none :: TB) (rmD 2 0 0) (va_Pc [.ref (q 0)] (pcW G Zd (wM q G.2 (upd mI0 10 0) mJ0 mA0 mB0) sz)) (qV G (fun (_ : Unit) => True) (fun _ => (wM q G.2 (upd (upd (upd (upd (upd mI0 10 0) 1 0) 5 0) 6 0) 2 0) mJ0 mA0 mB0)) (va_A (wM q G.2 (upd mI0 10 0) mJ0 mA0 mB0) sz)) 0 0 (va_A (wM q G.2 (upd mI0 10 0) mJ0 mA0 mB0) sz) := by
  refine go (Qc := qV G (fun (_ : Unit) => True) (fun _ => (wM q G.2 (upd (upd (upd (upd (upd mI0 10 0) 1 0) 5 0) 6 0) 2 0) mJ0 mA0 mB0))) "PagedValuesModel" rfl (by decide) (Nat.le_of_ble_eq_true rfl) ?_
  intro p e s m below meth c ls A hx hb hr hlk hml hown hts hin hl hP hD hK hS hA hZ
  have hl : lv_has ls 2 [(0, .ref (q 0))] := hl
  refine lv_aload_n hx hb d15_72_0 rfl (lv_at hl 0 rfl) ?_
  refine lv_iconst (v := 0) hx hb d15_72_1 (by decide) ?_
  refine va_put (D := G.1) (ci := 13) (v := .int 0) (ty := .int) (C := r_13) (T := f_13) (N := 42) (ref := "PagedValuesModel") hx hb hts (fun w h => List.mem_cons_of_mem _ (ly_13 w h)) ft_13 ft_13_ok nm_13 hown hK hP hD hS 0 rfl rfl 2 (by decide) (hts _ (List.mem_cons_of_mem _ k1153)) (fun _ h9 => h9) rfl (by decide +kernel) rfl rfl (Nat.le_of_ble_eq_true rfl) d15_72_2 (fun H locs hP hD hS => ?_)
  have hP : va_P G.1 vwCl (wM q G.2 (upd (upd mI0 10 0) 1 0) mJ0 mA0 mB0) H := hP
  have hD : va_D A (wM q G.2 (upd (upd mI0 10 0) 1 0) mJ0 mA0 mB0) := hD
  refine lv_aload_n hx hb d15_72_5 rfl (lv_at hl 0 rfl) ?_
  refine lv_iconst (v := (-1)) hx hb d15_72_6 (by decide) ?_
  refine va_put (D := G.1) (ci := 13) (v := .int (-1)) (ty := .int) (C := r_13) (T := f_13) (N := 42) (ref := "PagedValuesModel") hx hb hts (fun w h => List.mem_cons_of_mem _ (ly_13 w h)) ft_13 ft_13_ok nm_13 hown hK hP hD hS 0 rfl rfl 3 (by decide) (hts _ (List.mem_cons_of_mem _ k1154)) (fun _ h9 => h9) rfl (by decide +kernel) rfl rfl (Nat.le_of_ble_eq_true rfl) d15_72_7 (fun H locs hP hD hS => ?_)
  have hP : va_P G.1 vwCl (wM q G.2 (upd (upd (upd mI0 10 0) 1 0) 2 (-1)) mJ0 mA0 mB0) H := hP
  have hD : va_D A (wM q G.2 (upd (upd (upd mI0 10 0) 1 0) 2 (-1)) mJ0 mA0 mB0) := hD
  refine lv_aload_n hx hb d15_72_10 rfl (lv_at hl 0 rfl) ?_
  refine lv_iconst (v := 0) hx hb d15_72_11 (by decide) ?_
  refine va_put (D := G.1) (ci := 13) (v := .int 0) (ty := .int) (C := r_13) (T := f_13) (N := 42) (ref := "PagedValuesModel") hx hb hts (fun w h => List.mem_cons_of_mem _ (ly_13 w h)) ft_13 ft_13_ok nm_13 hown hK hP hD hS 0 rfl rfl 15 (by decide) (hts _ (List.mem_cons_of_mem _ k1166)) (fun _ h9 => h9) rfl (by decide +kernel) rfl rfl (Nat.le_of_ble_eq_true rfl) d15_72_12 (fun H locs hP hD hS => ?_)
  have hP : va_P G.1 vwCl (wM q G.2 (upd (upd (upd (upd mI0 10 0) 1 0) 2 (-1)) 5 0) mJ0 mA0 mB0) H := hP
  have hD : va_D A (wM q G.2 (upd (upd (upd (upd mI0 10 0) 1 0) 2 (-1)) 5 0) mJ0 mA0 mB0) := hD
  refine lv_aload_n hx hb d15_72_15 rfl (lv_at hl 0 rfl) ?_
  refine lv_iconst (v := 0) hx hb d15_72_16 (by decide) ?_
  refine va_put (D := G.1) (ci := 13) (v := .int 0) (ty := .int) (C := r_13) (T := f_13) (N := 42) (ref := "PagedValuesModel") hx hb hts (fun w h => List.mem_cons_of_mem _ (ly_13 w h)) ft_13 ft_13_ok nm_13 hown hK hP hD hS 0 rfl rfl 18 (by decide) (hts _ (List.mem_cons_of_mem _ k1169)) (fun _ h9 => h9) rfl (by decide +kernel) rfl rfl (Nat.le_of_ble_eq_true rfl) d15_72_17 (fun H locs hP hD hS => ?_)
  have hP : va_P G.1 vwCl (wM q G.2 (upd (upd (upd (upd (upd mI0 10 0) 1 0) 2 (-1)) 5 0) 6 0) mJ0 mA0 mB0) H := hP
  have hD : va_D A (wM q G.2 (upd (upd (upd (upd (upd mI0 10 0) 1 0) 2 (-1)) 5 0) 6 0) mJ0 mA0 mB0) := hD
  refine lv_aload_n hx hb d15_72_20 rfl (lv_at hl 0 rfl) ?_
  refine lv_bipush (v := 36) hx hb d15_72_21 (by decide) ?_
  refine sV_v (As := [.int 36]) (rest := []) ⟨hx, hb, hml, hown, hts⟩ (a15_9_42 l G Zd q  _) (kw_V (n := 1) hts k1336 k1333 k15 k1335 ks44 (by decide +kernel) ⟨Nat.le_of_ble_eq_true rfl, Nat.le_of_ble_eq_true rfl⟩) hP hD hK hS hA hZ (va_recv (ci := 13) (q0 := 0) hK hP rfl rfl) rfl hl.1 rfl (Nat.le_of_ble_eq_true rfl) d15_72_23 ⟨Nat.le_of_ble_eq_true rfl, Nat.le_of_ble_eq_true rfl⟩ (fun u H locs hp hP hD hS => ?_)
  refine W.eq (g2 := F0 m 26 ls []) rfl ?_
  have hP : va_P G.1 vwCl (wM q G.2 (upd (upd (upd (upd (upd mI0 10 0) 1 0) 5 0) 6 0) 2 0) mJ0 mA0 mB0) H := hP
  have hD : va_D A (wM q G.2 (upd (upd (upd (upd (upd mI0 10 0) 1 0) 5 0) 6 0) 2 0) mJ0 mA0 mB0) := hD
  refine lv_iconst (v := 0) hx hb d15_72_26 (by decide) ?_
  refine lv_istore_n (lv' := [(1, .int 0), (0, .ref (q 0))]) hx hb d15_72_27 rfl hl (by decide) rfl (fun ls hl => ?_)
  refine lv_iload_n hx hb d15_72_28 rfl (lv_at hl 0 rfl) ?_
  refine lv_bipush (v := 81) hx hb d15_72_29 (by decide) ?_
  refine lv_icmp_ge (tgt := 62) hx hb d15_72_31 rfl (fun hc => absurd hc (by decide)) (fun _ => ?_)
  refine lv_aload_n hx hb d15_72_34 rfl (lv_at hl 1 rfl) ?_
  refine va_get (D := G.1) (ci := 13) (v := .int 0) (C := r_13) (T := f_13) (N := 42) (ref := "PagedValuesModel") hx hb hts (fun w h => List.mem_cons_of_mem _ (ly_13 w h)) hown hK hP 0 rfl rfl 3 (by decide) (hts _ (List.mem_cons_of_mem _ k1154)) (fun _ h9 => h9) rfl d15_72_35 ?_
  refine lv_if_ge (tgt := 62) hx hb d15_72_38 rfl (fun _ => ?_) (fun hc => absurd hc (by decide))
  exact fin_v hx hb hr hlk hS () trivial hP hD (Nat.le_of_ble_eq_true rfl) (Nat.le_of_ble_eq_true rfl) d15_72_62
set_option maxHeartbeats 4000000 in
set_option maxRecDepth 100000 in
theorem a15_77_44 (l : Launch) (G : Gk) (Zd q : Nat → Nat)  (sz : Nat) : Met l y15_77 (Cond.code y15_77 prog_15_method_77_code 2 (some .int) :: TB) (rmD 1 0 0) (va_Pc [.ref (q 0), .int (-1)] (pcW G Zd (wM q G.2 mI0 mJ0 mA0 mB0) sz)) (qI G (fun rr (_ : Unit) => rr = (-1)) (fun _ => (wM q G.2 mI0 mJ0 mA0 mB0)) (va_A (wM q G.2 mI0 mJ0 mA0 mB0) sz)) 0 0 (va_A (wM q G.2 mI0 mJ0 mA0 mB0) sz) := by
  refine go (Qc := qI G (fun rr (_ : Unit) => rr = (-1)) (fun _ => (wM q G.2 mI0 mJ0 mA0 mB0))) "PagedValuesModel" rfl (by decide) (Nat.le_of_ble_eq_true rfl) ?_
  intro p e s m below meth c ls A hx hb hr hlk hml hown hts hin hl hP hD hK hS hA hZ
  have hl : lv_has ls 2 [(0, .ref (q 0)), (1, .int (-1))] := hl
  refine lv_iload_n hx hb d15_77_0 rfl (lv_at hl 1 rfl) ?_
  refine lv_if_ge (tgt := 16) hx hb d15_77_1 rfl (fun hc => absurd hc (by decide)) (fun _ => ?_)
  refine lv_aload_n hx hb d15_77_4 rfl (lv_at hl 0 rfl) ?_
  refine va_get (D := G.1) (ci := 13) (v := .ref (q 22)) (C := r_13) (T := f_13) (N := 42) (ref := "PagedValuesModel") hx hb hts (fun w h => List.mem_cons_of_mem _ (ly_13 w h)) hown hK hP 0 rfl rfl 35 (by decide) (hts _ (List.mem_cons_of_mem _ k1186)) (fun _ h9 => h9) rfl d15_77_5 ?_
  refine lv_aload_n hx hb d15_77_8 rfl (lv_at hl 0 rfl) ?_
  refine sV_i (As := []) (rest := [.ref (q 22)]) ⟨hx, hb, hml, hown, hts⟩ (a15_52_35 l G Zd q  _) (kw_V (n := 0) hts k1396 k1393 k15 k1395 ks57 (by decide +kernel) ⟨Nat.le_of_ble_eq_true rfl, Nat.le_of_ble_eq_true rfl⟩) hP hD hK hS hA hZ (va_recv (ci := 13) (q0 := 0) hK hP rfl rfl) rfl hl.1 rfl (Nat.le_of_ble_eq_true rfl) d15_77_9 ⟨Nat.le_of_ble_eq_true rfl, Nat.le_of_ble_eq_true rfl⟩ (fun rr u H locs hp hP hD hS => ?_)
  obtain rfl := hp
  refine W.eq (g2 := F0 m 12 ls [.int 0, .ref (q 22)]) rfl ?_
  have hP : va_P G.1 vwCl (wM q G.2 mI0 mJ0 mA0 mB0) H := hP
  have hD : va_D A (wM q G.2 mI0 mJ0 mA0 mB0) := hD
  refine va_iald (D := G.1) hx hb hK hP 22 1 rfl rfl (i := 0) (by unfold vp_in; decide) d15_77_12 ?_
  refine W.eq (g2 := F0 m 13 ls [.int (-1)]) rfl ?_
  refine lv_goto (tgt := 22) hx hb d15_77_13 rfl ?_
  exact fin_i hx hb hr hlk hS () rfl hP hD (Nat.le_of_ble_eq_true rfl) (Nat.le_of_ble_eq_true rfl) d15_77_22
set_option maxHeartbeats 4000000 in
set_option maxRecDepth 100000 in
theorem tm_query (l : Launch) (G : Gk) (Zd q : Nat → Nat) (r id : Int32) (sz : Nat) : Met l y15_78 (Cond.code y15_78 prog_15_method_78_code 5 (some .int) :: TB) (rmD 3 0 0) (va_Pc [.ref (q 0), .int r, .int id] (pcW G Zd (wM q G.2 mI0 mJ0 mA0 mB0) sz)) (qI G (fun rr (_ : Unit) => rr = an_query r id) (fun _ => []) (va_A (wM q G.2 mI0 mJ0 mA0 mB0) sz)) 0 0 (va_A (wM q G.2 mI0 mJ0 mA0 mB0) sz) := by
  refine go (Qc := qI G (fun rr (_ : Unit) => rr = an_query r id) (fun _ => [])) "PagedValuesModel" rfl (by decide) (Nat.le_of_ble_eq_true rfl) ?_
  intro p e s m below meth c ls A hx hb hr hlk hml hown hts hin hl hP hD hK hS hA hZ
  have hl : lv_has ls 5 [(0, .ref (q 0)), (1, .int r), (2, .int id)] := hl
  refine lv_aload_n hx hb d15_78_0 rfl (lv_at hl 0 rfl) ?_
  refine va_get (D := G.1) (ci := 13) (v := .int 0) (C := r_13) (T := f_13) (N := 42) (ref := "PagedValuesModel") hx hb hts (fun w h => List.mem_cons_of_mem _ (ly_13 w h)) hown hK hP 0 rfl rfl 40 (by decide) (hts _ (List.mem_cons_of_mem _ k1191)) (fun _ h9 => h9) rfl d15_78_1 ?_
  refine lv_if_eq (tgt := 10) hx hb d15_78_4 rfl (fun _ => ?_) (fun hc => absurd hc (by decide))
  refine lv_aload_n hx hb d15_78_10 rfl (lv_at hl 0 rfl) ?_
  refine lv_iload_n hx hb d15_78_11 rfl (lv_at hl 1 rfl) ?_
  refine sV_i (As := [.int r]) (rest := []) ⟨hx, hb, hml, hown, hts⟩ (am_isReader l G Zd q r _) (kw_V (n := 1) hts k1542 k1539 k15 k1541 ks86 (by decide +kernel) ⟨Nat.le_of_ble_eq_true rfl, Nat.le_of_ble_eq_true rfl⟩) hP hD hK hS hA hZ (va_recv (ci := 13) (q0 := 0) hK hP rfl rfl) rfl hl.1 rfl (Nat.le_of_ble_eq_true rfl) d15_78_12 ⟨Nat.le_of_ble_eq_true rfl, Nat.le_of_ble_eq_true rfl⟩ (fun rr u H locs hp hP hD hS => ?_)
  obtain rfl := hp
  refine W.eq (g2 := F0 m 15 ls [.int (an_rd r)]) rfl ?_
  have hP : va_P G.1 vwCl (wM q G.2 mI0 mJ0 mA0 mB0) H := hP
  have hD : va_D A (wM q G.2 mI0 mJ0 mA0 mB0) := hD
  refine lv_if_eq (tgt := 36) hx hb d15_78_15 rfl (fun c1 => ?_) (fun c1 => ?_)
  ·
    refine lv_iconst (v := (-1)) hx hb d15_78_36 (by decide) ?_
    exact fin_i hx hb hr hlk hS () (if_neg (show ¬ (r.toInt = -1 ∧ id.toInt = -1) by have L9 := lits; have fc1 := c1; (first | replace fc1 := wt_0 fc1 | replace fc1 := wt_1 fc1 | replace fc1 := an_rd_0 fc1 | simp only [Int32.lt_iff_toInt_lt, Int32.le_iff_toInt_le, ← Int32.toInt_inj, ne_eq] at fc1 | skip); omega)).symm (fun k q h => by simp at h) ⟨fun i j x y h => by simp at h, fun k q h => by simp at h⟩ (Nat.le_of_ble_eq_true rfl) (Nat.le_of_ble_eq_true rfl) d15_78_37
  ·
    obtain rfl := an_rd_1 c1
    refine lv_iload_n hx hb d15_78_18 rfl (lv_at hl 2 rfl) ?_
    refine lv_iconst (v := (-1)) hx hb d15_78_19 (by decide) ?_
    refine lv_icmp_eq (tgt := 38) hx hb d15_78_20 rfl (fun c2 => ?_) (fun c2 => ?_)
    ·
      refine lv_aload_n hx hb d15_78_38 rfl (lv_at hl 0 rfl) ?_
      refine lv_iconst (v := 0) hx hb d15_78_39 (by decide) ?_
      refine va_put (D := G.1) (ci := 13) (v := .int 0) (ty := .int) (C := r_13) (T := f_13) (N := 42) (ref := "PagedValuesModel") hx hb hts (fun w h => List.mem_cons_of_mem _ (ly_13 w h)) ft_13 ft_13_ok nm_13 hown hK hP hD hS 0 rfl rfl 28 (by decide) (hts _ (List.mem_cons_of_mem _ k1179)) (fun _ h9 => h9) rfl (by decide +kernel) rfl rfl (Nat.le_of_ble_eq_true rfl) d15_78_40 (fun H locs hP hD hS => ?_)
      have hP : va_P G.1 vwCl (wM q G.2 (upd mI0 10 0) mJ0 mA0 mB0) H := hP
      have hD : va_D A (wM q G.2 (upd mI0 10 0) mJ0 mA0 mB0) := hD
      refine lv_aload_n hx hb d15_78_43 rfl (lv_at hl 0 rfl) ?_
      refine sV_v (As := []) (rest := []) ⟨hx, hb, hml, hown, hts⟩ (a15_72_43 l G Zd q  _) (kw_V (n := 0) hts k1550 k1547 k15 k1549 ks88 (by decide +kernel) ⟨Nat.le_of_ble_eq_true rfl, Nat.le_of_ble_eq_true rfl⟩) hP hD hK hS hA hZ (va_recv (ci := 13) (q0 := 0) hK hP rfl rfl) rfl hl.1 rfl (Nat.le_of_ble_eq_true rfl) d15_78_44 ⟨Nat.le_of_ble_eq_true rfl, Nat.le_of_ble_eq_true rfl⟩ (fun u H locs hp hP hD hS => ?_)
      refine W.eq (g2 := F0 m 47 ls []) rfl ?_
      have hP : va_P G.1 vwCl (wM q G.2 (upd (upd (upd (upd (upd mI0 10 0) 1 0) 5 0) 6 0) 2 0) mJ0 mA0 mB0) H := hP
      have hD : va_D A (wM q G.2 (upd (upd (upd (upd (upd mI0 10 0) 1 0) 5 0) 6 0) 2 0) mJ0 mA0 mB0) := hD
      refine lv_aload_n hx hb d15_78_47 rfl (lv_at hl 0 rfl) ?_
      refine lv_iconst (v := 0) hx hb d15_78_48 (by decide) ?_
      refine va_put (D := G.1) (ci := 13) (v := .int 0) (ty := .int) (C := r_13) (T := f_13) (N := 42) (ref := "PagedValuesModel") hx hb hts (fun w h => List.mem_cons_of_mem _ (ly_13 w h)) ft_13 ft_13_ok nm_13 hown hK hP hD hS 0 rfl rfl 1 (by decide) (hts _ (List.mem_cons_of_mem _ k1152)) (fun _ h9 => h9) rfl (by decide +kernel) rfl rfl (Nat.le_of_ble_eq_true rfl) d15_78_49 (fun H locs hP hD hS => ?_)
      have hP : va_P G.1 vwCl (wM q G.2 (upd (upd (upd (upd (upd (upd mI0 10 0) 1 0) 5 0) 6 0) 2 0) 0 0) mJ0 mA0 mB0) H := hP
      have hD : va_D A (wM q G.2 (upd (upd (upd (upd (upd (upd mI0 10 0) 1 0) 5 0) 6 0) 2 0) 0 0) mJ0 mA0 mB0) := hD
      refine lv_aload_n hx hb d15_78_52 rfl (lv_at hl 0 rfl) ?_
      refine va_get (D := G.1) (ci := 13) (v := .int 0) (C := r_13) (T := f_13) (N := 42) (ref := "PagedValuesModel") hx hb hts (fun w h => List.mem_cons_of_mem _ (ly_13 w h)) hown hK hP 0 rfl rfl 3 (by decide) (hts _ (List.mem_cons_of_mem _ k1154)) (fun _ h9 => h9) rfl d15_78_53 ?_
      refine lv_if_lt (tgt := 67) hx hb d15_78_56 rfl (fun hc => absurd hc (by decide)) (fun _ => ?_)
      refine lv_bipush (v := (-100)) hx hb d15_78_59 (by decide) ?_
      refine lv_aload_n hx hb d15_78_61 rfl (lv_at hl 0 rfl) ?_
      refine va_get (D := G.1) (ci := 13) (v := .int 0) (C := r_13) (T := f_13) (N := 42) (ref := "PagedValuesModel") hx hb hts (fun w h => List.mem_cons_of_mem _ (ly_13 w h)) hown hK hP 0 rfl rfl 3 (by decide) (hts _ (List.mem_cons_of_mem _ k1154)) (fun _ h9 => h9) rfl d15_78_62 ?_
      refine lv_isub hx hb d15_78_65 ?_
      refine W.eq (g2 := F0 m 66 ls [.int (-100)]) rfl ?_
      exact fin_i hx hb hr hlk hS () (if_pos (show (-1 : Int32).toInt = -1 ∧ id.toInt = -1 by have L9 := lits; have fc2 := c2; (first | replace fc2 := wt_0 fc2 | replace fc2 := wt_1 fc2 | replace fc2 := an_rd_0 fc2 | simp only [Int32.lt_iff_toInt_lt, Int32.le_iff_toInt_le, ← Int32.toInt_inj, ne_eq] at fc2 | skip); omega)).symm (fun k q h => by simp at h) ⟨fun i j x y h => by simp at h, fun k q h => by simp at h⟩ (Nat.le_of_ble_eq_true rfl) (Nat.le_of_ble_eq_true rfl) d15_78_66
    ·
      refine lv_aload_n hx hb d15_78_23 rfl (lv_at hl 0 rfl) ?_
      refine lv_aload_n hx hb d15_78_24 rfl (lv_at hl 0 rfl) ?_
      refine lv_iload_n hx hb d15_78_25 rfl (lv_at hl 1 rfl) ?_
      refine sV_i (As := [.int (-1)]) (rest := [.ref (q 0)]) ⟨hx, hb, hml, hown, hts⟩ (a15_77_44 l G Zd q  _) (kw_V (n := 1) hts k1546 k1543 k15 k1545 ks87 (by decide +kernel) ⟨Nat.le_of_ble_eq_true rfl, Nat.le_of_ble_eq_true rfl⟩) hP hD hK hS hA hZ (va_recv (ci := 13) (q0 := 0) hK hP rfl rfl) rfl hl.1 rfl (Nat.le_of_ble_eq_true rfl) d15_78_26 ⟨Nat.le_of_ble_eq_true rfl, Nat.le_of_ble_eq_true rfl⟩ (fun rr u H locs hp hP hD hS => ?_)
      obtain rfl := hp
      refine W.eq (g2 := F0 m 29 ls [.int (-1), .ref (q 0)]) rfl ?_
      have hP : va_P G.1 vwCl (wM q G.2 mI0 mJ0 mA0 mB0) H := hP
      have hD : va_D A (wM q G.2 mI0 mJ0 mA0 mB0) := hD
      refine lv_iload_n hx hb d15_78_29 rfl (lv_at hl 2 rfl) ?_
      refine sV_i (As := [.int (-1), .int id]) (rest := []) ⟨hx, hb, hml, hown, hts⟩ (a15_56_36 l G Zd q  id _) (kw_V (n := 2) hts k1400 k1397 k15 k1399 ks58 (by decide +kernel) ⟨Nat.le_of_ble_eq_true rfl, Nat.le_of_ble_eq_true rfl⟩) hP hD hK hS hA hZ (va_recv (ci := 13) (q0 := 0) hK hP rfl rfl) rfl hl.1 rfl (Nat.le_of_ble_eq_true rfl) d15_78_30 ⟨Nat.le_of_ble_eq_true rfl, Nat.le_of_ble_eq_true rfl⟩ (fun rr u H locs hp hP hD hS => ?_)
      obtain rfl := hp
      refine W.eq (g2 := F0 m 33 ls [.int (-1)]) rfl ?_
      have hP : va_P G.1 vwCl (wM q G.2 mI0 mJ0 mA0 mB0) H := hP
      have hD : va_D A (wM q G.2 mI0 mJ0 mA0 mB0) := hD
      refine lv_if_ge (tgt := 38) hx hb d15_78_33 rfl (fun hc => absurd hc (by decide)) (fun _ => ?_)
      refine lv_iconst (v := (-1)) hx hb d15_78_36 (by decide) ?_
      exact fin_i hx hb hr hlk hS () (if_neg (show ¬ ((-1 : Int32).toInt = -1 ∧ id.toInt = -1) by have L9 := lits; have fc2 := c2; (first | replace fc2 := wt_0 fc2 | replace fc2 := wt_1 fc2 | replace fc2 := an_rd_0 fc2 | simp only [Int32.lt_iff_toInt_lt, Int32.le_iff_toInt_le, ← Int32.toInt_inj, ne_eq] at fc2 | skip); omega)).symm (fun k q h => by simp at h) ⟨fun i j x y h => by simp at h, fun k q h => by simp at h⟩ (Nat.le_of_ble_eq_true rfl) (Nat.le_of_ble_eq_true rfl) d15_78_37
set_option maxHeartbeats 4000000 in
set_option maxRecDepth 100000 in
theorem tm_print (l : Launch) (G : Gk) (Zd q : Nat → Nat) (r id : Int32) (sz : Nat) : Met l y15_87 (Cond.code y15_87 prog_15_method_87_code 4 (some .int) :: TB) (rmD 2 0 0) (va_Pc [.ref (q 0), .int r, .int id] (pcW G Zd (wM q G.2 mI0 mJ0 mA0 mB0) sz)) (qI G (fun rr (_ : Unit) => rr = -1) (fun _ => []) (va_A (wM q G.2 mI0 mJ0 mA0 mB0) sz)) 0 0 (va_A (wM q G.2 mI0 mJ0 mA0 mB0) sz) := by
  refine go (Qc := qI G (fun rr (_ : Unit) => rr = -1) (fun _ => [])) "PagedValuesModel" rfl (by decide) (Nat.le_of_ble_eq_true rfl) ?_
  intro p e s m below meth c ls A hx hb hr hlk hml hown hts hin hl hP hD hK hS hA hZ
  have hl : lv_has ls 4 [(0, .ref (q 0)), (1, .int r), (2, .int id)] := hl
  refine lv_aload_n hx hb d15_87_0 rfl (lv_at hl 0 rfl) ?_
  refine va_get (D := G.1) (ci := 13) (v := .int 0) (C := r_13) (T := f_13) (N := 42) (ref := "PagedValuesModel") hx hb hts (fun w h => List.mem_cons_of_mem _ (ly_13 w h)) hown hK hP 0 rfl rfl 40 (by decide) (hts _ (List.mem_cons_of_mem _ k1191)) (fun _ h9 => h9) rfl d15_87_1 ?_
  refine lv_if_eq (tgt := 10) hx hb d15_87_4 rfl (fun _ => ?_) (fun hc => absurd hc (by decide))
  refine lv_aload_n hx hb d15_87_10 rfl (lv_at hl 0 rfl) ?_
  refine lv_iload_n hx hb d15_87_11 rfl (lv_at hl 1 rfl) ?_
  refine sV_i (As := [.int r]) (rest := []) ⟨hx, hb, hml, hown, hts⟩ (am_isReader l G Zd q r _) (kw_V (n := 1) hts k1542 k1539 k15 k1541 ks86 (by decide +kernel) ⟨Nat.le_of_ble_eq_true rfl, Nat.le_of_ble_eq_true rfl⟩) hP hD hK hS hA hZ (va_recv (ci := 13) (q0 := 0) hK hP rfl rfl) rfl hl.1 rfl (Nat.le_of_ble_eq_true rfl) d15_87_12 ⟨Nat.le_of_ble_eq_true rfl, Nat.le_of_ble_eq_true rfl⟩ (fun rr u H locs hp hP hD hS => ?_)
  obtain rfl := hp
  refine W.eq (g2 := F0 m 15 ls [.int (an_rd r)]) rfl ?_
  have hP : va_P G.1 vwCl (wM q G.2 mI0 mJ0 mA0 mB0) H := hP
  have hD : va_D A (wM q G.2 mI0 mJ0 mA0 mB0) := hD
  refine lv_if_eq (tgt := 31) hx hb d15_87_15 rfl (fun c1 => ?_) (fun c1 => ?_)
  ·
    refine lv_iconst (v := (-1)) hx hb d15_87_31 (by decide) ?_
    refine lv_istore_n (lv' := [(3, .int (-1)), (0, .ref (q 0)), (1, .int r), (2, .int id)]) hx hb d15_87_32 rfl hl (by decide) rfl (fun ls hl => ?_)
    refine lv_iload_n hx hb d15_87_33 rfl (lv_at hl 0 rfl) ?_
    refine lv_if_ge (tgt := 39) hx hb d15_87_34 rfl (fun hc => absurd hc (by decide)) (fun _ => ?_)
    refine lv_iconst (v := (-1)) hx hb d15_87_37 (by decide) ?_
    exact fin_i hx hb hr hlk hS () rfl (fun k q h => by simp at h) ⟨fun i j x y h => by simp at h, fun k q h => by simp at h⟩ (Nat.le_of_ble_eq_true rfl) (Nat.le_of_ble_eq_true rfl) d15_87_38
  ·
    obtain rfl := an_rd_1 c1
    refine lv_aload_n hx hb d15_87_18 rfl (lv_at hl 0 rfl) ?_
    refine lv_aload_n hx hb d15_87_19 rfl (lv_at hl 0 rfl) ?_
    refine lv_iload_n hx hb d15_87_20 rfl (lv_at hl 1 rfl) ?_
    refine sV_i (As := [.int (-1)]) (rest := [.ref (q 0)]) ⟨hx, hb, hml, hown, hts⟩ (a15_77_44 l G Zd q  _) (kw_V (n := 1) hts k1546 k1543 k15 k1545 ks87 (by decide +kernel) ⟨Nat.le_of_ble_eq_true rfl, Nat.le_of_ble_eq_true rfl⟩) hP hD hK hS hA hZ (va_recv (ci := 13) (q0 := 0) hK hP rfl rfl) rfl hl.1 rfl (Nat.le_of_ble_eq_true rfl) d15_87_21 ⟨Nat.le_of_ble_eq_true rfl, Nat.le_of_ble_eq_true rfl⟩ (fun rr u H locs hp hP hD hS => ?_)
    obtain rfl := hp
    refine W.eq (g2 := F0 m 24 ls [.int (-1), .ref (q 0)]) rfl ?_
    have hP : va_P G.1 vwCl (wM q G.2 mI0 mJ0 mA0 mB0) H := hP
    have hD : va_D A (wM q G.2 mI0 mJ0 mA0 mB0) := hD
    refine lv_iload_n hx hb d15_87_24 rfl (lv_at hl 2 rfl) ?_
    refine sV_i (As := [.int (-1), .int id]) (rest := []) ⟨hx, hb, hml, hown, hts⟩ (a15_56_36 l G Zd q  id _) (kw_V (n := 2) hts k1400 k1397 k15 k1399 ks58 (by decide +kernel) ⟨Nat.le_of_ble_eq_true rfl, Nat.le_of_ble_eq_true rfl⟩) hP hD hK hS hA hZ (va_recv (ci := 13) (q0 := 0) hK hP rfl rfl) rfl hl.1 rfl (Nat.le_of_ble_eq_true rfl) d15_87_25 ⟨Nat.le_of_ble_eq_true rfl, Nat.le_of_ble_eq_true rfl⟩ (fun rr u H locs hp hP hD hS => ?_)
    obtain rfl := hp
    refine W.eq (g2 := F0 m 28 ls [.int (-1)]) rfl ?_
    have hP : va_P G.1 vwCl (wM q G.2 mI0 mJ0 mA0 mB0) H := hP
    have hD : va_D A (wM q G.2 mI0 mJ0 mA0 mB0) := hD
    refine lv_goto (tgt := 32) hx hb d15_87_28 rfl ?_
    refine lv_istore_n (lv' := [(3, .int (-1)), (0, .ref (q 0)), (1, .int (-1)), (2, .int id)]) hx hb d15_87_32 rfl hl (by decide) rfl (fun ls hl => ?_)
    refine lv_iload_n hx hb d15_87_33 rfl (lv_at hl 0 rfl) ?_
    refine lv_if_ge (tgt := 39) hx hb d15_87_34 rfl (fun hc => absurd hc (by decide)) (fun _ => ?_)
    refine lv_iconst (v := (-1)) hx hb d15_87_37 (by decide) ?_
    exact fin_i hx hb hr hlk hS () rfl (fun k q h => by simp at h) ⟨fun i j x y h => by simp at h, fun k q h => by simp at h⟩ (Nat.le_of_ble_eq_true rfl) (Nat.le_of_ble_eq_true rfl) d15_87_38
set_option maxHeartbeats 4000000 in
set_option maxRecDepth 100000 in
theorem tm_close (l : Launch) (G : Gk) (Zd q : Nat → Nat) (r : Int32) (sz : Nat) : Met l y15_90 (Cond.code y15_90 prog_15_method_90_code 2 (some .boolean) :: TB) (rmD 1 0 0) (va_Pc [.ref (q 0), .int r] (pcW G Zd (wM q G.2 mI0 mJ0 mA0 mB0) sz)) (qI G (fun rr (_ : Unit) => rr = 0) (fun _ => []) (va_A (wM q G.2 mI0 mJ0 mA0 mB0) sz)) 0 0 (va_A (wM q G.2 mI0 mJ0 mA0 mB0) sz) := by
  refine go (Qc := qI G (fun rr (_ : Unit) => rr = 0) (fun _ => [])) "PagedValuesModel" rfl (by decide) (Nat.le_of_ble_eq_true rfl) ?_
  intro p e s m below meth c ls A hx hb hr hlk hml hown hts hin hl hP hD hK hS hA hZ
  have hl : lv_has ls 2 [(0, .ref (q 0)), (1, .int r)] := hl
  refine lv_aload_n hx hb d15_90_0 rfl (lv_at hl 0 rfl) ?_
  refine va_get (D := G.1) (ci := 13) (v := .int 0) (C := r_13) (T := f_13) (N := 42) (ref := "PagedValuesModel") hx hb hts (fun w h => List.mem_cons_of_mem _ (ly_13 w h)) hown hK hP 0 rfl rfl 40 (by decide) (hts _ (List.mem_cons_of_mem _ k1191)) (fun _ h9 => h9) rfl d15_90_1 ?_
  refine lv_if_ne (tgt := 25) hx hb d15_90_4 rfl (fun hc => absurd hc (by decide)) (fun _ => ?_)
  refine lv_iload_n hx hb d15_90_7 rfl (lv_at hl 1 rfl) ?_
  refine lv_iconst (v := 0) hx hb d15_90_8 (by decide) ?_
  refine lv_iconst (v := 2) hx hb d15_90_9 (by decide) ?_
  refine sS_i (As := [.int r, .int 0, .int 2]) (rest := []) ⟨hx, hb, hml, hown, hts⟩ (am_within l G Zd q _ r 0 2 _) (kw_S (n := 3) hts k1289 k1287 k15 k1288 (by decide +kernel) ⟨Nat.le_of_ble_eq_true rfl, Nat.le_of_ble_eq_true rfl⟩) hP hD hK hS hA hZ rfl hl.1 rfl (Nat.le_of_ble_eq_true rfl) d15_90_10 ⟨Nat.le_of_ble_eq_true rfl, Nat.le_of_ble_eq_true rfl⟩ (fun rr u H locs hp hP hD hS => ?_)
  obtain rfl := hp
  refine W.eq (g2 := F0 m 13 ls [.int (wt r 0 2)]) rfl ?_
  have hP : va_P G.1 vwCl (wM q G.2 mI0 mJ0 mA0 mB0) H := hP
  have hD : va_D A (wM q G.2 mI0 mJ0 mA0 mB0) := hD
  refine lv_if_eq (tgt := 25) hx hb d15_90_13 rfl (fun c1 => ?_) (fun c1 => ?_)
  ·
    refine lv_iconst (v := 0) hx hb d15_90_25 (by decide) ?_
    exact fin_z hx hb hr hlk (by decide) hS () rfl (fun k q h => by simp at h) ⟨fun i j x y h => by simp at h, fun k q h => by simp at h⟩ (Nat.le_of_ble_eq_true rfl) (Nat.le_of_ble_eq_true rfl) d15_90_26
  ·
    refine lv_aload_n hx hb d15_90_16 rfl (lv_at hl 0 rfl) ?_
    refine va_get (D := G.1) (ci := 13) (v := .ref (q 24)) (C := r_13) (T := f_13) (N := 42) (ref := "PagedValuesModel") hx hb hts (fun w h => List.mem_cons_of_mem _ (ly_13 w h)) hown hK hP 0 rfl rfl 37 (by decide) (hts _ (List.mem_cons_of_mem _ k1188)) (fun _ h9 => h9) rfl d15_90_17 ?_
    refine lv_iload_n hx hb d15_90_20 rfl (lv_at hl 1 rfl) ?_
    refine va_zald (D := G.1) hx hb hK hP 24 3 rfl rfl (i := r) (wt_in (wt_1 c1) (by decide)) d15_90_21 ?_
    refine W.eq (g2 := F0 m 22 ls [.int 0]) rfl ?_
    refine lv_if_ne (tgt := 27) hx hb d15_90_22 rfl (fun hc => absurd hc (by decide)) (fun _ => ?_)
    refine lv_iconst (v := 0) hx hb d15_90_25 (by decide) ?_
    exact fin_z hx hb hr hlk (by decide) hS () rfl (fun k q h => by simp at h) ⟨fun i j x y h => by simp at h, fun k q h => by simp at h⟩ (Nat.le_of_ble_eq_true rfl) (Nat.le_of_ble_eq_true rfl) d15_90_26
set_option maxHeartbeats 4000000 in
set_option maxRecDepth 100000 in
theorem a15_56_45 (l : Launch) (G : Gk) (Zd q : Nat → Nat)  (sz : Nat) : Met l y15_56 (Cond.code y15_56 prog_15_method_56_code 4 (some .int) :: TB) (rmD 0 0 0) (va_Pc [.ref (q 0), .int (-1), .int 0] (pcW G Zd (wM q G.2 mI0 mJ0 mA0 mB0) sz)) (qI G (fun rr (_ : Unit) => rr = (-1)) (fun _ => (wM q G.2 mI0 mJ0 mA0 mB0)) (va_A (wM q G.2 mI0 mJ0 mA0 mB0) sz)) 0 0 (va_A (wM q G.2 mI0 mJ0 mA0 mB0) sz) := by
  refine go (Qc := qI G (fun rr (_ : Unit) => rr = (-1)) (fun _ => (wM q G.2 mI0 mJ0 mA0 mB0))) "PagedValuesModel" rfl (by decide) (Nat.le_of_ble_eq_true rfl) ?_
  intro p e s m below meth c ls A hx hb hr hlk hml hown hts hin hl hP hD hK hS hA hZ
  have hl : lv_has ls 4 [(0, .ref (q 0)), (1, .int (-1)), (2, .int 0)] := hl
  refine lv_iload_n hx hb d15_56_0 rfl (lv_at hl 1 rfl) ?_
  refine lv_if_lt (tgt := 14) hx hb d15_56_1 rfl (fun _ => ?_) (fun hc => absurd hc (by decide))
  refine lv_iconst (v := (-1)) hx hb d15_56_14 (by decide) ?_
  refine lv_goto (tgt := 30) hx hb d15_56_15 rfl ?_
  refine lv_istore_n (lv' := [(3, .int (-1)), (0, .ref (q 0)), (1, .int (-1)), (2, .int 0)]) hx hb d15_56_30 rfl hl (by decide) rfl (fun ls hl => ?_)
  refine lv_iload_n hx hb d15_56_31 rfl (lv_at hl 0 rfl) ?_
  refine lv_if_lt (tgt := 60) hx hb d15_56_32 rfl (fun _ => ?_) (fun hc => absurd hc (by decide))
  refine lv_iconst (v := (-1)) hx hb d15_56_60 (by decide) ?_
  exact fin_i hx hb hr hlk hS () rfl hP hD (Nat.le_of_ble_eq_true rfl) (Nat.le_of_ble_eq_true rfl) d15_56_61
set_option maxHeartbeats 4000000 in
set_option maxRecDepth 100000 in
theorem a15_56_46 (l : Launch) (G : Gk) (Zd q : Nat → Nat)  (sz : Nat) : Met l y15_56 (Cond.code y15_56 prog_15_method_56_code 4 (some .int) :: TB) (rmD 0 0 0) (va_Pc [.ref (q 0), .int (-1), .int 1] (pcW G Zd (wM q G.2 mI0 mJ0 mA0 mB0) sz)) (qI G (fun rr (_ : Unit) => rr = (-1)) (fun _ => (wM q G.2 mI0 mJ0 mA0 mB0)) (va_A (wM q G.2 mI0 mJ0 mA0 mB0) sz)) 0 0 (va_A (wM q G.2 mI0 mJ0 mA0 mB0) sz) := by
  refine go (Qc := qI G (fun rr (_ : Unit) => rr = (-1)) (fun _ => (wM q G.2 mI0 mJ0 mA0 mB0))) "PagedValuesModel" rfl (by decide) (Nat.le_of_ble_eq_true rfl) ?_
  intro p e s m below meth c ls A hx hb hr hlk hml hown hts hin hl hP hD hK hS hA hZ
  have hl : lv_has ls 4 [(0, .ref (q 0)), (1, .int (-1)), (2, .int 1)] := hl
  refine lv_iload_n hx hb d15_56_0 rfl (lv_at hl 1 rfl) ?_
  refine lv_if_lt (tgt := 14) hx hb d15_56_1 rfl (fun _ => ?_) (fun hc => absurd hc (by decide))
  refine lv_iconst (v := (-1)) hx hb d15_56_14 (by decide) ?_
  refine lv_goto (tgt := 30) hx hb d15_56_15 rfl ?_
  refine lv_istore_n (lv' := [(3, .int (-1)), (0, .ref (q 0)), (1, .int (-1)), (2, .int 1)]) hx hb d15_56_30 rfl hl (by decide) rfl (fun ls hl => ?_)
  refine lv_iload_n hx hb d15_56_31 rfl (lv_at hl 0 rfl) ?_
  refine lv_if_lt (tgt := 60) hx hb d15_56_32 rfl (fun _ => ?_) (fun hc => absurd hc (by decide))
  refine lv_iconst (v := (-1)) hx hb d15_56_60 (by decide) ?_
  exact fin_i hx hb hr hlk hS () rfl hP hD (Nat.le_of_ble_eq_true rfl) (Nat.le_of_ble_eq_true rfl) d15_56_61
set_option maxHeartbeats 4000000 in
set_option maxRecDepth 100000 in
theorem a15_56_47 (l : Launch) (G : Gk) (Zd q : Nat → Nat)  (sz : Nat) : Met l y15_56 (Cond.code y15_56 prog_15_method_56_code 4 (some .int) :: TB) (rmD 0 0 0) (va_Pc [.ref (q 0), .int (-1), .int 2] (pcW G Zd (wM q G.2 mI0 mJ0 mA0 mB0) sz)) (qI G (fun rr (_ : Unit) => rr = (-1)) (fun _ => (wM q G.2 mI0 mJ0 mA0 mB0)) (va_A (wM q G.2 mI0 mJ0 mA0 mB0) sz)) 0 0 (va_A (wM q G.2 mI0 mJ0 mA0 mB0) sz) := by
  refine go (Qc := qI G (fun rr (_ : Unit) => rr = (-1)) (fun _ => (wM q G.2 mI0 mJ0 mA0 mB0))) "PagedValuesModel" rfl (by decide) (Nat.le_of_ble_eq_true rfl) ?_
  intro p e s m below meth c ls A hx hb hr hlk hml hown hts hin hl hP hD hK hS hA hZ
  have hl : lv_has ls 4 [(0, .ref (q 0)), (1, .int (-1)), (2, .int 2)] := hl
  refine lv_iload_n hx hb d15_56_0 rfl (lv_at hl 1 rfl) ?_
  refine lv_if_lt (tgt := 14) hx hb d15_56_1 rfl (fun _ => ?_) (fun hc => absurd hc (by decide))
  refine lv_iconst (v := (-1)) hx hb d15_56_14 (by decide) ?_
  refine lv_goto (tgt := 30) hx hb d15_56_15 rfl ?_
  refine lv_istore_n (lv' := [(3, .int (-1)), (0, .ref (q 0)), (1, .int (-1)), (2, .int 2)]) hx hb d15_56_30 rfl hl (by decide) rfl (fun ls hl => ?_)
  refine lv_iload_n hx hb d15_56_31 rfl (lv_at hl 0 rfl) ?_
  refine lv_if_lt (tgt := 60) hx hb d15_56_32 rfl (fun _ => ?_) (fun hc => absurd hc (by decide))
  refine lv_iconst (v := (-1)) hx hb d15_56_60 (by decide) ?_
  exact fin_i hx hb hr hlk hS () rfl hP hD (Nat.le_of_ble_eq_true rfl) (Nat.le_of_ble_eq_true rfl) d15_56_61
set_option maxHeartbeats 4000000 in
set_option maxRecDepth 100000 in
theorem a15_56_48 (l : Launch) (G : Gk) (Zd q : Nat → Nat)  (sz : Nat) : Met l y15_56 (Cond.code y15_56 prog_15_method_56_code 4 (some .int) :: TB) (rmD 0 0 0) (va_Pc [.ref (q 0), .int (-1), .int 3] (pcW G Zd (wM q G.2 mI0 mJ0 mA0 mB0) sz)) (qI G (fun rr (_ : Unit) => rr = (-1)) (fun _ => (wM q G.2 mI0 mJ0 mA0 mB0)) (va_A (wM q G.2 mI0 mJ0 mA0 mB0) sz)) 0 0 (va_A (wM q G.2 mI0 mJ0 mA0 mB0) sz) := by
  refine go (Qc := qI G (fun rr (_ : Unit) => rr = (-1)) (fun _ => (wM q G.2 mI0 mJ0 mA0 mB0))) "PagedValuesModel" rfl (by decide) (Nat.le_of_ble_eq_true rfl) ?_
  intro p e s m below meth c ls A hx hb hr hlk hml hown hts hin hl hP hD hK hS hA hZ
  have hl : lv_has ls 4 [(0, .ref (q 0)), (1, .int (-1)), (2, .int 3)] := hl
  refine lv_iload_n hx hb d15_56_0 rfl (lv_at hl 1 rfl) ?_
  refine lv_if_lt (tgt := 14) hx hb d15_56_1 rfl (fun _ => ?_) (fun hc => absurd hc (by decide))
  refine lv_iconst (v := (-1)) hx hb d15_56_14 (by decide) ?_
  refine lv_goto (tgt := 30) hx hb d15_56_15 rfl ?_
  refine lv_istore_n (lv' := [(3, .int (-1)), (0, .ref (q 0)), (1, .int (-1)), (2, .int 3)]) hx hb d15_56_30 rfl hl (by decide) rfl (fun ls hl => ?_)
  refine lv_iload_n hx hb d15_56_31 rfl (lv_at hl 0 rfl) ?_
  refine lv_if_lt (tgt := 60) hx hb d15_56_32 rfl (fun _ => ?_) (fun hc => absurd hc (by decide))
  refine lv_iconst (v := (-1)) hx hb d15_56_60 (by decide) ?_
  exact fin_i hx hb hr hlk hS () rfl hP hD (Nat.le_of_ble_eq_true rfl) (Nat.le_of_ble_eq_true rfl) d15_56_61
set_option maxHeartbeats 4000000 in
set_option maxRecDepth 100000 in
theorem a15_56_49 (l : Launch) (G : Gk) (Zd q : Nat → Nat)  (sz : Nat) : Met l y15_56 (Cond.code y15_56 prog_15_method_56_code 4 (some .int) :: TB) (rmD 0 0 0) (va_Pc [.ref (q 0), .int (-1), .int 4] (pcW G Zd (wM q G.2 mI0 mJ0 mA0 mB0) sz)) (qI G (fun rr (_ : Unit) => rr = (-1)) (fun _ => (wM q G.2 mI0 mJ0 mA0 mB0)) (va_A (wM q G.2 mI0 mJ0 mA0 mB0) sz)) 0 0 (va_A (wM q G.2 mI0 mJ0 mA0 mB0) sz) := by
  refine go (Qc := qI G (fun rr (_ : Unit) => rr = (-1)) (fun _ => (wM q G.2 mI0 mJ0 mA0 mB0))) "PagedValuesModel" rfl (by decide) (Nat.le_of_ble_eq_true rfl) ?_
  intro p e s m below meth c ls A hx hb hr hlk hml hown hts hin hl hP hD hK hS hA hZ
  have hl : lv_has ls 4 [(0, .ref (q 0)), (1, .int (-1)), (2, .int 4)] := hl
  refine lv_iload_n hx hb d15_56_0 rfl (lv_at hl 1 rfl) ?_
  refine lv_if_lt (tgt := 14) hx hb d15_56_1 rfl (fun _ => ?_) (fun hc => absurd hc (by decide))
  refine lv_iconst (v := (-1)) hx hb d15_56_14 (by decide) ?_
  refine lv_goto (tgt := 30) hx hb d15_56_15 rfl ?_
  refine lv_istore_n (lv' := [(3, .int (-1)), (0, .ref (q 0)), (1, .int (-1)), (2, .int 4)]) hx hb d15_56_30 rfl hl (by decide) rfl (fun ls hl => ?_)
  refine lv_iload_n hx hb d15_56_31 rfl (lv_at hl 0 rfl) ?_
  refine lv_if_lt (tgt := 60) hx hb d15_56_32 rfl (fun _ => ?_) (fun hc => absurd hc (by decide))
  refine lv_iconst (v := (-1)) hx hb d15_56_60 (by decide) ?_
  exact fin_i hx hb hr hlk hS () rfl hP hD (Nat.le_of_ble_eq_true rfl) (Nat.le_of_ble_eq_true rfl) d15_56_61
set_option maxHeartbeats 4000000 in
set_option maxRecDepth 100000 in
theorem a15_56_50 (l : Launch) (G : Gk) (Zd q : Nat → Nat)  (sz : Nat) : Met l y15_56 (Cond.code y15_56 prog_15_method_56_code 4 (some .int) :: TB) (rmD 0 0 0) (va_Pc [.ref (q 0), .int (-1), .int 5] (pcW G Zd (wM q G.2 mI0 mJ0 mA0 mB0) sz)) (qI G (fun rr (_ : Unit) => rr = (-1)) (fun _ => (wM q G.2 mI0 mJ0 mA0 mB0)) (va_A (wM q G.2 mI0 mJ0 mA0 mB0) sz)) 0 0 (va_A (wM q G.2 mI0 mJ0 mA0 mB0) sz) := by
  refine go (Qc := qI G (fun rr (_ : Unit) => rr = (-1)) (fun _ => (wM q G.2 mI0 mJ0 mA0 mB0))) "PagedValuesModel" rfl (by decide) (Nat.le_of_ble_eq_true rfl) ?_
  intro p e s m below meth c ls A hx hb hr hlk hml hown hts hin hl hP hD hK hS hA hZ
  have hl : lv_has ls 4 [(0, .ref (q 0)), (1, .int (-1)), (2, .int 5)] := hl
  refine lv_iload_n hx hb d15_56_0 rfl (lv_at hl 1 rfl) ?_
  refine lv_if_lt (tgt := 14) hx hb d15_56_1 rfl (fun _ => ?_) (fun hc => absurd hc (by decide))
  refine lv_iconst (v := (-1)) hx hb d15_56_14 (by decide) ?_
  refine lv_goto (tgt := 30) hx hb d15_56_15 rfl ?_
  refine lv_istore_n (lv' := [(3, .int (-1)), (0, .ref (q 0)), (1, .int (-1)), (2, .int 5)]) hx hb d15_56_30 rfl hl (by decide) rfl (fun ls hl => ?_)
  refine lv_iload_n hx hb d15_56_31 rfl (lv_at hl 0 rfl) ?_
  refine lv_if_lt (tgt := 60) hx hb d15_56_32 rfl (fun _ => ?_) (fun hc => absurd hc (by decide))
  refine lv_iconst (v := (-1)) hx hb d15_56_60 (by decide) ?_
  exact fin_i hx hb hr hlk hS () rfl hP hD (Nat.le_of_ble_eq_true rfl) (Nat.le_of_ble_eq_true rfl) d15_56_61
set_option maxHeartbeats 4000000 in
set_option maxRecDepth 100000 in
theorem a15_56_51 (l : Launch) (G : Gk) (Zd q : Nat → Nat)  (sz : Nat) : Met l y15_56 (Cond.code y15_56 prog_15_method_56_code 4 (some .int) :: TB) (rmD 0 0 0) (va_Pc [.ref (q 0), .int (-1), .int 6] (pcW G Zd (wM q G.2 mI0 mJ0 mA0 mB0) sz)) (qI G (fun rr (_ : Unit) => rr = (-1)) (fun _ => (wM q G.2 mI0 mJ0 mA0 mB0)) (va_A (wM q G.2 mI0 mJ0 mA0 mB0) sz)) 0 0 (va_A (wM q G.2 mI0 mJ0 mA0 mB0) sz) := by
  refine go (Qc := qI G (fun rr (_ : Unit) => rr = (-1)) (fun _ => (wM q G.2 mI0 mJ0 mA0 mB0))) "PagedValuesModel" rfl (by decide) (Nat.le_of_ble_eq_true rfl) ?_
  intro p e s m below meth c ls A hx hb hr hlk hml hown hts hin hl hP hD hK hS hA hZ
  have hl : lv_has ls 4 [(0, .ref (q 0)), (1, .int (-1)), (2, .int 6)] := hl
  refine lv_iload_n hx hb d15_56_0 rfl (lv_at hl 1 rfl) ?_
  refine lv_if_lt (tgt := 14) hx hb d15_56_1 rfl (fun _ => ?_) (fun hc => absurd hc (by decide))
  refine lv_iconst (v := (-1)) hx hb d15_56_14 (by decide) ?_
  refine lv_goto (tgt := 30) hx hb d15_56_15 rfl ?_
  refine lv_istore_n (lv' := [(3, .int (-1)), (0, .ref (q 0)), (1, .int (-1)), (2, .int 6)]) hx hb d15_56_30 rfl hl (by decide) rfl (fun ls hl => ?_)
  refine lv_iload_n hx hb d15_56_31 rfl (lv_at hl 0 rfl) ?_
  refine lv_if_lt (tgt := 60) hx hb d15_56_32 rfl (fun _ => ?_) (fun hc => absurd hc (by decide))
  refine lv_iconst (v := (-1)) hx hb d15_56_60 (by decide) ?_
  exact fin_i hx hb hr hlk hS () rfl hP hD (Nat.le_of_ble_eq_true rfl) (Nat.le_of_ble_eq_true rfl) d15_56_61
set_option maxHeartbeats 4000000 in
set_option maxRecDepth 100000 in
theorem a15_56_52 (l : Launch) (G : Gk) (Zd q : Nat → Nat)  (sz : Nat) : Met l y15_56 (Cond.code y15_56 prog_15_method_56_code 4 (some .int) :: TB) (rmD 0 0 0) (va_Pc [.ref (q 0), .int (-1), .int 7] (pcW G Zd (wM q G.2 mI0 mJ0 mA0 mB0) sz)) (qI G (fun rr (_ : Unit) => rr = (-1)) (fun _ => (wM q G.2 mI0 mJ0 mA0 mB0)) (va_A (wM q G.2 mI0 mJ0 mA0 mB0) sz)) 0 0 (va_A (wM q G.2 mI0 mJ0 mA0 mB0) sz) := by
  refine go (Qc := qI G (fun rr (_ : Unit) => rr = (-1)) (fun _ => (wM q G.2 mI0 mJ0 mA0 mB0))) "PagedValuesModel" rfl (by decide) (Nat.le_of_ble_eq_true rfl) ?_
  intro p e s m below meth c ls A hx hb hr hlk hml hown hts hin hl hP hD hK hS hA hZ
  have hl : lv_has ls 4 [(0, .ref (q 0)), (1, .int (-1)), (2, .int 7)] := hl
  refine lv_iload_n hx hb d15_56_0 rfl (lv_at hl 1 rfl) ?_
  refine lv_if_lt (tgt := 14) hx hb d15_56_1 rfl (fun _ => ?_) (fun hc => absurd hc (by decide))
  refine lv_iconst (v := (-1)) hx hb d15_56_14 (by decide) ?_
  refine lv_goto (tgt := 30) hx hb d15_56_15 rfl ?_
  refine lv_istore_n (lv' := [(3, .int (-1)), (0, .ref (q 0)), (1, .int (-1)), (2, .int 7)]) hx hb d15_56_30 rfl hl (by decide) rfl (fun ls hl => ?_)
  refine lv_iload_n hx hb d15_56_31 rfl (lv_at hl 0 rfl) ?_
  refine lv_if_lt (tgt := 60) hx hb d15_56_32 rfl (fun _ => ?_) (fun hc => absurd hc (by decide))
  refine lv_iconst (v := (-1)) hx hb d15_56_60 (by decide) ?_
  exact fin_i hx hb hr hlk hS () rfl hP hD (Nat.le_of_ble_eq_true rfl) (Nat.le_of_ble_eq_true rfl) d15_56_61
set_option maxHeartbeats 4000000 in
set_option maxRecDepth 100000 in
theorem a15_57_53 (l : Launch) (G : Gk) (Zd q : Nat → Nat)  (sz : Nat) : Met l y15_57 (Cond.code y15_57 prog_15_method_57_code 4 (some .int) :: TB) (rmD 1 0 0) (va_Pc [.ref (q 0), .int (-1)] (pcW G Zd (wM q G.2 mI0 mJ0 mA0 mB0) sz)) (qI G (fun rr (_ : Unit) => rr = 0) (fun _ => (wM q G.2 mI0 mJ0 mA0 mB0)) (va_A (wM q G.2 mI0 mJ0 mA0 mB0) sz)) 0 0 (va_A (wM q G.2 mI0 mJ0 mA0 mB0) sz) := by
  refine go (Qc := qI G (fun rr (_ : Unit) => rr = 0) (fun _ => (wM q G.2 mI0 mJ0 mA0 mB0))) "PagedValuesModel" rfl (by decide) (Nat.le_of_ble_eq_true rfl) ?_
  intro p e s m below meth c ls A hx hb hr hlk hml hown hts hin hl hP hD hK hS hA hZ
  have hl : lv_has ls 4 [(0, .ref (q 0)), (1, .int (-1))] := hl
  refine lv_iconst (v := 0) hx hb d15_57_0 (by decide) ?_
  refine lv_istore_n (lv' := [(2, .int 0), (0, .ref (q 0)), (1, .int (-1))]) hx hb d15_57_1 rfl hl (by decide) rfl (fun ls hl => ?_)
  refine lv_iconst (v := 0) hx hb d15_57_2 (by decide) ?_
  refine lv_istore_n (lv' := [(3, .int 0), (2, .int 0), (0, .ref (q 0)), (1, .int (-1))]) hx hb d15_57_3 rfl hl (by decide) rfl (fun ls hl => ?_)
  refine lv_iload_n hx hb d15_57_4 rfl (lv_at hl 0 rfl) ?_
  refine lv_bipush (v := 8) hx hb d15_57_5 (by decide) ?_
  refine lv_icmp_ge (tgt := 33) hx hb d15_57_7 rfl (fun hc => absurd hc (by decide)) (fun _ => ?_)
  refine lv_aload_n hx hb d15_57_10 rfl (lv_at hl 2 rfl) ?_
  refine lv_iload_n hx hb d15_57_11 rfl (lv_at hl 3 rfl) ?_
  refine lv_iload_n hx hb d15_57_12 rfl (lv_at hl 0 rfl) ?_
  refine sV_i (As := [.int (-1), .int 0]) (rest := []) ⟨hx, hb, hml, hown, hts⟩ (a15_56_45 l G Zd q  _) (kw_V (n := 2) hts k1400 k1397 k15 k1399 ks58 (by decide +kernel) ⟨Nat.le_of_ble_eq_true rfl, Nat.le_of_ble_eq_true rfl⟩) hP hD hK hS hA hZ (va_recv (ci := 13) (q0 := 0) hK hP rfl rfl) rfl hl.1 rfl (Nat.le_of_ble_eq_true rfl) d15_57_13 ⟨Nat.le_of_ble_eq_true rfl, Nat.le_of_ble_eq_true rfl⟩ (fun rr u H locs hp hP hD hS => ?_)
  obtain rfl := hp
  refine W.eq (g2 := F0 m 16 ls [.int (-1)]) rfl ?_
  have hP : va_P G.1 vwCl (wM q G.2 mI0 mJ0 mA0 mB0) H := hP
  have hD : va_D A (wM q G.2 mI0 mJ0 mA0 mB0) := hD
  refine lv_if_lt (tgt := 25) hx hb d15_57_16 rfl (fun _ => ?_) (fun hc => absurd hc (by decide))
  refine lv_iload_n hx hb d15_57_25 rfl (lv_at hl 1 rfl) ?_
  refine lv_istore_n (lv' := [(2, .int 0), (3, .int 0), (0, .ref (q 0)), (1, .int (-1))]) hx hb d15_57_26 rfl hl (by decide) rfl (fun ls hl => ?_)
  refine lv_iinc (k := 1) (v := 1) (lv' := [(3, .int 1), (2, .int 0), (0, .ref (q 0)), (1, .int (-1))]) hx hb d15_57_27 hl rfl (by first | decide | rfl) (by decide) rfl (fun ls hl => ?_)
  refine lv_goto (tgt := 4) hx hb d15_57_30 rfl ?_
  refine lv_iload_n hx hb d15_57_4 rfl (lv_at hl 0 rfl) ?_
  refine lv_bipush (v := 8) hx hb d15_57_5 (by decide) ?_
  refine lv_icmp_ge (tgt := 33) hx hb d15_57_7 rfl (fun hc => absurd hc (by decide)) (fun _ => ?_)
  refine lv_aload_n hx hb d15_57_10 rfl (lv_at hl 2 rfl) ?_
  refine lv_iload_n hx hb d15_57_11 rfl (lv_at hl 3 rfl) ?_
  refine lv_iload_n hx hb d15_57_12 rfl (lv_at hl 0 rfl) ?_
  refine sV_i (As := [.int (-1), .int 1]) (rest := []) ⟨hx, hb, hml, hown, hts⟩ (a15_56_46 l G Zd q  _) (kw_V (n := 2) hts k1400 k1397 k15 k1399 ks58 (by decide +kernel) ⟨Nat.le_of_ble_eq_true rfl, Nat.le_of_ble_eq_true rfl⟩) hP hD hK hS hA hZ (va_recv (ci := 13) (q0 := 0) hK hP rfl rfl) rfl hl.1 rfl (Nat.le_of_ble_eq_true rfl) d15_57_13 ⟨Nat.le_of_ble_eq_true rfl, Nat.le_of_ble_eq_true rfl⟩ (fun rr u H locs hp hP hD hS => ?_)
  obtain rfl := hp
  refine W.eq (g2 := F0 m 16 ls [.int (-1)]) rfl ?_
  have hP : va_P G.1 vwCl (wM q G.2 mI0 mJ0 mA0 mB0) H := hP
  have hD : va_D A (wM q G.2 mI0 mJ0 mA0 mB0) := hD
  refine lv_if_lt (tgt := 25) hx hb d15_57_16 rfl (fun _ => ?_) (fun hc => absurd hc (by decide))
  refine lv_iload_n hx hb d15_57_25 rfl (lv_at hl 1 rfl) ?_
  refine lv_istore_n (lv' := [(2, .int 0), (3, .int 1), (0, .ref (q 0)), (1, .int (-1))]) hx hb d15_57_26 rfl hl (by decide) rfl (fun ls hl => ?_)
  refine lv_iinc (k := 1) (v := 2) (lv' := [(3, .int 2), (2, .int 0), (0, .ref (q 0)), (1, .int (-1))]) hx hb d15_57_27 hl rfl (by first | decide | rfl) (by decide) rfl (fun ls hl => ?_)
  refine lv_goto (tgt := 4) hx hb d15_57_30 rfl ?_
  refine lv_iload_n hx hb d15_57_4 rfl (lv_at hl 0 rfl) ?_
  refine lv_bipush (v := 8) hx hb d15_57_5 (by decide) ?_
  refine lv_icmp_ge (tgt := 33) hx hb d15_57_7 rfl (fun hc => absurd hc (by decide)) (fun _ => ?_)
  refine lv_aload_n hx hb d15_57_10 rfl (lv_at hl 2 rfl) ?_
  refine lv_iload_n hx hb d15_57_11 rfl (lv_at hl 3 rfl) ?_
  refine lv_iload_n hx hb d15_57_12 rfl (lv_at hl 0 rfl) ?_
  refine sV_i (As := [.int (-1), .int 2]) (rest := []) ⟨hx, hb, hml, hown, hts⟩ (a15_56_47 l G Zd q  _) (kw_V (n := 2) hts k1400 k1397 k15 k1399 ks58 (by decide +kernel) ⟨Nat.le_of_ble_eq_true rfl, Nat.le_of_ble_eq_true rfl⟩) hP hD hK hS hA hZ (va_recv (ci := 13) (q0 := 0) hK hP rfl rfl) rfl hl.1 rfl (Nat.le_of_ble_eq_true rfl) d15_57_13 ⟨Nat.le_of_ble_eq_true rfl, Nat.le_of_ble_eq_true rfl⟩ (fun rr u H locs hp hP hD hS => ?_)
  obtain rfl := hp
  refine W.eq (g2 := F0 m 16 ls [.int (-1)]) rfl ?_
  have hP : va_P G.1 vwCl (wM q G.2 mI0 mJ0 mA0 mB0) H := hP
  have hD : va_D A (wM q G.2 mI0 mJ0 mA0 mB0) := hD
  refine lv_if_lt (tgt := 25) hx hb d15_57_16 rfl (fun _ => ?_) (fun hc => absurd hc (by decide))
  refine lv_iload_n hx hb d15_57_25 rfl (lv_at hl 1 rfl) ?_
  refine lv_istore_n (lv' := [(2, .int 0), (3, .int 2), (0, .ref (q 0)), (1, .int (-1))]) hx hb d15_57_26 rfl hl (by decide) rfl (fun ls hl => ?_)
  refine lv_iinc (k := 1) (v := 3) (lv' := [(3, .int 3), (2, .int 0), (0, .ref (q 0)), (1, .int (-1))]) hx hb d15_57_27 hl rfl (by first | decide | rfl) (by decide) rfl (fun ls hl => ?_)
  refine lv_goto (tgt := 4) hx hb d15_57_30 rfl ?_
  refine lv_iload_n hx hb d15_57_4 rfl (lv_at hl 0 rfl) ?_
  refine lv_bipush (v := 8) hx hb d15_57_5 (by decide) ?_
  refine lv_icmp_ge (tgt := 33) hx hb d15_57_7 rfl (fun hc => absurd hc (by decide)) (fun _ => ?_)
  refine lv_aload_n hx hb d15_57_10 rfl (lv_at hl 2 rfl) ?_
  refine lv_iload_n hx hb d15_57_11 rfl (lv_at hl 3 rfl) ?_
  refine lv_iload_n hx hb d15_57_12 rfl (lv_at hl 0 rfl) ?_
  refine sV_i (As := [.int (-1), .int 3]) (rest := []) ⟨hx, hb, hml, hown, hts⟩ (a15_56_48 l G Zd q  _) (kw_V (n := 2) hts k1400 k1397 k15 k1399 ks58 (by decide +kernel) ⟨Nat.le_of_ble_eq_true rfl, Nat.le_of_ble_eq_true rfl⟩) hP hD hK hS hA hZ (va_recv (ci := 13) (q0 := 0) hK hP rfl rfl) rfl hl.1 rfl (Nat.le_of_ble_eq_true rfl) d15_57_13 ⟨Nat.le_of_ble_eq_true rfl, Nat.le_of_ble_eq_true rfl⟩ (fun rr u H locs hp hP hD hS => ?_)
  obtain rfl := hp
  refine W.eq (g2 := F0 m 16 ls [.int (-1)]) rfl ?_
  have hP : va_P G.1 vwCl (wM q G.2 mI0 mJ0 mA0 mB0) H := hP
  have hD : va_D A (wM q G.2 mI0 mJ0 mA0 mB0) := hD
  refine lv_if_lt (tgt := 25) hx hb d15_57_16 rfl (fun _ => ?_) (fun hc => absurd hc (by decide))
  refine lv_iload_n hx hb d15_57_25 rfl (lv_at hl 1 rfl) ?_
  refine lv_istore_n (lv' := [(2, .int 0), (3, .int 3), (0, .ref (q 0)), (1, .int (-1))]) hx hb d15_57_26 rfl hl (by decide) rfl (fun ls hl => ?_)
  refine lv_iinc (k := 1) (v := 4) (lv' := [(3, .int 4), (2, .int 0), (0, .ref (q 0)), (1, .int (-1))]) hx hb d15_57_27 hl rfl (by first | decide | rfl) (by decide) rfl (fun ls hl => ?_)
  refine lv_goto (tgt := 4) hx hb d15_57_30 rfl ?_
  refine lv_iload_n hx hb d15_57_4 rfl (lv_at hl 0 rfl) ?_
  refine lv_bipush (v := 8) hx hb d15_57_5 (by decide) ?_
  refine lv_icmp_ge (tgt := 33) hx hb d15_57_7 rfl (fun hc => absurd hc (by decide)) (fun _ => ?_)
  refine lv_aload_n hx hb d15_57_10 rfl (lv_at hl 2 rfl) ?_
  refine lv_iload_n hx hb d15_57_11 rfl (lv_at hl 3 rfl) ?_
  refine lv_iload_n hx hb d15_57_12 rfl (lv_at hl 0 rfl) ?_
  refine sV_i (As := [.int (-1), .int 4]) (rest := []) ⟨hx, hb, hml, hown, hts⟩ (a15_56_49 l G Zd q  _) (kw_V (n := 2) hts k1400 k1397 k15 k1399 ks58 (by decide +kernel) ⟨Nat.le_of_ble_eq_true rfl, Nat.le_of_ble_eq_true rfl⟩) hP hD hK hS hA hZ (va_recv (ci := 13) (q0 := 0) hK hP rfl rfl) rfl hl.1 rfl (Nat.le_of_ble_eq_true rfl) d15_57_13 ⟨Nat.le_of_ble_eq_true rfl, Nat.le_of_ble_eq_true rfl⟩ (fun rr u H locs hp hP hD hS => ?_)
  obtain rfl := hp
  refine W.eq (g2 := F0 m 16 ls [.int (-1)]) rfl ?_
  have hP : va_P G.1 vwCl (wM q G.2 mI0 mJ0 mA0 mB0) H := hP
  have hD : va_D A (wM q G.2 mI0 mJ0 mA0 mB0) := hD
  refine lv_if_lt (tgt := 25) hx hb d15_57_16 rfl (fun _ => ?_) (fun hc => absurd hc (by decide))
  refine lv_iload_n hx hb d15_57_25 rfl (lv_at hl 1 rfl) ?_
  refine lv_istore_n (lv' := [(2, .int 0), (3, .int 4), (0, .ref (q 0)), (1, .int (-1))]) hx hb d15_57_26 rfl hl (by decide) rfl (fun ls hl => ?_)
  refine lv_iinc (k := 1) (v := 5) (lv' := [(3, .int 5), (2, .int 0), (0, .ref (q 0)), (1, .int (-1))]) hx hb d15_57_27 hl rfl (by first | decide | rfl) (by decide) rfl (fun ls hl => ?_)
  refine lv_goto (tgt := 4) hx hb d15_57_30 rfl ?_
  refine lv_iload_n hx hb d15_57_4 rfl (lv_at hl 0 rfl) ?_
  refine lv_bipush (v := 8) hx hb d15_57_5 (by decide) ?_
  refine lv_icmp_ge (tgt := 33) hx hb d15_57_7 rfl (fun hc => absurd hc (by decide)) (fun _ => ?_)
  refine lv_aload_n hx hb d15_57_10 rfl (lv_at hl 2 rfl) ?_
  refine lv_iload_n hx hb d15_57_11 rfl (lv_at hl 3 rfl) ?_
  refine lv_iload_n hx hb d15_57_12 rfl (lv_at hl 0 rfl) ?_
  refine sV_i (As := [.int (-1), .int 5]) (rest := []) ⟨hx, hb, hml, hown, hts⟩ (a15_56_50 l G Zd q  _) (kw_V (n := 2) hts k1400 k1397 k15 k1399 ks58 (by decide +kernel) ⟨Nat.le_of_ble_eq_true rfl, Nat.le_of_ble_eq_true rfl⟩) hP hD hK hS hA hZ (va_recv (ci := 13) (q0 := 0) hK hP rfl rfl) rfl hl.1 rfl (Nat.le_of_ble_eq_true rfl) d15_57_13 ⟨Nat.le_of_ble_eq_true rfl, Nat.le_of_ble_eq_true rfl⟩ (fun rr u H locs hp hP hD hS => ?_)
  obtain rfl := hp
  refine W.eq (g2 := F0 m 16 ls [.int (-1)]) rfl ?_
  have hP : va_P G.1 vwCl (wM q G.2 mI0 mJ0 mA0 mB0) H := hP
  have hD : va_D A (wM q G.2 mI0 mJ0 mA0 mB0) := hD
  refine lv_if_lt (tgt := 25) hx hb d15_57_16 rfl (fun _ => ?_) (fun hc => absurd hc (by decide))
  refine lv_iload_n hx hb d15_57_25 rfl (lv_at hl 1 rfl) ?_
  refine lv_istore_n (lv' := [(2, .int 0), (3, .int 5), (0, .ref (q 0)), (1, .int (-1))]) hx hb d15_57_26 rfl hl (by decide) rfl (fun ls hl => ?_)
  refine lv_iinc (k := 1) (v := 6) (lv' := [(3, .int 6), (2, .int 0), (0, .ref (q 0)), (1, .int (-1))]) hx hb d15_57_27 hl rfl (by first | decide | rfl) (by decide) rfl (fun ls hl => ?_)
  refine lv_goto (tgt := 4) hx hb d15_57_30 rfl ?_
  refine lv_iload_n hx hb d15_57_4 rfl (lv_at hl 0 rfl) ?_
  refine lv_bipush (v := 8) hx hb d15_57_5 (by decide) ?_
  refine lv_icmp_ge (tgt := 33) hx hb d15_57_7 rfl (fun hc => absurd hc (by decide)) (fun _ => ?_)
  refine lv_aload_n hx hb d15_57_10 rfl (lv_at hl 2 rfl) ?_
  refine lv_iload_n hx hb d15_57_11 rfl (lv_at hl 3 rfl) ?_
  refine lv_iload_n hx hb d15_57_12 rfl (lv_at hl 0 rfl) ?_
  refine sV_i (As := [.int (-1), .int 6]) (rest := []) ⟨hx, hb, hml, hown, hts⟩ (a15_56_51 l G Zd q  _) (kw_V (n := 2) hts k1400 k1397 k15 k1399 ks58 (by decide +kernel) ⟨Nat.le_of_ble_eq_true rfl, Nat.le_of_ble_eq_true rfl⟩) hP hD hK hS hA hZ (va_recv (ci := 13) (q0 := 0) hK hP rfl rfl) rfl hl.1 rfl (Nat.le_of_ble_eq_true rfl) d15_57_13 ⟨Nat.le_of_ble_eq_true rfl, Nat.le_of_ble_eq_true rfl⟩ (fun rr u H locs hp hP hD hS => ?_)
  obtain rfl := hp
  refine W.eq (g2 := F0 m 16 ls [.int (-1)]) rfl ?_
  have hP : va_P G.1 vwCl (wM q G.2 mI0 mJ0 mA0 mB0) H := hP
  have hD : va_D A (wM q G.2 mI0 mJ0 mA0 mB0) := hD
  refine lv_if_lt (tgt := 25) hx hb d15_57_16 rfl (fun _ => ?_) (fun hc => absurd hc (by decide))
  refine lv_iload_n hx hb d15_57_25 rfl (lv_at hl 1 rfl) ?_
  refine lv_istore_n (lv' := [(2, .int 0), (3, .int 6), (0, .ref (q 0)), (1, .int (-1))]) hx hb d15_57_26 rfl hl (by decide) rfl (fun ls hl => ?_)
  refine lv_iinc (k := 1) (v := 7) (lv' := [(3, .int 7), (2, .int 0), (0, .ref (q 0)), (1, .int (-1))]) hx hb d15_57_27 hl rfl (by first | decide | rfl) (by decide) rfl (fun ls hl => ?_)
  refine lv_goto (tgt := 4) hx hb d15_57_30 rfl ?_
  refine lv_iload_n hx hb d15_57_4 rfl (lv_at hl 0 rfl) ?_
  refine lv_bipush (v := 8) hx hb d15_57_5 (by decide) ?_
  refine lv_icmp_ge (tgt := 33) hx hb d15_57_7 rfl (fun hc => absurd hc (by decide)) (fun _ => ?_)
  refine lv_aload_n hx hb d15_57_10 rfl (lv_at hl 2 rfl) ?_
  refine lv_iload_n hx hb d15_57_11 rfl (lv_at hl 3 rfl) ?_
  refine lv_iload_n hx hb d15_57_12 rfl (lv_at hl 0 rfl) ?_
  refine sV_i (As := [.int (-1), .int 7]) (rest := []) ⟨hx, hb, hml, hown, hts⟩ (a15_56_52 l G Zd q  _) (kw_V (n := 2) hts k1400 k1397 k15 k1399 ks58 (by decide +kernel) ⟨Nat.le_of_ble_eq_true rfl, Nat.le_of_ble_eq_true rfl⟩) hP hD hK hS hA hZ (va_recv (ci := 13) (q0 := 0) hK hP rfl rfl) rfl hl.1 rfl (Nat.le_of_ble_eq_true rfl) d15_57_13 ⟨Nat.le_of_ble_eq_true rfl, Nat.le_of_ble_eq_true rfl⟩ (fun rr u H locs hp hP hD hS => ?_)
  obtain rfl := hp
  refine W.eq (g2 := F0 m 16 ls [.int (-1)]) rfl ?_
  have hP : va_P G.1 vwCl (wM q G.2 mI0 mJ0 mA0 mB0) H := hP
  have hD : va_D A (wM q G.2 mI0 mJ0 mA0 mB0) := hD
  refine lv_if_lt (tgt := 25) hx hb d15_57_16 rfl (fun _ => ?_) (fun hc => absurd hc (by decide))
  refine lv_iload_n hx hb d15_57_25 rfl (lv_at hl 1 rfl) ?_
  refine lv_istore_n (lv' := [(2, .int 0), (3, .int 7), (0, .ref (q 0)), (1, .int (-1))]) hx hb d15_57_26 rfl hl (by decide) rfl (fun ls hl => ?_)
  refine lv_iinc (k := 1) (v := 8) (lv' := [(3, .int 8), (2, .int 0), (0, .ref (q 0)), (1, .int (-1))]) hx hb d15_57_27 hl rfl (by first | decide | rfl) (by decide) rfl (fun ls hl => ?_)
  refine lv_goto (tgt := 4) hx hb d15_57_30 rfl ?_
  refine lv_iload_n hx hb d15_57_4 rfl (lv_at hl 0 rfl) ?_
  refine lv_bipush (v := 8) hx hb d15_57_5 (by decide) ?_
  refine lv_icmp_ge (tgt := 33) hx hb d15_57_7 rfl (fun _ => ?_) (fun hc => absurd hc (by decide))
  refine lv_iload_n hx hb d15_57_33 rfl (lv_at hl 1 rfl) ?_
  exact fin_i hx hb hr hlk hS () rfl hP hD (Nat.le_of_ble_eq_true rfl) (Nat.le_of_ble_eq_true rfl) d15_57_34
set_option maxHeartbeats 4000000 in
set_option maxRecDepth 100000 in
theorem tm_size (l : Launch) (G : Gk) (Zd q : Nat → Nat) (n : Int32) (sz : Nat) : Met l y15_94 (Cond.code y15_94 prog_15_method_94_code 4 (some .int) :: TB) (rmD 2 0 0) (va_Pc [.ref (q 0), .int n] (pcW G Zd (wM q G.2 mI0 mJ0 mA0 mB0) sz)) (qI G (fun rr (_ : Unit) => rr = an_size n) (fun _ => []) (va_A (wM q G.2 mI0 mJ0 mA0 mB0) sz)) 0 0 (va_A (wM q G.2 mI0 mJ0 mA0 mB0) sz) := by
  refine go (Qc := qI G (fun rr (_ : Unit) => rr = an_size n) (fun _ => [])) "PagedValuesModel" rfl (by decide) (Nat.le_of_ble_eq_true rfl) ?_
  intro p e s m below meth c ls A hx hb hr hlk hml hown hts hin hl hP hD hK hS hA hZ
  have hl : lv_has ls 4 [(0, .ref (q 0)), (1, .int n)] := hl
  refine lv_iconst (v := 0) hx hb d15_94_0 (by decide) ?_
  refine lv_istore_n (lv' := [(2, .int 0), (0, .ref (q 0)), (1, .int n)]) hx hb d15_94_1 rfl hl (by decide) rfl (fun ls hl => ?_)
  refine lv_iconst (v := 0) hx hb d15_94_2 (by decide) ?_
  refine lv_istore_n (lv' := [(3, .int 0), (2, .int 0), (0, .ref (q 0)), (1, .int n)]) hx hb d15_94_3 rfl hl (by decide) rfl (fun ls hl => ?_)
  refine lv_iload_n hx hb d15_94_4 rfl (lv_at hl 0 rfl) ?_
  refine lv_iconst (v := 3) hx hb d15_94_5 (by decide) ?_
  refine lv_icmp_ge (tgt := 32) hx hb d15_94_6 rfl (fun hc => absurd hc (by decide)) (fun _ => ?_)
  refine lv_aload_n hx hb d15_94_9 rfl (lv_at hl 2 rfl) ?_
  refine va_get (D := G.1) (ci := 13) (v := .ref (q 24)) (C := r_13) (T := f_13) (N := 42) (ref := "PagedValuesModel") hx hb hts (fun w h => List.mem_cons_of_mem _ (ly_13 w h)) hown hK hP 0 rfl rfl 37 (by decide) (hts _ (List.mem_cons_of_mem _ k1188)) (fun _ h9 => h9) rfl d15_94_10 ?_
  refine lv_iload_n hx hb d15_94_13 rfl (lv_at hl 0 rfl) ?_
  refine va_zald (D := G.1) hx hb hK hP 24 3 rfl rfl (i := 0) (by unfold vp_in; decide) d15_94_14 ?_
  refine W.eq (g2 := F0 m 15 ls [.int 0]) rfl ?_
  refine lv_if_eq (tgt := 24) hx hb d15_94_15 rfl (fun _ => ?_) (fun hc => absurd hc (by decide))
  refine lv_iload_n hx hb d15_94_24 rfl (lv_at hl 1 rfl) ?_
  refine lv_istore_n (lv' := [(2, .int 0), (3, .int 0), (0, .ref (q 0)), (1, .int n)]) hx hb d15_94_25 rfl hl (by decide) rfl (fun ls hl => ?_)
  refine lv_iinc (k := 1) (v := 1) (lv' := [(3, .int 1), (2, .int 0), (0, .ref (q 0)), (1, .int n)]) hx hb d15_94_26 hl rfl (by first | decide | rfl) (by decide) rfl (fun ls hl => ?_)
  refine lv_goto (tgt := 4) hx hb d15_94_29 rfl ?_
  refine lv_iload_n hx hb d15_94_4 rfl (lv_at hl 0 rfl) ?_
  refine lv_iconst (v := 3) hx hb d15_94_5 (by decide) ?_
  refine lv_icmp_ge (tgt := 32) hx hb d15_94_6 rfl (fun hc => absurd hc (by decide)) (fun _ => ?_)
  refine lv_aload_n hx hb d15_94_9 rfl (lv_at hl 2 rfl) ?_
  refine va_get (D := G.1) (ci := 13) (v := .ref (q 24)) (C := r_13) (T := f_13) (N := 42) (ref := "PagedValuesModel") hx hb hts (fun w h => List.mem_cons_of_mem _ (ly_13 w h)) hown hK hP 0 rfl rfl 37 (by decide) (hts _ (List.mem_cons_of_mem _ k1188)) (fun _ h9 => h9) rfl d15_94_10 ?_
  refine lv_iload_n hx hb d15_94_13 rfl (lv_at hl 0 rfl) ?_
  refine va_zald (D := G.1) hx hb hK hP 24 3 rfl rfl (i := 1) (by unfold vp_in; decide) d15_94_14 ?_
  refine W.eq (g2 := F0 m 15 ls [.int 0]) rfl ?_
  refine lv_if_eq (tgt := 24) hx hb d15_94_15 rfl (fun _ => ?_) (fun hc => absurd hc (by decide))
  refine lv_iload_n hx hb d15_94_24 rfl (lv_at hl 1 rfl) ?_
  refine lv_istore_n (lv' := [(2, .int 0), (3, .int 1), (0, .ref (q 0)), (1, .int n)]) hx hb d15_94_25 rfl hl (by decide) rfl (fun ls hl => ?_)
  refine lv_iinc (k := 1) (v := 2) (lv' := [(3, .int 2), (2, .int 0), (0, .ref (q 0)), (1, .int n)]) hx hb d15_94_26 hl rfl (by first | decide | rfl) (by decide) rfl (fun ls hl => ?_)
  refine lv_goto (tgt := 4) hx hb d15_94_29 rfl ?_
  refine lv_iload_n hx hb d15_94_4 rfl (lv_at hl 0 rfl) ?_
  refine lv_iconst (v := 3) hx hb d15_94_5 (by decide) ?_
  refine lv_icmp_ge (tgt := 32) hx hb d15_94_6 rfl (fun hc => absurd hc (by decide)) (fun _ => ?_)
  refine lv_aload_n hx hb d15_94_9 rfl (lv_at hl 2 rfl) ?_
  refine va_get (D := G.1) (ci := 13) (v := .ref (q 24)) (C := r_13) (T := f_13) (N := 42) (ref := "PagedValuesModel") hx hb hts (fun w h => List.mem_cons_of_mem _ (ly_13 w h)) hown hK hP 0 rfl rfl 37 (by decide) (hts _ (List.mem_cons_of_mem _ k1188)) (fun _ h9 => h9) rfl d15_94_10 ?_
  refine lv_iload_n hx hb d15_94_13 rfl (lv_at hl 0 rfl) ?_
  refine va_zald (D := G.1) hx hb hK hP 24 3 rfl rfl (i := 2) (by unfold vp_in; decide) d15_94_14 ?_
  refine W.eq (g2 := F0 m 15 ls [.int 0]) rfl ?_
  refine lv_if_eq (tgt := 24) hx hb d15_94_15 rfl (fun _ => ?_) (fun hc => absurd hc (by decide))
  refine lv_iload_n hx hb d15_94_24 rfl (lv_at hl 1 rfl) ?_
  refine lv_istore_n (lv' := [(2, .int 0), (3, .int 2), (0, .ref (q 0)), (1, .int n)]) hx hb d15_94_25 rfl hl (by decide) rfl (fun ls hl => ?_)
  refine lv_iinc (k := 1) (v := 3) (lv' := [(3, .int 3), (2, .int 0), (0, .ref (q 0)), (1, .int n)]) hx hb d15_94_26 hl rfl (by first | decide | rfl) (by decide) rfl (fun ls hl => ?_)
  refine lv_goto (tgt := 4) hx hb d15_94_29 rfl ?_
  refine lv_iload_n hx hb d15_94_4 rfl (lv_at hl 0 rfl) ?_
  refine lv_iconst (v := 3) hx hb d15_94_5 (by decide) ?_
  refine lv_icmp_ge (tgt := 32) hx hb d15_94_6 rfl (fun _ => ?_) (fun hc => absurd hc (by decide))
  refine lv_iload_n hx hb d15_94_32 rfl (lv_at hl 3 rfl) ?_
  by_cases n1 : n = 0
  ·
    subst n1
    refine lv_tableIn (tgt := 76) (off := 43) hx hb d15_94_33 (by decide) (by decide) rfl rfl ?_
    refine lv_aload_n hx hb d15_94_76 rfl (lv_at hl 2 rfl) ?_
    refine va_get (D := G.1) (ci := 13) (v := .int 0) (C := r_13) (T := f_13) (N := 42) (ref := "PagedValuesModel") hx hb hts (fun w h => List.mem_cons_of_mem _ (ly_13 w h)) hown hK hP 0 rfl rfl 1 (by decide) (hts _ (List.mem_cons_of_mem _ k1152)) (fun _ h9 => h9) rfl d15_94_77 ?_
    exact fin_i hx hb hr hlk hS () (by decide) (fun k q h => by simp at h) ⟨fun i j x y h => by simp at h, fun k q h => by simp at h⟩ (Nat.le_of_ble_eq_true rfl) (Nat.le_of_ble_eq_true rfl) d15_94_80
  by_cases n2 : n = 1
  ·
    subst n2
    refine lv_tableIn (tgt := 81) (off := 48) hx hb d15_94_33 (by decide) (by decide) rfl rfl ?_
    refine lv_aload_n hx hb d15_94_81 rfl (lv_at hl 2 rfl) ?_
    refine lv_aload_n hx hb d15_94_82 rfl (lv_at hl 2 rfl) ?_
    refine va_get (D := G.1) (ci := 13) (v := .ref (q 22)) (C := r_13) (T := f_13) (N := 42) (ref := "PagedValuesModel") hx hb hts (fun w h => List.mem_cons_of_mem _ (ly_13 w h)) hown hK hP 0 rfl rfl 35 (by decide) (hts _ (List.mem_cons_of_mem _ k1186)) (fun _ h9 => h9) rfl d15_94_83 ?_
    refine lv_aload_n hx hb d15_94_86 rfl (lv_at hl 2 rfl) ?_
    refine sV_i (As := []) (rest := [.ref (q 22), .ref (q 0)]) ⟨hx, hb, hml, hown, hts⟩ (a15_52_35 l G Zd q  _) (kw_V (n := 0) hts k1396 k1393 k15 k1395 ks57 (by decide +kernel) ⟨Nat.le_of_ble_eq_true rfl, Nat.le_of_ble_eq_true rfl⟩) hP hD hK hS hA hZ (va_recv (ci := 13) (q0 := 0) hK hP rfl rfl) rfl hl.1 rfl (Nat.le_of_ble_eq_true rfl) d15_94_87 ⟨Nat.le_of_ble_eq_true rfl, Nat.le_of_ble_eq_true rfl⟩ (fun rr u H locs hp hP hD hS => ?_)
    obtain rfl := hp
    refine W.eq (g2 := F0 m 90 ls [.int 0, .ref (q 22), .ref (q 0)]) rfl ?_
    have hP : va_P G.1 vwCl (wM q G.2 mI0 mJ0 mA0 mB0) H := hP
    have hD : va_D A (wM q G.2 mI0 mJ0 mA0 mB0) := hD
    refine va_iald (D := G.1) hx hb hK hP 22 1 rfl rfl (i := 0) (by unfold vp_in; decide) d15_94_90 ?_
    refine W.eq (g2 := F0 m 91 ls [.int (-1), .ref (q 0)]) rfl ?_
    refine sV_i (As := [.int (-1)]) (rest := []) ⟨hx, hb, hml, hown, hts⟩ (a15_57_53 l G Zd q  _) (kw_V (n := 1) hts k1534 k1531 k15 k1533 ks85 (by decide +kernel) ⟨Nat.le_of_ble_eq_true rfl, Nat.le_of_ble_eq_true rfl⟩) hP hD hK hS hA hZ (va_recv (ci := 13) (q0 := 0) hK hP rfl rfl) rfl hl.1 rfl (Nat.le_of_ble_eq_true rfl) d15_94_91 ⟨Nat.le_of_ble_eq_true rfl, Nat.le_of_ble_eq_true rfl⟩ (fun rr u H locs hp hP hD hS => ?_)
    obtain rfl := hp
    refine W.eq (g2 := F0 m 94 ls [.int 0]) rfl ?_
    have hP : va_P G.1 vwCl (wM q G.2 mI0 mJ0 mA0 mB0) H := hP
    have hD : va_D A (wM q G.2 mI0 mJ0 mA0 mB0) := hD
    exact fin_i hx hb hr hlk hS () (by decide) (fun k q h => by simp at h) ⟨fun i j x y h => by simp at h, fun k q h => by simp at h⟩ (Nat.le_of_ble_eq_true rfl) (Nat.le_of_ble_eq_true rfl) d15_94_94
  by_cases n3 : n = 2
  ·
    subst n3
    refine lv_tableIn (tgt := 95) (off := 62) hx hb d15_94_33 (by decide) (by decide) rfl rfl ?_
    refine lv_iload_n hx hb d15_94_95 rfl (lv_at hl 1 rfl) ?_
    exact fin_i hx hb hr hlk hS () (by decide) (fun k q h => by simp at h) ⟨fun i j x y h => by simp at h, fun k q h => by simp at h⟩ (Nat.le_of_ble_eq_true rfl) (Nat.le_of_ble_eq_true rfl) d15_94_96
  by_cases n4 : n = 3
  ·
    subst n4
    refine lv_tableIn (tgt := 97) (off := 64) hx hb d15_94_33 (by decide) (by decide) rfl rfl ?_
    refine lv_aload_n hx hb d15_94_97 rfl (lv_at hl 2 rfl) ?_
    refine va_get (D := G.1) (ci := 13) (v := .int 0) (C := r_13) (T := f_13) (N := 42) (ref := "PagedValuesModel") hx hb hts (fun w h => List.mem_cons_of_mem _ (ly_13 w h)) hown hK hP 0 rfl rfl 41 (by decide) (hts _ (List.mem_cons_of_mem _ k1192)) (fun _ h9 => h9) rfl d15_94_98 ?_
    exact fin_i hx hb hr hlk hS () (by decide) (fun k q h => by simp at h) ⟨fun i j x y h => by simp at h, fun k q h => by simp at h⟩ (Nat.le_of_ble_eq_true rfl) (Nat.le_of_ble_eq_true rfl) d15_94_101
  by_cases n5 : n = 4
  ·
    subst n5
    refine lv_tableIn (tgt := 102) (off := 69) hx hb d15_94_33 (by decide) (by decide) rfl rfl ?_
    refine lv_aload_n hx hb d15_94_102 rfl (lv_at hl 2 rfl) ?_
    refine sV_i (As := []) (rest := []) ⟨hx, hb, hml, hown, hts⟩ (a15_52_35 l G Zd q  _) (kw_V (n := 0) hts k1396 k1393 k15 k1395 ks57 (by decide +kernel) ⟨Nat.le_of_ble_eq_true rfl, Nat.le_of_ble_eq_true rfl⟩) hP hD hK hS hA hZ (va_recv (ci := 13) (q0 := 0) hK hP rfl rfl) rfl hl.1 rfl (Nat.le_of_ble_eq_true rfl) d15_94_103 ⟨Nat.le_of_ble_eq_true rfl, Nat.le_of_ble_eq_true rfl⟩ (fun rr u H locs hp hP hD hS => ?_)
    obtain rfl := hp
    refine W.eq (g2 := F0 m 106 ls [.int 0]) rfl ?_
    have hP : va_P G.1 vwCl (wM q G.2 mI0 mJ0 mA0 mB0) H := hP
    have hD : va_D A (wM q G.2 mI0 mJ0 mA0 mB0) := hD
    exact fin_i hx hb hr hlk hS () (by decide) (fun k q h => by simp at h) ⟨fun i j x y h => by simp at h, fun k q h => by simp at h⟩ (Nat.le_of_ble_eq_true rfl) (Nat.le_of_ble_eq_true rfl) d15_94_106
  by_cases n6 : n = 5
  ·
    subst n6
    refine lv_tableIn (tgt := 107) (off := 74) hx hb d15_94_33 (by decide) (by decide) rfl rfl ?_
    refine lv_aload_n hx hb d15_94_107 rfl (lv_at hl 2 rfl) ?_
    refine va_get (D := G.1) (ci := 13) (v := .ref (q 23)) (C := r_13) (T := f_13) (N := 42) (ref := "PagedValuesModel") hx hb hts (fun w h => List.mem_cons_of_mem _ (ly_13 w h)) hown hK hP 0 rfl rfl 36 (by decide) (hts _ (List.mem_cons_of_mem _ k1187)) (fun _ h9 => h9) rfl d15_94_108 ?_
    refine lv_aload_n hx hb d15_94_111 rfl (lv_at hl 2 rfl) ?_
    refine sV_i (As := []) (rest := [.ref (q 23)]) ⟨hx, hb, hml, hown, hts⟩ (a15_52_35 l G Zd q  _) (kw_V (n := 0) hts k1396 k1393 k15 k1395 ks57 (by decide +kernel) ⟨Nat.le_of_ble_eq_true rfl, Nat.le_of_ble_eq_true rfl⟩) hP hD hK hS hA hZ (va_recv (ci := 13) (q0 := 0) hK hP rfl rfl) rfl hl.1 rfl (Nat.le_of_ble_eq_true rfl) d15_94_112 ⟨Nat.le_of_ble_eq_true rfl, Nat.le_of_ble_eq_true rfl⟩ (fun rr u H locs hp hP hD hS => ?_)
    obtain rfl := hp
    refine W.eq (g2 := F0 m 115 ls [.int 0, .ref (q 23)]) rfl ?_
    have hP : va_P G.1 vwCl (wM q G.2 mI0 mJ0 mA0 mB0) H := hP
    have hD : va_D A (wM q G.2 mI0 mJ0 mA0 mB0) := hD
    refine va_iald (D := G.1) hx hb hK hP 23 1 rfl rfl (i := 0) (by unfold vp_in; decide) d15_94_115 ?_
    refine W.eq (g2 := F0 m 116 ls [.int 0]) rfl ?_
    exact fin_i hx hb hr hlk hS () (by decide) (fun k q h => by simp at h) ⟨fun i j x y h => by simp at h, fun k q h => by simp at h⟩ (Nat.le_of_ble_eq_true rfl) (Nat.le_of_ble_eq_true rfl) d15_94_116
  by_cases n7 : n = 6
  ·
    subst n7
    refine lv_tableIn (tgt := 117) (off := 84) hx hb d15_94_33 (by decide) (by decide) rfl rfl ?_
    refine lv_aload_n hx hb d15_94_117 rfl (lv_at hl 2 rfl) ?_
    refine va_get (D := G.1) (ci := 13) (v := .int 0) (C := r_13) (T := f_13) (N := 42) (ref := "PagedValuesModel") hx hb hts (fun w h => List.mem_cons_of_mem _ (ly_13 w h)) hown hK hP 0 rfl rfl 40 (by decide) (hts _ (List.mem_cons_of_mem _ k1191)) (fun _ h9 => h9) rfl d15_94_118 ?_
    refine lv_if_eq (tgt := 128) hx hb d15_94_121 rfl (fun _ => ?_) (fun hc => absurd hc (by decide))
    refine lv_iconst (v := 0) hx hb d15_94_128 (by decide) ?_
    exact fin_i hx hb hr hlk hS () (by decide) (fun k q h => by simp at h) ⟨fun i j x y h => by simp at h, fun k q h => by simp at h⟩ (Nat.le_of_ble_eq_true rfl) (Nat.le_of_ble_eq_true rfl) d15_94_129
  refine lv_tableOut (tgt := 130) hx hb d15_94_33 (by have L9 := lits; have fn1 := n1; simp only [Int32.lt_iff_toInt_lt, Int32.le_iff_toInt_le, ← Int32.toInt_inj, ne_eq] at fn1; have fn2 := n2; simp only [Int32.lt_iff_toInt_lt, Int32.le_iff_toInt_le, ← Int32.toInt_inj, ne_eq] at fn2; have fn3 := n3; simp only [Int32.lt_iff_toInt_lt, Int32.le_iff_toInt_le, ← Int32.toInt_inj, ne_eq] at fn3; have fn4 := n4; simp only [Int32.lt_iff_toInt_lt, Int32.le_iff_toInt_le, ← Int32.toInt_inj, ne_eq] at fn4; have fn5 := n5; simp only [Int32.lt_iff_toInt_lt, Int32.le_iff_toInt_le, ← Int32.toInt_inj, ne_eq] at fn5; have fn6 := n6; simp only [Int32.lt_iff_toInt_lt, Int32.le_iff_toInt_le, ← Int32.toInt_inj, ne_eq] at fn6; have fn7 := n7; simp only [Int32.lt_iff_toInt_lt, Int32.le_iff_toInt_le, ← Int32.toInt_inj, ne_eq] at fn7; omega) rfl ?_
  refine lv_iconst (v := (-1)) hx hb d15_94_130 (by decide) ?_
  exact fin_i hx hb hr hlk hS () (if_neg (show ¬ (0 ≤ n.toInt ∧ n.toInt ≤ 6) by have L9 := lits; have fn1 := n1; (first | replace fn1 := wt_0 fn1 | replace fn1 := wt_1 fn1 | replace fn1 := an_rd_0 fn1 | simp only [Int32.lt_iff_toInt_lt, Int32.le_iff_toInt_le, ← Int32.toInt_inj, ne_eq] at fn1 | skip); have fn2 := n2; (first | replace fn2 := wt_0 fn2 | replace fn2 := wt_1 fn2 | replace fn2 := an_rd_0 fn2 | simp only [Int32.lt_iff_toInt_lt, Int32.le_iff_toInt_le, ← Int32.toInt_inj, ne_eq] at fn2 | skip); have fn3 := n3; (first | replace fn3 := wt_0 fn3 | replace fn3 := wt_1 fn3 | replace fn3 := an_rd_0 fn3 | simp only [Int32.lt_iff_toInt_lt, Int32.le_iff_toInt_le, ← Int32.toInt_inj, ne_eq] at fn3 | skip); have fn4 := n4; (first | replace fn4 := wt_0 fn4 | replace fn4 := wt_1 fn4 | replace fn4 := an_rd_0 fn4 | simp only [Int32.lt_iff_toInt_lt, Int32.le_iff_toInt_le, ← Int32.toInt_inj, ne_eq] at fn4 | skip); have fn5 := n5; (first | replace fn5 := wt_0 fn5 | replace fn5 := wt_1 fn5 | replace fn5 := an_rd_0 fn5 | simp only [Int32.lt_iff_toInt_lt, Int32.le_iff_toInt_le, ← Int32.toInt_inj, ne_eq] at fn5 | skip); have fn6 := n6; (first | replace fn6 := wt_0 fn6 | replace fn6 := wt_1 fn6 | replace fn6 := an_rd_0 fn6 | simp only [Int32.lt_iff_toInt_lt, Int32.le_iff_toInt_le, ← Int32.toInt_inj, ne_eq] at fn6 | skip); have fn7 := n7; (first | replace fn7 := wt_0 fn7 | replace fn7 := wt_1 fn7 | replace fn7 := an_rd_0 fn7 | simp only [Int32.lt_iff_toInt_lt, Int32.le_iff_toInt_le, ← Int32.toInt_inj, ne_eq] at fn7 | skip); omega)).symm (fun k q h => by simp at h) ⟨fun i j x y h => by simp at h, fun k q h => by simp at h⟩ (Nat.le_of_ble_eq_true rfl) (Nat.le_of_ble_eq_true rfl) d15_94_131
