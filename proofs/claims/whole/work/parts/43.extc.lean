theorem d11_20_7 : decode prog_11_method_20_code 7 = .ok (.iload_n 0, 1) := by decide +kernel
theorem d11_20_8 : decode prog_11_method_20_code 8 = .ok (.invokestatic 47, 3) := by decide +kernel
theorem d11_20_11 : decode prog_11_method_20_code 11 = .ok (.ifCond .eq 7, 3) := by decide +kernel
theorem d11_20_18 : decode prog_11_method_20_code 18 = .ok (.iconst 0, 1) := by decide +kernel
theorem d11_20_19 : decode prog_11_method_20_code 19 = .ok (.ireturn, 1) := by decide +kernel
def y11_20 : MethodName := { cls := "PagedValues$Text", name := "isNameCharacter", desc := "(I)Z" }
theorem k924 : (Jvm.Cond.code ({ cls := "PagedValues$Text", name := "isNameCharacter", desc := "(I)Z" } : Jvm.MethodName) prog_11_method_20_code (1 : Nat) (Option.some Jvm.ClassFile.FieldType.boolean)) ∈ TB := tk_4 204 rfl rfl
theorem k922 : (Jvm.Cond.methodLink "PagedValues$Text" (54 : Nat) ({ cls := "PagedValues$Text", name := "isNameCharacter", desc := "(I)Z" } : Jvm.MethodName)) ∈ TB := tk_4 202 rfl rfl
theorem k923 : (Jvm.Cond.static ({ cls := "PagedValues$Text", name := "isNameCharacter", desc := "(I)Z" } : Jvm.MethodName)) ∈ TB := tk_4 203 rfl rfl
theorem d11_14_23 : decode prog_11_method_14_code 23 = .ok (.ifCond .eq 32, 3) := by decide +kernel
theorem d11_14_26 : decode prog_11_method_14_code 26 = .ok (.aload_n 0, 1) := by decide +kernel
theorem d11_14_27 : decode prog_11_method_14_code 27 = .ok (.getfield 18, 3) := by decide +kernel
theorem d11_14_30 : decode prog_11_method_14_code 30 = .ok (.aload_n 0, 1) := by decide +kernel
theorem d11_14_31 : decode prog_11_method_14_code 31 = .ok (.invokevirtual 39, 3) := by decide +kernel
theorem d11_14_34 : decode prog_11_method_14_code 34 = .ok (.i2c, 1) := by decide +kernel
theorem d11_14_35 : decode prog_11_method_14_code 35 = .ok (.invokevirtual 57, 3) := by decide +kernel
theorem k545 : (Jvm.Cond.code ({ cls := "java/lang/StringBuilder", name := "append", desc := "(C)Ljava/lang/StringBuilder;" } : Jvm.MethodName) prog_22_method_14_code (2 : Nat) (Option.some (Jvm.ClassFile.FieldType.object "java/lang/StringBuilder"))) ∈ TB := tk_3 65 rfl rfl
theorem k542 : (Jvm.Cond.methodLink "PagedValues$Text" (57 : Nat) ({ cls := "java/lang/StringBuilder", name := "append", desc := "(C)Ljava/lang/StringBuilder;" } : Jvm.MethodName)) ∈ TB := tk_3 62 rfl rfl
theorem k543 : (Jvm.Cond.instanceMethod ({ cls := "java/lang/StringBuilder", name := "append", desc := "(C)Ljava/lang/StringBuilder;" } : Jvm.MethodName)) ∈ TB := tk_3 63 rfl rfl
theorem k544 : (Jvm.Cond.selects "java/lang/StringBuilder" ({ cls := "java/lang/StringBuilder", name := "append", desc := "(C)Ljava/lang/StringBuilder;" } : Jvm.MethodName) ({ cls := "java/lang/StringBuilder", name := "append", desc := "(C)Ljava/lang/StringBuilder;" } : Jvm.MethodName)) ∈ TB := tk_3 64 rfl rfl
theorem d11_14_38 : decode prog_11_method_14_code 38 = .ok (.pop, 1) := by decide +kernel
theorem d11_14_39 : decode prog_11_method_14_code 39 = .ok (.aload_n 0, 1) := by decide +kernel
theorem d11_14_40 : decode prog_11_method_14_code 40 = .ok (.dup, 1) := by decide +kernel
theorem d11_14_41 : decode prog_11_method_14_code 41 = .ok (.getfield 29, 3) := by decide +kernel
theorem d11_14_44 : decode prog_11_method_14_code 44 = .ok (.iconst 1, 1) := by decide +kernel
theorem d11_14_45 : decode prog_11_method_14_code 45 = .ok (.iadd, 1) := by decide +kernel
theorem d11_14_46 : decode prog_11_method_14_code 46 = .ok (.putfield 29, 3) := by decide +kernel
theorem d11_14_49 : decode prog_11_method_14_code 49 = .ok (.iinc 1 1, 3) := by decide +kernel
theorem d11_14_52 : decode prog_11_method_14_code 52 = .ok (.goto (-42), 3) := by decide +kernel
def y11_14 : MethodName := { cls := "PagedValues$Text", name := "plainName", desc := "()Ljava/lang/String;" }
def c_Text_isNameStart (Zd : Nat → Nat) (K : KE) (a0 : Int32) (st : CS) : Option (Int32) := (if a0 < (97 : Int32) then (if a0 < (65 : Int32) then (if a0 = (95 : Int32) then (some (1 : Int32)) else (some (0 : Int32))) else (if a0 ≤ (90 : Int32) then (some (1 : Int32)) else (if a0 = (95 : Int32) then (some (1 : Int32)) else (some (0 : Int32))))) else (if a0 ≤ (122 : Int32) then (some (1 : Int32)) else (if a0 < (65 : Int32) then (if a0 = (95 : Int32) then (some (1 : Int32)) else (some (0 : Int32))) else (if a0 ≤ (90 : Int32) then (some (1 : Int32)) else (if a0 = (95 : Int32) then (some (1 : Int32)) else (some (0 : Int32))))))).bind fun e11 => (bz e11).bind fun _ => some e11
set_option maxHeartbeats 4000000 in
set_option maxRecDepth 100000 in
theorem cc_Text_isNameStart (l : Launch) (G : Gk) (Zd : Nat → Nat) (K : KE) (a0 : Int32) (st : CS) (r0 : Int32) (hm : c_Text_isNameStart Zd K a0 st = some r0) : CT l y11_19 prog_11_method_19_code 1 (some .boolean) G Zd K (0) [.int a0] st (hI G Zd r0 st) := by
  refine goH (d := 0) (y := y11_19) (cc := prog_11_method_19_code) (maxL := 1) (ret := (some .boolean)) (av := [.int a0]) (Qc := hI G Zd r0 st) "PagedValues$Text" rfl (by decide) (c1_c rfl c1_n) (Nat.le_of_ble_eq_true rfl) ?_
  intro p e s m below meth c ls A args Q hQ hx hb hr hlk hml hown hts hin hl hE hw
  have hl : lw ls 1 [(0, .int a0)] := hl
  have hZ := hE.2.2.1
  have h := hm
  clear hm
  refine lv_iload_n hx hb d11_19_0 rfl (lv_at hl.1 0 rfl) ?_
  refine lv_bipush (v := 97) hx hb d11_19_1 (by decide) ?_
  obtain ⟨e11, hX, h⟩ := ob h
  have hj : ∀ (H : Heap) (locs : List Loc) (cells slots : Nat) (ls : Array Slot), lw ls 1 [(0, .int a0)] → wsH G Zd A s st H locs → W p l e (rmH Zd (0) st.1) s m args below meth c H locs cells slots Q (F0 m 35 ls [.int e11]) := by
    intro H locs cells slots ls hl hw
    obtain ⟨u9, hr9, h⟩ := ob h
    have hi := bz_some hr9
    clear hr9 u9
    cases h
    exact finH_z hQ hx hb hr hlk (nar01 hi) hE hw d11_19_35
  clear h
  refine lv_icmp_lt (tgt := 12) hx hb d11_19_3 rfl (fun c13 => ?_) (fun c13 => ?_)
  ·
    replace h := (if_pos c13).symm.trans hX
    refine lv_iload_n hx hb d11_19_12 rfl (lv_at hl.1 0 rfl) ?_
    refine lv_bipush (v := 65) hx hb d11_19_13 (by decide) ?_
    refine lv_icmp_lt (tgt := 24) hx hb d11_19_15 rfl (fun c14 => ?_) (fun c14 => ?_)
    ·
      replace h := (if_pos c14).symm.trans h
      refine lv_iload_n hx hb d11_19_24 rfl (lv_at hl.1 0 rfl) ?_
      refine lv_bipush (v := 95) hx hb d11_19_25 (by decide) ?_
      refine lv_icmp_ne (tgt := 34) hx hb d11_19_27 rfl (fun c15 => ?_) (fun c15 => ?_)
      ·
        replace h := (if_neg c15).symm.trans h
        refine lv_iconst (v := 0) hx hb d11_19_34 (by decide) ?_
        have e9 := Option.some.inj h
        subst e11
        have hl := lw_sub hl (l' := [(0, .int a0)]) [0] rfl
        exact hj _ _ _ _ _ hl hw
      ·
        replace h := (if_pos c15).symm.trans h
        refine lv_iconst (v := 1) hx hb d11_19_30 (by decide) ?_
        refine lv_goto (tgt := 35) hx hb d11_19_31 rfl ?_
        have e9 := Option.some.inj h
        subst e11
        have hl := lw_sub hl (l' := [(0, .int a0)]) [0] rfl
        exact hj _ _ _ _ _ hl hw
    ·
      replace h := (if_neg c14).symm.trans h
      refine lv_iload_n hx hb d11_19_18 rfl (lv_at hl.1 0 rfl) ?_
      refine lv_bipush (v := 90) hx hb d11_19_19 (by decide) ?_
      refine lv_icmp_le (tgt := 30) hx hb d11_19_21 rfl (fun c16 => ?_) (fun c16 => ?_)
      ·
        replace h := (if_pos c16).symm.trans h
        refine lv_iconst (v := 1) hx hb d11_19_30 (by decide) ?_
        refine lv_goto (tgt := 35) hx hb d11_19_31 rfl ?_
        have e9 := Option.some.inj h
        subst e11
        have hl := lw_sub hl (l' := [(0, .int a0)]) [0] rfl
        exact hj _ _ _ _ _ hl hw
      ·
        replace h := (if_neg c16).symm.trans h
        refine lv_iload_n hx hb d11_19_24 rfl (lv_at hl.1 0 rfl) ?_
        refine lv_bipush (v := 95) hx hb d11_19_25 (by decide) ?_
        refine lv_icmp_ne (tgt := 34) hx hb d11_19_27 rfl (fun c17 => ?_) (fun c17 => ?_)
        ·
          replace h := (if_neg c17).symm.trans h
          refine lv_iconst (v := 0) hx hb d11_19_34 (by decide) ?_
          have e9 := Option.some.inj h
          subst e11
          have hl := lw_sub hl (l' := [(0, .int a0)]) [0] rfl
          exact hj _ _ _ _ _ hl hw
        ·
          replace h := (if_pos c17).symm.trans h
          refine lv_iconst (v := 1) hx hb d11_19_30 (by decide) ?_
          refine lv_goto (tgt := 35) hx hb d11_19_31 rfl ?_
          have e9 := Option.some.inj h
          subst e11
          have hl := lw_sub hl (l' := [(0, .int a0)]) [0] rfl
          exact hj _ _ _ _ _ hl hw
  ·
    replace h := (if_neg c13).symm.trans hX
    refine lv_iload_n hx hb d11_19_6 rfl (lv_at hl.1 0 rfl) ?_
    refine lv_bipush (v := 122) hx hb d11_19_7 (by decide) ?_
    refine lv_icmp_le (tgt := 30) hx hb d11_19_9 rfl (fun c18 => ?_) (fun c18 => ?_)
    ·
      replace h := (if_pos c18).symm.trans h
      refine lv_iconst (v := 1) hx hb d11_19_30 (by decide) ?_
      refine lv_goto (tgt := 35) hx hb d11_19_31 rfl ?_
      have e9 := Option.some.inj h
      subst e11
      have hl := lw_sub hl (l' := [(0, .int a0)]) [0] rfl
      exact hj _ _ _ _ _ hl hw
    ·
      replace h := (if_neg c18).symm.trans h
      refine lv_iload_n hx hb d11_19_12 rfl (lv_at hl.1 0 rfl) ?_
      refine lv_bipush (v := 65) hx hb d11_19_13 (by decide) ?_
      refine lv_icmp_lt (tgt := 24) hx hb d11_19_15 rfl (fun c19 => ?_) (fun c19 => ?_)
      ·
        replace h := (if_pos c19).symm.trans h
        refine lv_iload_n hx hb d11_19_24 rfl (lv_at hl.1 0 rfl) ?_
        refine lv_bipush (v := 95) hx hb d11_19_25 (by decide) ?_
        refine lv_icmp_ne (tgt := 34) hx hb d11_19_27 rfl (fun c20 => ?_) (fun c20 => ?_)
        ·
          replace h := (if_neg c20).symm.trans h
          refine lv_iconst (v := 0) hx hb d11_19_34 (by decide) ?_
          have e9 := Option.some.inj h
          subst e11
          have hl := lw_sub hl (l' := [(0, .int a0)]) [0] rfl
          exact hj _ _ _ _ _ hl hw
        ·
          replace h := (if_pos c20).symm.trans h
          refine lv_iconst (v := 1) hx hb d11_19_30 (by decide) ?_
          refine lv_goto (tgt := 35) hx hb d11_19_31 rfl ?_
          have e9 := Option.some.inj h
          subst e11
          have hl := lw_sub hl (l' := [(0, .int a0)]) [0] rfl
          exact hj _ _ _ _ _ hl hw
      ·
        replace h := (if_neg c19).symm.trans h
        refine lv_iload_n hx hb d11_19_18 rfl (lv_at hl.1 0 rfl) ?_
        refine lv_bipush (v := 90) hx hb d11_19_19 (by decide) ?_
        refine lv_icmp_le (tgt := 30) hx hb d11_19_21 rfl (fun c21 => ?_) (fun c21 => ?_)
        ·
          replace h := (if_pos c21).symm.trans h
          refine lv_iconst (v := 1) hx hb d11_19_30 (by decide) ?_
          refine lv_goto (tgt := 35) hx hb d11_19_31 rfl ?_
          have e9 := Option.some.inj h
          subst e11
          have hl := lw_sub hl (l' := [(0, .int a0)]) [0] rfl
          exact hj _ _ _ _ _ hl hw
        ·
          replace h := (if_neg c21).symm.trans h
          refine lv_iload_n hx hb d11_19_24 rfl (lv_at hl.1 0 rfl) ?_
          refine lv_bipush (v := 95) hx hb d11_19_25 (by decide) ?_
          refine lv_icmp_ne (tgt := 34) hx hb d11_19_27 rfl (fun c22 => ?_) (fun c22 => ?_)
          ·
            replace h := (if_neg c22).symm.trans h
            refine lv_iconst (v := 0) hx hb d11_19_34 (by decide) ?_
            have e9 := Option.some.inj h
            subst e11
            have hl := lw_sub hl (l' := [(0, .int a0)]) [0] rfl
            exact hj _ _ _ _ _ hl hw
          ·
            replace h := (if_pos c22).symm.trans h
            refine lv_iconst (v := 1) hx hb d11_19_30 (by decide) ?_
            refine lv_goto (tgt := 35) hx hb d11_19_31 rfl ?_
            have e9 := Option.some.inj h
            subst e11
            have hl := lw_sub hl (l' := [(0, .int a0)]) [0] rfl
            exact hj _ _ _ _ _ hl hw
def c_Text_isNameCharacter (Zd : Nat → Nat) (K : KE) (a0 : Int32) (st : CS) : Option (Int32) := (c_Text_isNameStart Zd K a0 st).bind fun x11 => (if x11 = (0 : Int32) then ((c_Text_isDigit Zd K a0 st).bind fun x17 => if x17 = (0 : Int32) then (some (0 : Int32)) else (some (1 : Int32))) else (some (1 : Int32))).bind fun e14 => (bz e14).bind fun _ => some e14
set_option maxHeartbeats 4000000 in
set_option maxRecDepth 100000 in
theorem cc_Text_isNameCharacter (l : Launch) (G : Gk) (Zd : Nat → Nat) (K : KE) (a0 : Int32) (st : CS) (r0 : Int32) (hm : c_Text_isNameCharacter Zd K a0 st = some r0) : CT l y11_20 prog_11_method_20_code 1 (some .boolean) G Zd K (1) [.int a0] st (hI G Zd r0 st) := by
  refine goH (d := 1) (y := y11_20) (cc := prog_11_method_20_code) (maxL := 1) (ret := (some .boolean)) (av := [.int a0]) (Qc := hI G Zd r0 st) "PagedValues$Text" rfl (by decide) (c1_c rfl c1_n) (Nat.le_of_ble_eq_true rfl) ?_
  intro p e s m below meth c ls A args Q hQ hx hb hr hlk hml hown hts hin hl hE hw
  have hl : lw ls 1 [(0, .int a0)] := hl
  have hZ := hE.2.2.1
  have h := hm
  clear hm
  refine lv_iload_n hx hb d11_20_0 rfl (lv_at hl.1 0 rfl) ?_
  obtain ⟨x11, hc, h⟩ := ob h
  refine hS_i (As := [.int a0]) (rest := []) ⟨hx, hb, hml, hown, hts⟩ (cc_Text_isNameStart l G Zd K a0 st x11 hc) (kw_S (n := 1) hts k912 k925 k2 k911 (by decide +kernel) ⟨Nat.le_of_ble_eq_true rfl, Nat.le_of_ble_eq_true rfl⟩) hE hw rfl hl.1.1 rfl (c1_8 c1_n (Nat.le_of_ble_eq_true rfl)) d11_20_1 (fun H locs cells slots hw => ?_)
  clear hc
  refine W.eq (g2 := F0 m 4 ls [.int x11]) rfl ?_
  obtain ⟨e14, hX, h⟩ := ob h
  have hj : ∀ (H : Heap) (locs : List Loc) (cells slots : Nat) (ls : Array Slot), lw ls 1 [(0, .int a0)] → wsH G Zd A s st H locs → W p l e (rmH Zd (1) st.1) s m args below meth c H locs cells slots Q (F0 m 19 ls [.int e14]) := by
    intro H locs cells slots ls hl hw
    obtain ⟨u9, hr9, h⟩ := ob h
    have hi := bz_some hr9
    clear hr9 u9
    cases h
    exact finH_z hQ hx hb hr hlk (nar01 hi) hE hw d11_20_19
  clear h
  refine lv_if_ne (tgt := 14) hx hb d11_20_4 rfl (fun c16 => ?_) (fun c16 => ?_)
  ·
    replace h := (if_neg c16).symm.trans hX
    refine lv_iconst (v := 1) hx hb d11_20_14 (by decide) ?_
    refine lv_goto (tgt := 19) hx hb d11_20_15 rfl ?_
    have e9 := Option.some.inj h
    subst e14
    have hl := lw_sub hl (l' := [(0, .int a0)]) [0] rfl
    exact hj _ _ _ _ _ hl hw
  ·
    replace h := (if_pos c16).symm.trans hX
    refine lv_iload_n hx hb d11_20_7 rfl (lv_at hl.1 0 rfl) ?_
    obtain ⟨x17, hc, h⟩ := ob h
    refine hS_i (As := [.int a0]) (rest := []) ⟨hx, hb, hml, hown, hts⟩ (cc_Text_isDigit l G Zd K a0 st x17 hc) (kw_S (n := 1) hts k664 k662 k2 k663 (by decide +kernel) ⟨Nat.le_of_ble_eq_true rfl, Nat.le_of_ble_eq_true rfl⟩) hE hw rfl hl.1.1 rfl (c1_8 c1_n (Nat.le_of_ble_eq_true rfl)) d11_20_8 (fun H locs cells slots hw => ?_)
    clear hc
    refine W.eq (g2 := F0 m 11 ls [.int x17]) rfl ?_
    refine lv_if_eq (tgt := 18) hx hb d11_20_11 rfl (fun c20 => ?_) (fun c20 => ?_)
    ·
      replace h := (if_pos c20).symm.trans h
      refine lv_iconst (v := 0) hx hb d11_20_18 (by decide) ?_
      have e9 := Option.some.inj h
      subst e14
      have hl := lw_sub hl (l' := [(0, .int a0)]) [0] rfl
      exact hj _ _ _ _ _ hl hw
    ·
      replace h := (if_neg c20).symm.trans h
      refine lv_iconst (v := 1) hx hb d11_20_14 (by decide) ?_
      refine lv_goto (tgt := 19) hx hb d11_20_15 rfl ?_
      have e9 := Option.some.inj h
      subst e14
      have hl := lw_sub hl (l' := [(0, .int a0)]) [0] rfl
      exact hj _ _ _ _ _ hl hw
def c_Text_plainName_l1 (Zd : Nat → Nat) (K : KE) (o : Nat) : Nat → (Int32 × CS) → Option (Int32 × CS)
  | 0, _ => none
  | n9 + 1, e9 => if (10 : Int32) ≤ e9.1 then (some (e9.1, e9.2)) else ((isO K e9.2 o 1).bind fun _ => (c_Text_ahead Zd K o e9.2).bind fun x27 => (c_Text_isNameCharacter Zd K x27 e9.2).bind fun x30 => if x30 = (0 : Int32) then (some (e9.1, e9.2)) else ((gQ K e9.2 o 1 1).bind fun x34 => (isO K e9.2 o 1).bind fun _ => (c_Text_ahead Zd K o e9.2).bind fun x35 => (some ((x35.toUInt32 % 65536).toInt32)).bind fun y38 => x34.bind fun a39z => (isO K e9.2 a39z 2).bind fun _ => (c_StringBuilder_append_C Zd K a39z y38 e9.2).bind fun r42 => (gI K r42.2 o 1 3).bind fun x43 => (some (x43 + (1 : Int32))).bind fun y44 => (sF r42.2 o 1 3 (.int y44)).bind fun st45 => (some (e9.1 + 1)).bind fun y46 => c_Text_plainName_l1 Zd K o n9 (y46, st45)))
theorem c_Text_plainName_l1_s (Zd : Nat → Nat) (K : KE) (o : Nat) (n9 : Nat) (e9 : Int32 × CS) : c_Text_plainName_l1 Zd K o (n9 + 1) e9 = (if (10 : Int32) ≤ e9.1 then (some (e9.1, e9.2)) else ((isO K e9.2 o 1).bind fun _ => (c_Text_ahead Zd K o e9.2).bind fun x27 => (c_Text_isNameCharacter Zd K x27 e9.2).bind fun x30 => if x30 = (0 : Int32) then (some (e9.1, e9.2)) else ((gQ K e9.2 o 1 1).bind fun x34 => (isO K e9.2 o 1).bind fun _ => (c_Text_ahead Zd K o e9.2).bind fun x35 => (some ((x35.toUInt32 % 65536).toInt32)).bind fun y38 => x34.bind fun a39z => (isO K e9.2 a39z 2).bind fun _ => (c_StringBuilder_append_C Zd K a39z y38 e9.2).bind fun r42 => (gI K r42.2 o 1 3).bind fun x43 => (some (x43 + (1 : Int32))).bind fun y44 => (sF r42.2 o 1 3 (.int y44)).bind fun st45 => (some (e9.1 + 1)).bind fun y46 => c_Text_plainName_l1 Zd K o n9 (y46, st45)))) := rfl
def c_Text_plainName (Zd : Nat → Nat) (K : KE) (o : Nat) (st : CS) : Option (Option Nat × CS) := (gQ K st o 1 1).bind fun x11 => x11.bind fun a12z => (isO K st a12z 2).bind fun _ => (c_StringBuilder_setLength Zd K a12z (0 : Int32) st).bind fun st14 => (c_Text_plainName_l1 Zd K o 4096 ((0 : Int32), st14)).bind fun e16 => (gQ K e16.2 o 1 1).bind fun x21 => x21.bind fun a22z => (isO K e16.2 a22z 2).bind fun _ => (c_StringBuilder_toString Zd K a22z e16.2).bind fun r25 => some (r25.1, r25.2)
set_option maxHeartbeats 4000000 in
set_option maxRecDepth 100000 in
theorem cc_Text_plainName (l : Launch) (G : Gk) (Zd : Nat → Nat) (K : KE) (o : Nat) (st : CS) (r0 : Option Nat) (st0 : CS) (hm : c_Text_plainName Zd K o st = some (r0, st0)) : CT l y11_14 prog_11_method_14_code 2 (some (.object "java/lang/String")) G Zd K (6) [.ref o] st (hQ G Zd r0 st0) := by
  refine goH (d := 6) (y := y11_14) (cc := prog_11_method_14_code) (maxL := 2) (ret := (some (.object "java/lang/String"))) (av := [.ref o]) (Qc := hQ G Zd r0 st0) "PagedValues$Text" rfl (by decide) (c1_c rfl c1_n) (Nat.le_of_ble_eq_true rfl) ?_
  intro p e s m below meth c ls A args Q hQ hx hb hr hlk hml hown hts hin hl hE hw
  have hl : lw ls 2 [(0, .ref o)] := hl
  have hZ := hE.2.2.1
  have h := hm
  clear hm
  refine lv_aload_n hx hb d11_14_0 rfl (lv_at hl.1 0 rfl) ?_
  obtain ⟨x11, hr, h⟩ := ob h
  refine xg_q (ci := 1) (C := r_1) (T := f_1) (N := 5) (ref := "PagedValues$Text") hx hb hts (fun w h => List.mem_cons_of_mem _ (ly_1 w h)) hown hE hw rfl 1 (by decide) (hts _ (List.mem_cons_of_mem _ k76)) (fun _ h9 => h9) hr d11_14_1 ?_
  clear hr
  refine lv_iconst (v := 0) hx hb d11_14_4 (by decide) ?_
  obtain ⟨a12z, hn12, h⟩ := ob h
  have hn12 : x11 = some a12z := hn12
  refine W.eq (g2 := F0 m 5 ls [.int 0, .ref a12z]) (by rw [hn12]; rfl) ?_
  obtain ⟨u9, ho, h⟩ := ob h
  obtain ⟨st14, hc, h⟩ := ob h
  refine hV_v (ci := 2) (As := [.int 0]) (rest := []) ⟨hx, hb, hml, hown, hts⟩ (cc_StringBuilder_setLength l G Zd K a12z (0 : Int32) st st14 hc) (kw_V (n := 1) hts k398 k395 k4 k396 k397 (by decide +kernel) ⟨Nat.le_of_ble_eq_true rfl, Nat.le_of_ble_eq_true rfl⟩) hE hw rfl rfl ho rfl hl.1.1 rfl (c1_8 c1_n (Nat.le_of_ble_eq_true rfl)) d11_14_5 (fun H locs cells slots hw => ?_)
  clear hc ho u9
  refine W.eq (g2 := F0 m 8 ls []) rfl ?_
  refine lv_iconst (v := 0) hx hb d11_14_8 (by decide) ?_
  refine xt_istore_n (x := 0) (lv' := [(1, .int 0), (0, .ref o)]) hx hb d11_14_9 rfl hl (by decide) rfl (fun ls hl => ?_)
  obtain ⟨e16, hX, hrest⟩ := ob h
  clear h
  have hj : ∀ (v19 : Int32) (v20 : CS), e16 = (v19, v20) → ∀ (H : Heap) (locs : List Loc) (cells slots : Nat) (ls : Array Slot), lw ls 2 [(0, .ref o), (1, .int v19)] → wsH G Zd A s v20 H locs → W p l e (rmH Zd (6) st.1) s m args below meth c H locs cells slots Q (F0 m 55 ls []) := by
    intro v19 v20 he H locs cells slots ls hl hw
    subst e16
    have h := hrest
    clear hrest
    refine lv_aload_n hx hb d11_14_55 rfl (lv_at hl.1 0 rfl) ?_
    obtain ⟨x21, hr, h⟩ := ob h
    refine xg_q (ci := 1) (C := r_1) (T := f_1) (N := 5) (ref := "PagedValues$Text") hx hb hts (fun w h => List.mem_cons_of_mem _ (ly_1 w h)) hown hE hw rfl 1 (by decide) (hts _ (List.mem_cons_of_mem _ k76)) (fun _ h9 => h9) hr d11_14_56 ?_
    clear hr
    obtain ⟨a22z, hn22, h⟩ := ob h
    have hn22 : x21 = some a22z := hn22
    refine W.eq (g2 := F0 m 59 ls [.ref a22z]) (by rw [hn22]; rfl) ?_
    obtain ⟨u9, ho, h⟩ := ob h
    obtain ⟨⟨x23, st24⟩, hc, h⟩ := ob h
    refine hV_q (ci := 2) (As := []) (rest := []) ⟨hx, hb, hml, hown, hts⟩ (cc_StringBuilder_toString l G Zd K a22z v20 x23 st24 hc) (kw_V (n := 0) hts k460 k457 k4 k458 k459 (by decide +kernel) ⟨Nat.le_of_ble_eq_true rfl, Nat.le_of_ble_eq_true rfl⟩) hE hw rfl rfl ho rfl hl.1.1 rfl (c1_8 c1_n (Nat.le_of_ble_eq_true rfl)) d11_14_59 (fun H locs cells slots hw => ?_)
    clear hc ho u9
    refine W.eq (g2 := F0 m 62 ls [va_rf x23]) rfl ?_
    cases h
    exact finH_q hQ hx hb hr hlk rfl (Or.inl ⟨_, rfl⟩) hE hw d11_14_62
  have hloop : ∀ (n9 : Nat) (v17 : Int32) (v18 : CS), c_Text_plainName_l1 Zd K o n9 (v17, v18) = some e16 → ∀ (H : Heap) (locs : List Loc) (cells slots : Nat) (ls : Array Slot), lw ls 2 [(0, .ref o), (1, .int v17)] → wsH G Zd A s v18 H locs → W p l e (rmH Zd (6) st.1) s m args below meth c H locs cells slots Q (F0 m 10 ls []) := by
    intro n9
    induction n9 with
    | zero =>
      intro v17 v18 h
      cases h
    | succ n9 ih =>
      intro v17 v18 h H locs cells slots ls hl hw
      replace h := (c_Text_plainName_l1_s Zd K o n9 (v17, v18)).symm.trans h
      refine lv_iload_n hx hb d11_14_10 rfl (lv_at hl.1 1 rfl) ?_
      refine lv_bipush (v := 10) hx hb d11_14_11 (by decide) ?_
      refine lv_icmp_ge (tgt := 55) hx hb d11_14_13 rfl (fun c26 => ?_) (fun c26 => ?_)
      ·
        replace h := (if_pos c26).symm.trans h
        have e9 := Option.some.inj h
        subst e16
        have hl := lw_sub hl (l' := [(0, .ref o), (1, .int v17)]) [0, 1] rfl
        exact hj _ _ rfl _ _ _ _ _ hl hw
      ·
        replace h := (if_neg c26).symm.trans h
        refine lv_aload_n hx hb d11_14_16 rfl (lv_at hl.1 0 rfl) ?_
        obtain ⟨u9, ho, h⟩ := ob h
        obtain ⟨x27, hc, h⟩ := ob h
        refine hV_i (ci := 1) (As := []) (rest := []) ⟨hx, hb, hml, hown, hts⟩ (cc_Text_ahead l G Zd K o v18 x27 hc) (kw_V (n := 0) hts k326 k323 k2 k324 k325 (by decide +kernel) ⟨Nat.le_of_ble_eq_true rfl, Nat.le_of_ble_eq_true rfl⟩) hE hw rfl rfl ho rfl hl.1.1 rfl (c1_8 c1_n (Nat.le_of_ble_eq_true rfl)) d11_14_17 (fun H locs cells slots hw => ?_)
        clear hc ho u9
        refine W.eq (g2 := F0 m 20 ls [.int x27]) rfl ?_
        obtain ⟨x30, hc, h⟩ := ob h
        refine hS_i (As := [.int x27]) (rest := []) ⟨hx, hb, hml, hown, hts⟩ (cc_Text_isNameCharacter l G Zd K x27 v18 x30 hc) (kw_S (n := 1) hts k924 k922 k2 k923 (by decide +kernel) ⟨Nat.le_of_ble_eq_true rfl, Nat.le_of_ble_eq_true rfl⟩) hE hw rfl hl.1.1 rfl (c1_8 c1_n (Nat.le_of_ble_eq_true rfl)) d11_14_20 (fun H locs cells slots hw => ?_)
        clear hc
        refine W.eq (g2 := F0 m 23 ls [.int x30]) rfl ?_
        refine lv_if_eq (tgt := 55) hx hb d11_14_23 rfl (fun c33 => ?_) (fun c33 => ?_)
        ·
          replace h := (if_pos c33).symm.trans h
          have e9 := Option.some.inj h
          subst e16
          have hl := lw_sub hl (l' := [(0, .ref o), (1, .int v17)]) [0, 1] rfl
          exact hj _ _ rfl _ _ _ _ _ hl hw
        ·
          replace h := (if_neg c33).symm.trans h
          refine lv_aload_n hx hb d11_14_26 rfl (lv_at hl.1 0 rfl) ?_
          obtain ⟨x34, hr, h⟩ := ob h
          refine xg_q (ci := 1) (C := r_1) (T := f_1) (N := 5) (ref := "PagedValues$Text") hx hb hts (fun w h => List.mem_cons_of_mem _ (ly_1 w h)) hown hE hw rfl 1 (by decide) (hts _ (List.mem_cons_of_mem _ k76)) (fun _ h9 => h9) hr d11_14_27 ?_
          clear hr
          refine lv_aload_n hx hb d11_14_30 rfl (lv_at hl.1 0 rfl) ?_
          obtain ⟨u9, ho, h⟩ := ob h
          obtain ⟨x35, hc, h⟩ := ob h
          refine hV_i (ci := 1) (As := []) (rest := [va_rf x34]) ⟨hx, hb, hml, hown, hts⟩ (cc_Text_ahead l G Zd K o v18 x35 hc) (kw_V (n := 0) hts k326 k323 k2 k324 k325 (by decide +kernel) ⟨Nat.le_of_ble_eq_true rfl, Nat.le_of_ble_eq_true rfl⟩) hE hw rfl rfl ho rfl hl.1.1 rfl (c1_8 (c1_c (rf_cat _) c1_n) (Nat.le_of_ble_eq_true rfl)) d11_14_31 (fun H locs cells slots hw => ?_)
          clear hc ho u9
          refine W.eq (g2 := F0 m 34 ls [.int x35, va_rf x34]) rfl ?_
          refine lv_i2c hx hb d11_14_34 rfl ?_
          obtain ⟨y38, hr, h⟩ := ob h
          refine lv_topi (fun y9 ey => ?_)
          have e9 := ey.trans (Option.some.inj hr)
          clear ey
          subst y9
          clear hr
          obtain ⟨a39z, hn39, h⟩ := ob h
          have hn39 : x34 = some a39z := hn39
          refine W.eq (g2 := F0 m 35 ls [.int y38, .ref a39z]) (by rw [hn39]; rfl) ?_
          obtain ⟨u9, ho, h⟩ := ob h
          obtain ⟨⟨x40, st41⟩, hc, h⟩ := ob h
          refine hV_q (ci := 2) (As := [.int y38]) (rest := []) ⟨hx, hb, hml, hown, hts⟩ (cc_StringBuilder_append_C l G Zd K a39z y38 v18 x40 st41 hc) (kw_V (n := 1) hts k545 k542 k4 k543 k544 (by decide +kernel) ⟨Nat.le_of_ble_eq_true rfl, Nat.le_of_ble_eq_true rfl⟩) hE hw rfl rfl ho rfl hl.1.1 rfl (c1_8 c1_n (Nat.le_of_ble_eq_true rfl)) d11_14_35 (fun H locs cells slots hw => ?_)
          clear hc ho u9
          refine W.eq (g2 := F0 m 38 ls [va_rf x40]) rfl ?_
          refine lv_pop hx hb d11_14_38 (rf_cat _) ?_
          refine lv_aload_n hx hb d11_14_39 rfl (lv_at hl.1 0 rfl) ?_
          refine lv_dup hx hb d11_14_40 rfl ?_
          obtain ⟨x43, hr, h⟩ := ob h
          refine xg_i (ci := 1) (C := r_1) (T := f_1) (N := 5) (ref := "PagedValues$Text") hx hb hts (fun w h => List.mem_cons_of_mem _ (ly_1 w h)) hown hE hw rfl 3 (by decide) (hts _ (List.mem_cons_of_mem _ k79)) (fun _ h9 => h9) hr d11_14_41 ?_
          clear hr
          refine lv_iconst (v := 1) hx hb d11_14_44 (by decide) ?_
          refine lv_iadd hx hb d11_14_45 ?_
          obtain ⟨y44, hr, h⟩ := ob h
          refine lv_topi (fun y9 ey => ?_)
          have e9 := ey.trans (Option.some.inj hr)
          clear ey
          subst y9
          clear hr
          obtain ⟨st45, hr, h⟩ := ob h
          refine xp (ci := 1) (ty := .int) (C := r_1) (T := f_1) (N := 5) (ref := "PagedValues$Text") hx hb hts (fun w h => List.mem_cons_of_mem _ (ly_1 w h)) ft_1 ft_1_ok nm_1 hown hE hw rfl 3 (by decide) (hts _ (List.mem_cons_of_mem _ k79)) (fun _ h9 => h9) rfl hr (by decide +kernel) rfl rfl d11_14_46 (fun H locs hw => ?_)
          clear hr
          obtain ⟨y46, hr, h⟩ := ob h
          refine xt_iinc (k := 1) (v := y46) (lv' := [(1, .int y46), (0, .ref o)]) hx hb d11_14_49 hl rfl hr (by decide) rfl (fun ls hl => ?_)
          clear hr
          refine lv_goto (tgt := 10) hx hb d11_14_52 rfl ?_
          have hl := lw_sub hl (l' := [(0, .ref o), (1, .int y46)]) [1, 0] rfl
          exact ih _ _ h _ _ _ _ _ hl hw
  have hl := lw_sub hl (l' := [(0, .ref o), (1, .int 0)]) [1, 0] rfl
  exact hloop _ _ _ hX _ _ _ _ _ hl hw
theorem d11_15_0 : decode prog_11_method_15_code 0 = .ok (.aload_n 0, 1) := by decide +kernel
theorem d11_15_1 : decode prog_11_method_15_code 1 = .ok (.getfield 18, 3) := by decide +kernel
theorem d11_15_4 : decode prog_11_method_15_code 4 = .ok (.iconst 0, 1) := by decide +kernel
theorem d11_15_5 : decode prog_11_method_15_code 5 = .ok (.invokevirtual 50, 3) := by decide +kernel
theorem d11_15_8 : decode prog_11_method_15_code 8 = .ok (.aload_n 0, 1) := by decide +kernel
theorem d11_15_9 : decode prog_11_method_15_code 9 = .ok (.iload_n 1, 1) := by decide +kernel
theorem d11_15_10 : decode prog_11_method_15_code 10 = .ok (.invokevirtual 65, 3) := by decide +kernel
theorem k380 : (Jvm.Cond.code ({ cls := "PagedValues$Text", name := "need", desc := "(C)Z" } : Jvm.MethodName) prog_11_method_11_code (3 : Nat) (Option.some Jvm.ClassFile.FieldType.boolean)) ∈ TB := tk_2 140 rfl rfl
theorem k455 : (Jvm.Cond.methodLink "PagedValues$Text" (65 : Nat) ({ cls := "PagedValues$Text", name := "need", desc := "(C)Z" } : Jvm.MethodName)) ∈ TB := tk_2 215 rfl rfl
theorem k378 : (Jvm.Cond.instanceMethod ({ cls := "PagedValues$Text", name := "need", desc := "(C)Z" } : Jvm.MethodName)) ∈ TB := tk_2 138 rfl rfl
theorem k379 : (Jvm.Cond.selects "PagedValues$Text" ({ cls := "PagedValues$Text", name := "need", desc := "(C)Z" } : Jvm.MethodName) ({ cls := "PagedValues$Text", name := "need", desc := "(C)Z" } : Jvm.MethodName)) ∈ TB := tk_2 139 rfl rfl
theorem d11_15_13 : decode prog_11_method_15_code 13 = .ok (.ifCond .ne 6, 3) := by decide +kernel
theorem d11_15_19 : decode prog_11_method_15_code 19 = .ok (.iconst 0, 1) := by decide +kernel
theorem d11_15_20 : decode prog_11_method_15_code 20 = .ok (.istore_n 3, 1) := by decide +kernel
theorem d11_15_67 : decode prog_11_method_15_code 67 = .ok (.aload_n 0, 1) := by decide +kernel
theorem d11_15_68 : decode prog_11_method_15_code 68 = .ok (.invokevirtual 36, 3) := by decide +kernel
theorem d11_15_71 : decode prog_11_method_15_code 71 = .ok (.ldc 68, 2) := by decide +kernel
theorem d11_15_73 : decode prog_11_method_15_code 73 = .ok (.areturn, 1) := by decide +kernel
theorem d11_15_21 : decode prog_11_method_15_code 21 = .ok (.iload_n 3, 1) := by decide +kernel
theorem d11_15_22 : decode prog_11_method_15_code 22 = .ok (.bipush 10, 2) := by decide +kernel
theorem d11_15_24 : decode prog_11_method_15_code 24 = .ok (.if_icmp .gt 43, 3) := by decide +kernel
theorem d11_15_27 : decode prog_11_method_15_code 27 = .ok (.aload_n 0, 1) := by decide +kernel
theorem d11_15_28 : decode prog_11_method_15_code 28 = .ok (.iload_n 1, 1) := by decide +kernel
theorem d11_15_29 : decode prog_11_method_15_code 29 = .ok (.invokevirtual 32, 3) := by decide +kernel
theorem d11_15_32 : decode prog_11_method_15_code 32 = .ok (.ifCond .eq 11, 3) := by decide +kernel
theorem d11_15_43 : decode prog_11_method_15_code 43 = .ok (.iload_n 3, 1) := by decide +kernel
theorem d11_15_44 : decode prog_11_method_15_code 44 = .ok (.bipush 10, 2) := by decide +kernel
theorem d11_15_46 : decode prog_11_method_15_code 46 = .ok (.if_icmp .eq 21, 3) := by decide +kernel
theorem d11_15_49 : decode prog_11_method_15_code 49 = .ok (.aload_n 0, 1) := by decide +kernel
theorem d11_15_50 : decode prog_11_method_15_code 50 = .ok (.iload_n 1, 1) := by decide +kernel
theorem d11_15_51 : decode prog_11_method_15_code 51 = .ok (.iload_n 2, 1) := by decide +kernel
theorem d11_15_52 : decode prog_11_method_15_code 52 = .ok (.invokevirtual 70, 3) := by decide +kernel
theorem d11_16_0 : decode prog_11_method_16_code 0 = .ok (.aload_n 0, 1) := by decide +kernel
theorem d11_16_1 : decode prog_11_method_16_code 1 = .ok (.invokevirtual 39, 3) := by decide +kernel
theorem d11_16_4 : decode prog_11_method_16_code 4 = .ok (.istore_n 3, 1) := by decide +kernel
theorem d11_16_5 : decode prog_11_method_16_code 5 = .ok (.iload_n 3, 1) := by decide +kernel
theorem d11_16_6 : decode prog_11_method_16_code 6 = .ok (.bipush 92, 2) := by decide +kernel
theorem d11_16_8 : decode prog_11_method_16_code 8 = .ok (.if_icmp .ne 37, 3) := by decide +kernel
theorem d11_16_45 : decode prog_11_method_16_code 45 = .ok (.iload_n 3, 1) := by decide +kernel
theorem d11_16_46 : decode prog_11_method_16_code 46 = .ok (.bipush 32, 2) := by decide +kernel
theorem d11_16_48 : decode prog_11_method_16_code 48 = .ok (.if_icmp .lt 10, 3) := by decide +kernel
theorem d11_16_58 : decode prog_11_method_16_code 58 = .ok (.iconst 0, 1) := by decide +kernel
theorem d11_16_59 : decode prog_11_method_16_code 59 = .ok (.ireturn, 1) := by decide +kernel
theorem d11_16_51 : decode prog_11_method_16_code 51 = .ok (.iload_n 3, 1) := by decide +kernel
theorem d11_16_52 : decode prog_11_method_16_code 52 = .ok (.sipush 255, 3) := by decide +kernel
theorem d11_16_55 : decode prog_11_method_16_code 55 = .ok (.if_icmp .le 5, 3) := by decide +kernel
theorem d11_16_60 : decode prog_11_method_16_code 60 = .ok (.aload_n 0, 1) := by decide +kernel
theorem d11_16_61 : decode prog_11_method_16_code 61 = .ok (.getfield 18, 3) := by decide +kernel
theorem d11_16_64 : decode prog_11_method_16_code 64 = .ok (.iload_n 3, 1) := by decide +kernel
theorem d11_16_65 : decode prog_11_method_16_code 65 = .ok (.i2c, 1) := by decide +kernel
theorem d11_16_66 : decode prog_11_method_16_code 66 = .ok (.invokevirtual 57, 3) := by decide +kernel
theorem d11_16_69 : decode prog_11_method_16_code 69 = .ok (.pop, 1) := by decide +kernel
theorem d11_16_70 : decode prog_11_method_16_code 70 = .ok (.aload_n 0, 1) := by decide +kernel
theorem d11_16_71 : decode prog_11_method_16_code 71 = .ok (.dup, 1) := by decide +kernel
theorem d11_16_72 : decode prog_11_method_16_code 72 = .ok (.getfield 29, 3) := by decide +kernel
theorem d11_16_75 : decode prog_11_method_16_code 75 = .ok (.iconst 1, 1) := by decide +kernel
theorem d11_16_76 : decode prog_11_method_16_code 76 = .ok (.iadd, 1) := by decide +kernel
theorem d11_16_77 : decode prog_11_method_16_code 77 = .ok (.putfield 29, 3) := by decide +kernel
theorem d11_16_80 : decode prog_11_method_16_code 80 = .ok (.iconst 1, 1) := by decide +kernel
theorem d11_16_81 : decode prog_11_method_16_code 81 = .ok (.ireturn, 1) := by decide +kernel
theorem d11_16_11 : decode prog_11_method_16_code 11 = .ok (.iload_n 2, 1) := by decide +kernel
theorem d11_16_12 : decode prog_11_method_16_code 12 = .ok (.ifCond .ne 5, 3) := by decide +kernel
theorem d11_16_17 : decode prog_11_method_16_code 17 = .ok (.aload_n 0, 1) := by decide +kernel
theorem d11_16_18 : decode prog_11_method_16_code 18 = .ok (.dup, 1) := by decide +kernel
theorem d11_16_19 : decode prog_11_method_16_code 19 = .ok (.getfield 29, 3) := by decide +kernel
theorem d11_16_22 : decode prog_11_method_16_code 22 = .ok (.iconst 1, 1) := by decide +kernel
theorem d11_16_23 : decode prog_11_method_16_code 23 = .ok (.iadd, 1) := by decide +kernel
theorem d11_16_24 : decode prog_11_method_16_code 24 = .ok (.putfield 29, 3) := by decide +kernel
theorem d11_16_27 : decode prog_11_method_16_code 27 = .ok (.aload_n 0, 1) := by decide +kernel
theorem d11_16_28 : decode prog_11_method_16_code 28 = .ok (.invokevirtual 39, 3) := by decide +kernel
theorem d11_16_31 : decode prog_11_method_16_code 31 = .ok (.istore_n 3, 1) := by decide +kernel
theorem d11_16_32 : decode prog_11_method_16_code 32 = .ok (.iload_n 3, 1) := by decide +kernel
theorem d11_16_33 : decode prog_11_method_16_code 33 = .ok (.iload_n 1, 1) := by decide +kernel
theorem d11_16_34 : decode prog_11_method_16_code 34 = .ok (.if_icmp .eq 11, 3) := by decide +kernel
theorem d11_16_37 : decode prog_11_method_16_code 37 = .ok (.iload_n 3, 1) := by decide +kernel
theorem d11_16_38 : decode prog_11_method_16_code 38 = .ok (.bipush 92, 2) := by decide +kernel
theorem d11_16_40 : decode prog_11_method_16_code 40 = .ok (.if_icmp .eq 5, 3) := by decide +kernel
theorem d11_16_43 : decode prog_11_method_16_code 43 = .ok (.iconst 0, 1) := by decide +kernel
theorem d11_16_44 : decode prog_11_method_16_code 44 = .ok (.ireturn, 1) := by decide +kernel
theorem d11_16_15 : decode prog_11_method_16_code 15 = .ok (.iconst 0, 1) := by decide +kernel
theorem d11_16_16 : decode prog_11_method_16_code 16 = .ok (.ireturn, 1) := by decide +kernel
def y11_16 : MethodName := { cls := "PagedValues$Text", name := "takeCharacter", desc := "(CZ)Z" }
theorem k541 : (Jvm.Cond.code ({ cls := "PagedValues$Text", name := "takeCharacter", desc := "(CZ)Z" } : Jvm.MethodName) prog_11_method_16_code (4 : Nat) (Option.some Jvm.ClassFile.FieldType.boolean)) ∈ TB := tk_3 61 rfl rfl
theorem k538 : (Jvm.Cond.methodLink "PagedValues$Text" (70 : Nat) ({ cls := "PagedValues$Text", name := "takeCharacter", desc := "(CZ)Z" } : Jvm.MethodName)) ∈ TB := tk_3 58 rfl rfl
theorem k540 : (Jvm.Cond.instanceMethod ({ cls := "PagedValues$Text", name := "takeCharacter", desc := "(CZ)Z" } : Jvm.MethodName)) ∈ TB := tk_3 60 rfl rfl
theorem ks3 : Cond.selects y11_16.cls y11_16 y11_16 ∈ TB := List.mem_filter.mpr ⟨List.mem_append_left _ (List.mem_of_getElem? (i := 3) (by decide +kernel)), rfl⟩
theorem d11_15_55 : decode prog_11_method_15_code 55 = .ok (.ifCond .ne 6, 3) := by decide +kernel
theorem d11_15_61 : decode prog_11_method_15_code 61 = .ok (.iinc 3 1, 3) := by decide +kernel
theorem d11_15_64 : decode prog_11_method_15_code 64 = .ok (.goto (-43), 3) := by decide +kernel
theorem d11_15_58 : decode prog_11_method_15_code 58 = .ok (.goto 9, 3) := by decide +kernel
theorem d11_15_35 : decode prog_11_method_15_code 35 = .ok (.aload_n 0, 1) := by decide +kernel
theorem d11_15_36 : decode prog_11_method_15_code 36 = .ok (.getfield 18, 3) := by decide +kernel
theorem d11_15_39 : decode prog_11_method_15_code 39 = .ok (.invokevirtual 61, 3) := by decide +kernel
theorem d11_15_42 : decode prog_11_method_15_code 42 = .ok (.areturn, 1) := by decide +kernel
theorem d11_15_16 : decode prog_11_method_15_code 16 = .ok (.ldc 68, 2) := by decide +kernel
theorem d11_15_18 : decode prog_11_method_15_code 18 = .ok (.areturn, 1) := by decide +kernel
def y11_15 : MethodName := { cls := "PagedValues$Text", name := "quoted", desc := "(CZ)Ljava/lang/String;" }
def c_Text_takeCharacter (Zd : Nat → Nat) (K : KE) (o : Nat) (a0 : Int32) (a1 : Int32) (st : CS) : Option (Int32 × CS) := (isO K st o 1).bind fun _ => (c_Text_ahead Zd K o st).bind fun x11 => if x11 = (92 : Int32) then (if a1 = (0 : Int32) then (some ((0 : Int32), st)) else ((gI K st o 1 3).bind fun x27 => (some (x27 + (1 : Int32))).bind fun y28 => (sF st o 1 3 (.int y28)).bind fun st29 => (isO K st29 o 1).bind fun _ => (c_Text_ahead Zd K o st29).bind fun x30 => if x30 = a0 then (if x30 < (32 : Int32) then (some ((0 : Int32), st29)) else (if x30 ≤ (255 : Int32) then ((gQ K st29 o 1 1).bind fun x36 => (some ((x30.toUInt32 % 65536).toInt32)).bind fun y37 => x36.bind fun a38z => (isO K st29 a38z 2).bind fun _ => (c_StringBuilder_append_C Zd K a38z y37 st29).bind fun r41 => (gI K r41.2 o 1 3).bind fun x42 => (some (x42 + (1 : Int32))).bind fun y43 => (sF r41.2 o 1 3 (.int y43)).bind fun st44 => some ((1 : Int32), st44)) else (some ((0 : Int32), st29)))) else (if x30 = (92 : Int32) then (if x30 < (32 : Int32) then (some ((0 : Int32), st29)) else (if x30 ≤ (255 : Int32) then ((gQ K st29 o 1 1).bind fun x48 => (some ((x30.toUInt32 % 65536).toInt32)).bind fun y49 => x48.bind fun a50z => (isO K st29 a50z 2).bind fun _ => (c_StringBuilder_append_C Zd K a50z y49 st29).bind fun r53 => (gI K r53.2 o 1 3).bind fun x54 => (some (x54 + (1 : Int32))).bind fun y55 => (sF r53.2 o 1 3 (.int y55)).bind fun st56 => some ((1 : Int32), st56)) else (some ((0 : Int32), st29)))) else (some ((0 : Int32), st29))))) else (if x11 < (32 : Int32) then (some ((0 : Int32), st)) else (if x11 ≤ (255 : Int32) then ((gQ K st o 1 1).bind fun x17 => (some ((x11.toUInt32 % 65536).toInt32)).bind fun y18 => x17.bind fun a19z => (isO K st a19z 2).bind fun _ => (c_StringBuilder_append_C Zd K a19z y18 st).bind fun r22 => (gI K r22.2 o 1 3).bind fun x23 => (some (x23 + (1 : Int32))).bind fun y24 => (sF r22.2 o 1 3 (.int y24)).bind fun st25 => some ((1 : Int32), st25)) else (some ((0 : Int32), st))))
set_option maxHeartbeats 4000000 in
set_option maxRecDepth 100000 in
theorem cc_Text_takeCharacter (l : Launch) (G : Gk) (Zd : Nat → Nat) (K : KE) (o : Nat) (a0 : Int32) (a1 : Int32) (st : CS) (r0 : Int32) (st0 : CS) (hm : c_Text_takeCharacter Zd K o a0 a1 st = some (r0, st0)) : CT l y11_16 prog_11_method_16_code 4 (some .boolean) G Zd K (6) [.ref o, .int a0, .int a1] st (hI G Zd r0 st0) := by
  refine goH (d := 6) (y := y11_16) (cc := prog_11_method_16_code) (maxL := 4) (ret := (some .boolean)) (av := [.ref o, .int a0, .int a1]) (Qc := hI G Zd r0 st0) "PagedValues$Text" rfl (by decide) (c1_c rfl (c1_c rfl (c1_c rfl c1_n))) (Nat.le_of_ble_eq_true rfl) ?_
  intro p e s m below meth c ls A args Q hQ hx hb hr hlk hml hown hts hin hl hE hw
  have hl : lw ls 4 [(0, .ref o), (1, .int a0), (2, .int a1)] := hl
  have hZ := hE.2.2.1
  have h := hm
  clear hm
  refine lv_aload_n hx hb d11_16_0 rfl (lv_at hl.1 0 rfl) ?_
  obtain ⟨u9, ho, h⟩ := ob h
  obtain ⟨x11, hc, h⟩ := ob h
  refine hV_i (ci := 1) (As := []) (rest := []) ⟨hx, hb, hml, hown, hts⟩ (cc_Text_ahead l G Zd K o st x11 hc) (kw_V (n := 0) hts k326 k323 k2 k324 k325 (by decide +kernel) ⟨Nat.le_of_ble_eq_true rfl, Nat.le_of_ble_eq_true rfl⟩) hE hw rfl rfl ho rfl hl.1.1 rfl (c1_8 c1_n (Nat.le_of_ble_eq_true rfl)) d11_16_1 (fun H locs cells slots hw => ?_)
  clear hc ho u9
  refine W.eq (g2 := F0 m 4 ls [.int x11]) rfl ?_
  refine xt_istore_n (x := x11) (lv' := [(3, .int x11), (0, .ref o), (1, .int a0), (2, .int a1)]) hx hb d11_16_4 rfl hl (by decide) rfl (fun ls hl => ?_)
  refine lv_iload_n hx hb d11_16_5 rfl (lv_at hl.1 0 rfl) ?_
  refine lv_bipush (v := 92) hx hb d11_16_6 (by decide) ?_
  refine lv_icmp_ne (tgt := 45) hx hb d11_16_8 rfl (fun c14 => ?_) (fun c14 => ?_)
  ·
    replace h := (if_neg c14).symm.trans h
    refine lv_iload_n hx hb d11_16_45 rfl (lv_at hl.1 0 rfl) ?_
    refine lv_bipush (v := 32) hx hb d11_16_46 (by decide) ?_
    refine lv_icmp_lt (tgt := 58) hx hb d11_16_48 rfl (fun c15 => ?_) (fun c15 => ?_)
    ·
      replace h := (if_pos c15).symm.trans h
      refine lv_iconst (v := 0) hx hb d11_16_58 (by decide) ?_
      cases h
      exact finH_z hQ hx hb hr hlk (by decide) hE hw d11_16_59
    ·
      replace h := (if_neg c15).symm.trans h
      refine lv_iload_n hx hb d11_16_51 rfl (lv_at hl.1 0 rfl) ?_
      refine lv_sipush (v := 255) hx hb d11_16_52 (by decide) ?_
      refine lv_icmp_le (tgt := 60) hx hb d11_16_55 rfl (fun c16 => ?_) (fun c16 => ?_)
      ·
        replace h := (if_pos c16).symm.trans h
        refine lv_aload_n hx hb d11_16_60 rfl (lv_at hl.1 1 rfl) ?_
        obtain ⟨x17, hr, h⟩ := ob h
        refine xg_q (ci := 1) (C := r_1) (T := f_1) (N := 5) (ref := "PagedValues$Text") hx hb hts (fun w h => List.mem_cons_of_mem _ (ly_1 w h)) hown hE hw rfl 1 (by decide) (hts _ (List.mem_cons_of_mem _ k76)) (fun _ h9 => h9) hr d11_16_61 ?_
        clear hr
        refine lv_iload_n hx hb d11_16_64 rfl (lv_at hl.1 0 rfl) ?_
        refine lv_i2c hx hb d11_16_65 rfl ?_
        obtain ⟨y18, hr, h⟩ := ob h
        refine lv_topi (fun y9 ey => ?_)
        have e9 := ey.trans (Option.some.inj hr)
        clear ey
        subst y9
        clear hr
        obtain ⟨a19z, hn19, h⟩ := ob h
        have hn19 : x17 = some a19z := hn19
        refine W.eq (g2 := F0 m 66 ls [.int y18, .ref a19z]) (by rw [hn19]; rfl) ?_
        obtain ⟨u9, ho, h⟩ := ob h
        obtain ⟨⟨x20, st21⟩, hc, h⟩ := ob h
        refine hV_q (ci := 2) (As := [.int y18]) (rest := []) ⟨hx, hb, hml, hown, hts⟩ (cc_StringBuilder_append_C l G Zd K a19z y18 st x20 st21 hc) (kw_V (n := 1) hts k545 k542 k4 k543 k544 (by decide +kernel) ⟨Nat.le_of_ble_eq_true rfl, Nat.le_of_ble_eq_true rfl⟩) hE hw rfl rfl ho rfl hl.1.1 rfl (c1_8 c1_n (Nat.le_of_ble_eq_true rfl)) d11_16_66 (fun H locs cells slots hw => ?_)
        clear hc ho u9
        refine W.eq (g2 := F0 m 69 ls [va_rf x20]) rfl ?_
        refine lv_pop hx hb d11_16_69 (rf_cat _) ?_
        refine lv_aload_n hx hb d11_16_70 rfl (lv_at hl.1 1 rfl) ?_
        refine lv_dup hx hb d11_16_71 rfl ?_
        obtain ⟨x23, hr, h⟩ := ob h
        refine xg_i (ci := 1) (C := r_1) (T := f_1) (N := 5) (ref := "PagedValues$Text") hx hb hts (fun w h => List.mem_cons_of_mem _ (ly_1 w h)) hown hE hw rfl 3 (by decide) (hts _ (List.mem_cons_of_mem _ k79)) (fun _ h9 => h9) hr d11_16_72 ?_
        clear hr
        refine lv_iconst (v := 1) hx hb d11_16_75 (by decide) ?_
        refine lv_iadd hx hb d11_16_76 ?_
        obtain ⟨y24, hr, h⟩ := ob h
        refine lv_topi (fun y9 ey => ?_)
        have e9 := ey.trans (Option.some.inj hr)
        clear ey
        subst y9
        clear hr
        obtain ⟨st25, hr, h⟩ := ob h
        refine xp (ci := 1) (ty := .int) (C := r_1) (T := f_1) (N := 5) (ref := "PagedValues$Text") hx hb hts (fun w h => List.mem_cons_of_mem _ (ly_1 w h)) ft_1 ft_1_ok nm_1 hown hE hw rfl 3 (by decide) (hts _ (List.mem_cons_of_mem _ k79)) (fun _ h9 => h9) rfl hr (by decide +kernel) rfl rfl d11_16_77 (fun H locs hw => ?_)
        clear hr
        refine lv_iconst (v := 1) hx hb d11_16_80 (by decide) ?_
        cases h
        exact finH_z hQ hx hb hr hlk (by decide) hE hw d11_16_81
      ·
        replace h := (if_neg c16).symm.trans h
        refine lv_iconst (v := 0) hx hb d11_16_58 (by decide) ?_
        cases h
        exact finH_z hQ hx hb hr hlk (by decide) hE hw d11_16_59
  ·
    replace h := (if_pos c14).symm.trans h
    refine lv_iload_n hx hb d11_16_11 rfl (lv_at hl.1 3 rfl) ?_
    refine lv_if_ne (tgt := 17) hx hb d11_16_12 rfl (fun c26 => ?_) (fun c26 => ?_)
    ·
      replace h := (if_neg c26).symm.trans h
      refine lv_aload_n hx hb d11_16_17 rfl (lv_at hl.1 1 rfl) ?_
      refine lv_dup hx hb d11_16_18 rfl ?_
      obtain ⟨x27, hr, h⟩ := ob h
      refine xg_i (ci := 1) (C := r_1) (T := f_1) (N := 5) (ref := "PagedValues$Text") hx hb hts (fun w h => List.mem_cons_of_mem _ (ly_1 w h)) hown hE hw rfl 3 (by decide) (hts _ (List.mem_cons_of_mem _ k79)) (fun _ h9 => h9) hr d11_16_19 ?_
      clear hr
      refine lv_iconst (v := 1) hx hb d11_16_22 (by decide) ?_
      refine lv_iadd hx hb d11_16_23 ?_
      obtain ⟨y28, hr, h⟩ := ob h
      refine lv_topi (fun y9 ey => ?_)
      have e9 := ey.trans (Option.some.inj hr)
      clear ey
      subst y9
      clear hr
      obtain ⟨st29, hr, h⟩ := ob h
      refine xp (ci := 1) (ty := .int) (C := r_1) (T := f_1) (N := 5) (ref := "PagedValues$Text") hx hb hts (fun w h => List.mem_cons_of_mem _ (ly_1 w h)) ft_1 ft_1_ok nm_1 hown hE hw rfl 3 (by decide) (hts _ (List.mem_cons_of_mem _ k79)) (fun _ h9 => h9) rfl hr (by decide +kernel) rfl rfl d11_16_24 (fun H locs hw => ?_)
      clear hr
      refine lv_aload_n hx hb d11_16_27 rfl (lv_at hl.1 1 rfl) ?_
      obtain ⟨u9, ho, h⟩ := ob h
      obtain ⟨x30, hc, h⟩ := ob h
      refine hV_i (ci := 1) (As := []) (rest := []) ⟨hx, hb, hml, hown, hts⟩ (cc_Text_ahead l G Zd K o st29 x30 hc) (kw_V (n := 0) hts k326 k323 k2 k324 k325 (by decide +kernel) ⟨Nat.le_of_ble_eq_true rfl, Nat.le_of_ble_eq_true rfl⟩) hE hw rfl rfl ho rfl hl.1.1 rfl (c1_8 c1_n (Nat.le_of_ble_eq_true rfl)) d11_16_28 (fun H locs cells slots hw => ?_)
      clear hc ho u9
      refine W.eq (g2 := F0 m 31 ls [.int x30]) rfl ?_
      refine xt_istore_n (x := x30) (lv' := [(3, .int x30), (0, .ref o), (1, .int a0), (2, .int a1)]) hx hb d11_16_31 rfl hl (by decide) rfl (fun ls hl => ?_)
      refine lv_iload_n hx hb d11_16_32 rfl (lv_at hl.1 0 rfl) ?_
      refine lv_iload_n hx hb d11_16_33 rfl (lv_at hl.1 2 rfl) ?_
      refine lv_icmp_eq (tgt := 45) hx hb d11_16_34 rfl (fun c33 => ?_) (fun c33 => ?_)
      ·
        replace h := (if_pos c33).symm.trans h
        refine lv_iload_n hx hb d11_16_45 rfl (lv_at hl.1 0 rfl) ?_
        refine lv_bipush (v := 32) hx hb d11_16_46 (by decide) ?_
        refine lv_icmp_lt (tgt := 58) hx hb d11_16_48 rfl (fun c34 => ?_) (fun c34 => ?_)
        ·
          replace h := (if_pos c34).symm.trans h
          refine lv_iconst (v := 0) hx hb d11_16_58 (by decide) ?_
          cases h
          exact finH_z hQ hx hb hr hlk (by decide) hE hw d11_16_59
        ·
          replace h := (if_neg c34).symm.trans h
          refine lv_iload_n hx hb d11_16_51 rfl (lv_at hl.1 0 rfl) ?_
          refine lv_sipush (v := 255) hx hb d11_16_52 (by decide) ?_
          refine lv_icmp_le (tgt := 60) hx hb d11_16_55 rfl (fun c35 => ?_) (fun c35 => ?_)
          ·
            replace h := (if_pos c35).symm.trans h
            refine lv_aload_n hx hb d11_16_60 rfl (lv_at hl.1 1 rfl) ?_
            obtain ⟨x36, hr, h⟩ := ob h
            refine xg_q (ci := 1) (C := r_1) (T := f_1) (N := 5) (ref := "PagedValues$Text") hx hb hts (fun w h => List.mem_cons_of_mem _ (ly_1 w h)) hown hE hw rfl 1 (by decide) (hts _ (List.mem_cons_of_mem _ k76)) (fun _ h9 => h9) hr d11_16_61 ?_
            clear hr
            refine lv_iload_n hx hb d11_16_64 rfl (lv_at hl.1 0 rfl) ?_
            refine lv_i2c hx hb d11_16_65 rfl ?_
            obtain ⟨y37, hr, h⟩ := ob h
            refine lv_topi (fun y9 ey => ?_)
            have e9 := ey.trans (Option.some.inj hr)
            clear ey
            subst y9
            clear hr
            obtain ⟨a38z, hn38, h⟩ := ob h
            have hn38 : x36 = some a38z := hn38
            refine W.eq (g2 := F0 m 66 ls [.int y37, .ref a38z]) (by rw [hn38]; rfl) ?_
            obtain ⟨u9, ho, h⟩ := ob h
            obtain ⟨⟨x39, st40⟩, hc, h⟩ := ob h
            refine hV_q (ci := 2) (As := [.int y37]) (rest := []) ⟨hx, hb, hml, hown, hts⟩ (cc_StringBuilder_append_C l G Zd K a38z y37 st29 x39 st40 hc) (kw_V (n := 1) hts k545 k542 k4 k543 k544 (by decide +kernel) ⟨Nat.le_of_ble_eq_true rfl, Nat.le_of_ble_eq_true rfl⟩) hE hw rfl rfl ho rfl hl.1.1 rfl (c1_8 c1_n (Nat.le_of_ble_eq_true rfl)) d11_16_66 (fun H locs cells slots hw => ?_)
            clear hc ho u9
            refine W.eq (g2 := F0 m 69 ls [va_rf x39]) rfl ?_
            refine lv_pop hx hb d11_16_69 (rf_cat _) ?_
            refine lv_aload_n hx hb d11_16_70 rfl (lv_at hl.1 1 rfl) ?_
            refine lv_dup hx hb d11_16_71 rfl ?_
            obtain ⟨x42, hr, h⟩ := ob h
            refine xg_i (ci := 1) (C := r_1) (T := f_1) (N := 5) (ref := "PagedValues$Text") hx hb hts (fun w h => List.mem_cons_of_mem _ (ly_1 w h)) hown hE hw rfl 3 (by decide) (hts _ (List.mem_cons_of_mem _ k79)) (fun _ h9 => h9) hr d11_16_72 ?_
            clear hr
            refine lv_iconst (v := 1) hx hb d11_16_75 (by decide) ?_
            refine lv_iadd hx hb d11_16_76 ?_
            obtain ⟨y43, hr, h⟩ := ob h
            refine lv_topi (fun y9 ey => ?_)
            have e9 := ey.trans (Option.some.inj hr)
            clear ey
            subst y9
            clear hr
            obtain ⟨st44, hr, h⟩ := ob h
            refine xp (ci := 1) (ty := .int) (C := r_1) (T := f_1) (N := 5) (ref := "PagedValues$Text") hx hb hts (fun w h => List.mem_cons_of_mem _ (ly_1 w h)) ft_1 ft_1_ok nm_1 hown hE hw rfl 3 (by decide) (hts _ (List.mem_cons_of_mem _ k79)) (fun _ h9 => h9) rfl hr (by decide +kernel) rfl rfl d11_16_77 (fun H locs hw => ?_)
            clear hr
            refine lv_iconst (v := 1) hx hb d11_16_80 (by decide) ?_
            cases h
            exact finH_z hQ hx hb hr hlk (by decide) hE hw d11_16_81
          ·
            replace h := (if_neg c35).symm.trans h
            refine lv_iconst (v := 0) hx hb d11_16_58 (by decide) ?_
            cases h
            exact finH_z hQ hx hb hr hlk (by decide) hE hw d11_16_59
      ·
        replace h := (if_neg c33).symm.trans h
        refine lv_iload_n hx hb d11_16_37 rfl (lv_at hl.1 0 rfl) ?_
        refine lv_bipush (v := 92) hx hb d11_16_38 (by decide) ?_
        refine lv_icmp_eq (tgt := 45) hx hb d11_16_40 rfl (fun c45 => ?_) (fun c45 => ?_)
        ·
          replace h := (if_pos c45).symm.trans h
          refine lv_iload_n hx hb d11_16_45 rfl (lv_at hl.1 0 rfl) ?_
          refine lv_bipush (v := 32) hx hb d11_16_46 (by decide) ?_
          refine lv_icmp_lt (tgt := 58) hx hb d11_16_48 rfl (fun c46 => ?_) (fun c46 => ?_)
          ·
            replace h := (if_pos c46).symm.trans h
            refine lv_iconst (v := 0) hx hb d11_16_58 (by decide) ?_
            cases h
            exact finH_z hQ hx hb hr hlk (by decide) hE hw d11_16_59
          ·
            replace h := (if_neg c46).symm.trans h
            refine lv_iload_n hx hb d11_16_51 rfl (lv_at hl.1 0 rfl) ?_
            refine lv_sipush (v := 255) hx hb d11_16_52 (by decide) ?_
            refine lv_icmp_le (tgt := 60) hx hb d11_16_55 rfl (fun c47 => ?_) (fun c47 => ?_)
            ·
              replace h := (if_pos c47).symm.trans h
              refine lv_aload_n hx hb d11_16_60 rfl (lv_at hl.1 1 rfl) ?_
              obtain ⟨x48, hr, h⟩ := ob h
              refine xg_q (ci := 1) (C := r_1) (T := f_1) (N := 5) (ref := "PagedValues$Text") hx hb hts (fun w h => List.mem_cons_of_mem _ (ly_1 w h)) hown hE hw rfl 1 (by decide) (hts _ (List.mem_cons_of_mem _ k76)) (fun _ h9 => h9) hr d11_16_61 ?_
              clear hr
              refine lv_iload_n hx hb d11_16_64 rfl (lv_at hl.1 0 rfl) ?_
              refine lv_i2c hx hb d11_16_65 rfl ?_
              obtain ⟨y49, hr, h⟩ := ob h
              refine lv_topi (fun y9 ey => ?_)
              have e9 := ey.trans (Option.some.inj hr)
              clear ey
              subst y9
              clear hr
              obtain ⟨a50z, hn50, h⟩ := ob h
              have hn50 : x48 = some a50z := hn50
              refine W.eq (g2 := F0 m 66 ls [.int y49, .ref a50z]) (by rw [hn50]; rfl) ?_
              obtain ⟨u9, ho, h⟩ := ob h
              obtain ⟨⟨x51, st52⟩, hc, h⟩ := ob h
              refine hV_q (ci := 2) (As := [.int y49]) (rest := []) ⟨hx, hb, hml, hown, hts⟩ (cc_StringBuilder_append_C l G Zd K a50z y49 st29 x51 st52 hc) (kw_V (n := 1) hts k545 k542 k4 k543 k544 (by decide +kernel) ⟨Nat.le_of_ble_eq_true rfl, Nat.le_of_ble_eq_true rfl⟩) hE hw rfl rfl ho rfl hl.1.1 rfl (c1_8 c1_n (Nat.le_of_ble_eq_true rfl)) d11_16_66 (fun H locs cells slots hw => ?_)
              clear hc ho u9
              refine W.eq (g2 := F0 m 69 ls [va_rf x51]) rfl ?_
              refine lv_pop hx hb d11_16_69 (rf_cat _) ?_
              refine lv_aload_n hx hb d11_16_70 rfl (lv_at hl.1 1 rfl) ?_
              refine lv_dup hx hb d11_16_71 rfl ?_
              obtain ⟨x54, hr, h⟩ := ob h
              refine xg_i (ci := 1) (C := r_1) (T := f_1) (N := 5) (ref := "PagedValues$Text") hx hb hts (fun w h => List.mem_cons_of_mem _ (ly_1 w h)) hown hE hw rfl 3 (by decide) (hts _ (List.mem_cons_of_mem _ k79)) (fun _ h9 => h9) hr d11_16_72 ?_
              clear hr
              refine lv_iconst (v := 1) hx hb d11_16_75 (by decide) ?_
              refine lv_iadd hx hb d11_16_76 ?_
              obtain ⟨y55, hr, h⟩ := ob h
              refine lv_topi (fun y9 ey => ?_)
              have e9 := ey.trans (Option.some.inj hr)
              clear ey
              subst y9
              clear hr
              obtain ⟨st56, hr, h⟩ := ob h
              refine xp (ci := 1) (ty := .int) (C := r_1) (T := f_1) (N := 5) (ref := "PagedValues$Text") hx hb hts (fun w h => List.mem_cons_of_mem _ (ly_1 w h)) ft_1 ft_1_ok nm_1 hown hE hw rfl 3 (by decide) (hts _ (List.mem_cons_of_mem _ k79)) (fun _ h9 => h9) rfl hr (by decide +kernel) rfl rfl d11_16_77 (fun H locs hw => ?_)
              clear hr
              refine lv_iconst (v := 1) hx hb d11_16_80 (by decide) ?_
              cases h
              exact finH_z hQ hx hb hr hlk (by decide) hE hw d11_16_81
            ·
              replace h := (if_neg c47).symm.trans h
              refine lv_iconst (v := 0) hx hb d11_16_58 (by decide) ?_
              cases h
              exact finH_z hQ hx hb hr hlk (by decide) hE hw d11_16_59
        ·
          replace h := (if_neg c45).symm.trans h
          refine lv_iconst (v := 0) hx hb d11_16_43 (by decide) ?_
          cases h
          exact finH_z hQ hx hb hr hlk (by decide) hE hw d11_16_44
    ·
      replace h := (if_pos c26).symm.trans h
      refine lv_iconst (v := 0) hx hb d11_16_15 (by decide) ?_
      cases h
      exact finH_z hQ hx hb hr hlk (by decide) hE hw d11_16_16
def c_Text_quoted_l1 (Zd : Nat → Nat) (K : KE) (o : Nat) (a0 : Int32) (a1 : Int32) : Nat → (Int32 × CS) → Option ((Option Nat × CS) ⊕ (Int32 × CS))
  | 0, _ => none
  | n9 + 1, e9 => if (10 : Int32) < e9.1 then (some (.inr (e9.1, e9.2))) else ((isO K e9.2 o 1).bind fun _ => (c_Text_take Zd K o a0 e9.2).bind fun r31 => if r31.1 = (0 : Int32) then (if e9.1 = (10 : Int32) then (some (.inr (e9.1, r31.2))) else ((isO K r31.2 o 1).bind fun _ => (c_Text_takeCharacter Zd K o a0 a1 r31.2).bind fun r36 => if r36.1 = (0 : Int32) then (some (.inr (e9.1, r36.2))) else ((some (e9.1 + 1)).bind fun y38 => c_Text_quoted_l1 Zd K o a0 a1 n9 (y38, r36.2)))) else ((gQ K r31.2 o 1 1).bind fun x39 => x39.bind fun a40z => (isO K r31.2 a40z 2).bind fun _ => (c_StringBuilder_toString Zd K a40z r31.2).bind fun r43 => some (.inl (r43.1, r43.2))))
theorem c_Text_quoted_l1_s (Zd : Nat → Nat) (K : KE) (o : Nat) (a0 : Int32) (a1 : Int32) (n9 : Nat) (e9 : Int32 × CS) : c_Text_quoted_l1 Zd K o a0 a1 (n9 + 1) e9 = (if (10 : Int32) < e9.1 then (some (.inr (e9.1, e9.2))) else ((isO K e9.2 o 1).bind fun _ => (c_Text_take Zd K o a0 e9.2).bind fun r31 => if r31.1 = (0 : Int32) then (if e9.1 = (10 : Int32) then (some (.inr (e9.1, r31.2))) else ((isO K r31.2 o 1).bind fun _ => (c_Text_takeCharacter Zd K o a0 a1 r31.2).bind fun r36 => if r36.1 = (0 : Int32) then (some (.inr (e9.1, r36.2))) else ((some (e9.1 + 1)).bind fun y38 => c_Text_quoted_l1 Zd K o a0 a1 n9 (y38, r36.2)))) else ((gQ K r31.2 o 1 1).bind fun x39 => x39.bind fun a40z => (isO K r31.2 a40z 2).bind fun _ => (c_StringBuilder_toString Zd K a40z r31.2).bind fun r43 => some (.inl (r43.1, r43.2))))) := rfl
def c_Text_quoted (Zd : Nat → Nat) (K : KE) (o : Nat) (a0 : Int32) (a1 : Int32) (st : CS) : Option (Option Nat × CS) := (gQ K st o 1 1).bind fun x11 => x11.bind fun a12z => (isO K st a12z 2).bind fun _ => (c_StringBuilder_setLength Zd K a12z (0 : Int32) st).bind fun st14 => (isO K st14 o 1).bind fun _ => (c_Text_need Zd K o a0 st14).bind fun r18 => if r18.1 = (0 : Int32) then (some (some (Zd 0), r18.2)) else ((c_Text_quoted_l1 Zd K o a0 a1 4096 ((0 : Int32), r18.2)).bind fun e20 => match e20 with | .inl o9 => some o9 | .inr e8 => (isO K e8.2 o 1).bind fun _ => (c_Text_fail Zd K o e8.2).bind fun st26 => some (some (Zd 0), st26))
set_option maxHeartbeats 4000000 in
set_option maxRecDepth 100000 in
theorem cc_Text_quoted (l : Launch) (G : Gk) (Zd : Nat → Nat) (K : KE) (o : Nat) (a0 : Int32) (a1 : Int32) (st : CS) (r0 : Option Nat) (st0 : CS) (hm : c_Text_quoted Zd K o a0 a1 st = some (r0, st0)) : CT l y11_15 prog_11_method_15_code 4 (some (.object "java/lang/String")) G Zd K (7) [.ref o, .int a0, .int a1] st (hQ G Zd r0 st0) := by
  refine goH (d := 7) (y := y11_15) (cc := prog_11_method_15_code) (maxL := 4) (ret := (some (.object "java/lang/String"))) (av := [.ref o, .int a0, .int a1]) (Qc := hQ G Zd r0 st0) "PagedValues$Text" rfl (by decide) (c1_c rfl (c1_c rfl (c1_c rfl c1_n))) (Nat.le_of_ble_eq_true rfl) ?_
  intro p e s m below meth c ls A args Q hQ hx hb hr hlk hml hown hts hin hl hE hw
  have hl : lw ls 4 [(0, .ref o), (1, .int a0), (2, .int a1)] := hl
  have hZ := hE.2.2.1
  have h := hm
  clear hm
  refine lv_aload_n hx hb d11_15_0 rfl (lv_at hl.1 0 rfl) ?_
  obtain ⟨x11, hr, h⟩ := ob h
  refine xg_q (ci := 1) (C := r_1) (T := f_1) (N := 5) (ref := "PagedValues$Text") hx hb hts (fun w h => List.mem_cons_of_mem _ (ly_1 w h)) hown hE hw rfl 1 (by decide) (hts _ (List.mem_cons_of_mem _ k76)) (fun _ h9 => h9) hr d11_15_1 ?_
  clear hr
  refine lv_iconst (v := 0) hx hb d11_15_4 (by decide) ?_
  obtain ⟨a12z, hn12, h⟩ := ob h
  have hn12 : x11 = some a12z := hn12
  refine W.eq (g2 := F0 m 5 ls [.int 0, .ref a12z]) (by rw [hn12]; rfl) ?_
  obtain ⟨u9, ho, h⟩ := ob h
  obtain ⟨st14, hc, h⟩ := ob h
  refine hV_v (ci := 2) (As := [.int 0]) (rest := []) ⟨hx, hb, hml, hown, hts⟩ (cc_StringBuilder_setLength l G Zd K a12z (0 : Int32) st st14 hc) (kw_V (n := 1) hts k398 k395 k4 k396 k397 (by decide +kernel) ⟨Nat.le_of_ble_eq_true rfl, Nat.le_of_ble_eq_true rfl⟩) hE hw rfl rfl ho rfl hl.1.1 rfl (c1_8 c1_n (Nat.le_of_ble_eq_true rfl)) d11_15_5 (fun H locs cells slots hw => ?_)
  clear hc ho u9
  refine W.eq (g2 := F0 m 8 ls []) rfl ?_
  refine lv_aload_n hx hb d11_15_8 rfl (lv_at hl.1 0 rfl) ?_
  refine lv_iload_n hx hb d11_15_9 rfl (lv_at hl.1 1 rfl) ?_
  obtain ⟨u9, ho, h⟩ := ob h
  obtain ⟨⟨x16, st17⟩, hc, h⟩ := ob h
  refine hV_i (ci := 1) (As := [.int a0]) (rest := []) ⟨hx, hb, hml, hown, hts⟩ (cc_Text_need l G Zd K o a0 st14 x16 st17 hc) (kw_V (n := 1) hts k380 k455 k2 k378 k379 (by decide +kernel) ⟨Nat.le_of_ble_eq_true rfl, Nat.le_of_ble_eq_true rfl⟩) hE hw rfl rfl ho rfl hl.1.1 rfl (c1_8 c1_n (Nat.le_of_ble_eq_true rfl)) d11_15_10 (fun H locs cells slots hw => ?_)
  clear hc ho u9
  refine W.eq (g2 := F0 m 13 ls [.int x16]) rfl ?_
  refine lv_if_ne (tgt := 19) hx hb d11_15_13 rfl (fun c19 => ?_) (fun c19 => ?_)
  ·
    replace h := (if_neg c19).symm.trans h
    refine lv_iconst (v := 0) hx hb d11_15_19 (by decide) ?_
    refine xt_istore_n (x := 0) (lv' := [(3, .int 0), (0, .ref o), (1, .int a0), (2, .int a1)]) hx hb d11_15_20 rfl hl (by decide) rfl (fun ls hl => ?_)
    obtain ⟨e20, hX, hrest⟩ := ob h
    clear h
    have hj : ∀ (v23 : Int32) (v24 : CS), e20 = .inr (v23, v24) → ∀ (H : Heap) (locs : List Loc) (cells slots : Nat) (ls : Array Slot), lw ls 4 [(0, .ref o), (1, .int a0), (2, .int a1), (3, .int v23)] → wsH G Zd A s v24 H locs → W p l e (rmH Zd (7) st.1) s m args below meth c H locs cells slots Q (F0 m 67 ls []) := by
      intro v23 v24 he H locs cells slots ls hl hw
      subst e20
      have h := hrest
      clear hrest
      refine lv_aload_n hx hb d11_15_67 rfl (lv_at hl.1 0 rfl) ?_
      obtain ⟨u9, ho, h⟩ := ob h
      obtain ⟨st26, hc, h⟩ := ob h
      refine hV_v (ci := 1) (As := []) (rest := []) ⟨hx, hb, hml, hown, hts⟩ (cc_Text_fail l G Zd K o v24 st26 hc) (kw_V (n := 0) hts k333 k385 k2 k331 k332 (by decide +kernel) ⟨Nat.le_of_ble_eq_true rfl, Nat.le_of_ble_eq_true rfl⟩) hE hw rfl rfl ho rfl hl.1.1 rfl (c1_8 c1_n (Nat.le_of_ble_eq_true rfl)) d11_15_68 (fun H locs cells slots hw => ?_)
      clear hc ho u9
      refine W.eq (g2 := F0 m 71 ls []) rfl ?_
      refine va_ldcS hx hb hown (hZ.2.2.1 ("PagedValues$Text", 68, "", 0) (List.mem_of_getElem? (i := 3) rfl)) d11_15_71 ?_
      refine W.eq (g2 := F0 m 73 ls [.ref (Zd 0)]) rfl ?_
      cases h
      exact finH_q hQ hx hb hr hlk rfl (Or.inl ⟨_, rfl⟩) hE hw d11_15_73
    have hloop : ∀ (n9 : Nat) (v21 : Int32) (v22 : CS), c_Text_quoted_l1 Zd K o a0 a1 n9 (v21, v22) = some e20 → ∀ (H : Heap) (locs : List Loc) (cells slots : Nat) (ls : Array Slot), lw ls 4 [(0, .ref o), (1, .int a0), (2, .int a1), (3, .int v21)] → wsH G Zd A s v22 H locs → W p l e (rmH Zd (7) st.1) s m args below meth c H locs cells slots Q (F0 m 21 ls []) := by
      intro n9
      induction n9 with
      | zero =>
        intro v21 v22 h
        cases h
      | succ n9 ih =>
        intro v21 v22 h H locs cells slots ls hl hw
        replace h := (c_Text_quoted_l1_s Zd K o a0 a1 n9 (v21, v22)).symm.trans h
        refine lv_iload_n hx hb d11_15_21 rfl (lv_at hl.1 3 rfl) ?_
        refine lv_bipush (v := 10) hx hb d11_15_22 (by decide) ?_
        refine lv_icmp_gt (tgt := 67) hx hb d11_15_24 rfl (fun c28 => ?_) (fun c28 => ?_)
        ·
          replace h := (if_pos c28).symm.trans h
          have e9 := Option.some.inj h
          subst e20
          have hl := lw_sub hl (l' := [(0, .ref o), (1, .int a0), (2, .int a1), (3, .int v21)]) [0, 1, 2, 3] rfl
          exact hj _ _ rfl _ _ _ _ _ hl hw
        ·
          replace h := (if_neg c28).symm.trans h
          refine lv_aload_n hx hb d11_15_27 rfl (lv_at hl.1 0 rfl) ?_
          refine lv_iload_n hx hb d11_15_28 rfl (lv_at hl.1 1 rfl) ?_
          obtain ⟨u9, ho, h⟩ := ob h
          obtain ⟨⟨x29, st30⟩, hc, h⟩ := ob h
          refine hV_i (ci := 1) (As := [.int a0]) (rest := []) ⟨hx, hb, hml, hown, hts⟩ (cc_Text_take l G Zd K o a0 v22 x29 st30 hc) (kw_V (n := 1) hts k384 k381 k2 k382 k383 (by decide +kernel) ⟨Nat.le_of_ble_eq_true rfl, Nat.le_of_ble_eq_true rfl⟩) hE hw rfl rfl ho rfl hl.1.1 rfl (c1_8 c1_n (Nat.le_of_ble_eq_true rfl)) d11_15_29 (fun H locs cells slots hw => ?_)
          clear hc ho u9
          refine W.eq (g2 := F0 m 32 ls [.int x29]) rfl ?_
          refine lv_if_eq (tgt := 43) hx hb d11_15_32 rfl (fun c32 => ?_) (fun c32 => ?_)
          ·
            replace h := (if_pos c32).symm.trans h
            refine lv_iload_n hx hb d11_15_43 rfl (lv_at hl.1 3 rfl) ?_
            refine lv_bipush (v := 10) hx hb d11_15_44 (by decide) ?_
            refine lv_icmp_eq (tgt := 67) hx hb d11_15_46 rfl (fun c33 => ?_) (fun c33 => ?_)
            ·
              replace h := (if_pos c33).symm.trans h
              have e9 := Option.some.inj h
              subst e20
              have hl := lw_sub hl (l' := [(0, .ref o), (1, .int a0), (2, .int a1), (3, .int v21)]) [0, 1, 2, 3] rfl
              exact hj _ _ rfl _ _ _ _ _ hl hw
            ·
              replace h := (if_neg c33).symm.trans h
              refine lv_aload_n hx hb d11_15_49 rfl (lv_at hl.1 0 rfl) ?_
              refine lv_iload_n hx hb d11_15_50 rfl (lv_at hl.1 1 rfl) ?_
              refine lv_iload_n hx hb d11_15_51 rfl (lv_at hl.1 2 rfl) ?_
              obtain ⟨u9, ho, h⟩ := ob h
              obtain ⟨⟨x34, st35⟩, hc, h⟩ := ob h
              refine hV_i (ci := 1) (As := [.int a0, .int a1]) (rest := []) ⟨hx, hb, hml, hown, hts⟩ (cc_Text_takeCharacter l G Zd K o a0 a1 st30 x34 st35 hc) (kw_V (n := 2) hts k541 k538 k2 k540 ks3 (by decide +kernel) ⟨Nat.le_of_ble_eq_true rfl, Nat.le_of_ble_eq_true rfl⟩) hE hw rfl rfl ho rfl hl.1.1 rfl (c1_8 c1_n (Nat.le_of_ble_eq_true rfl)) d11_15_52 (fun H locs cells slots hw => ?_)
              clear hc ho u9
              refine W.eq (g2 := F0 m 55 ls [.int x34]) rfl ?_
              refine lv_if_ne (tgt := 61) hx hb d11_15_55 rfl (fun c37 => ?_) (fun c37 => ?_)
              ·
                replace h := (if_neg c37).symm.trans h
                obtain ⟨y38, hr, h⟩ := ob h
                refine xt_iinc (k := 3) (v := y38) (lv' := [(3, .int y38), (0, .ref o), (1, .int a0), (2, .int a1)]) hx hb d11_15_61 hl rfl hr (by decide) rfl (fun ls hl => ?_)
                clear hr
                refine lv_goto (tgt := 21) hx hb d11_15_64 rfl ?_
                have hl := lw_sub hl (l' := [(0, .ref o), (1, .int a0), (2, .int a1), (3, .int y38)]) [1, 2, 3, 0] rfl
                exact ih _ _ h _ _ _ _ _ hl hw
              ·
                replace h := (if_pos c37).symm.trans h
                refine lv_goto (tgt := 67) hx hb d11_15_58 rfl ?_
                have e9 := Option.some.inj h
                subst e20
                have hl := lw_sub hl (l' := [(0, .ref o), (1, .int a0), (2, .int a1), (3, .int v21)]) [0, 1, 2, 3] rfl
                exact hj _ _ rfl _ _ _ _ _ hl hw
          ·
            replace h := (if_neg c32).symm.trans h
            refine lv_aload_n hx hb d11_15_35 rfl (lv_at hl.1 0 rfl) ?_
            obtain ⟨x39, hr, h⟩ := ob h
            refine xg_q (ci := 1) (C := r_1) (T := f_1) (N := 5) (ref := "PagedValues$Text") hx hb hts (fun w h => List.mem_cons_of_mem _ (ly_1 w h)) hown hE hw rfl 1 (by decide) (hts _ (List.mem_cons_of_mem _ k76)) (fun _ h9 => h9) hr d11_15_36 ?_
            clear hr
            obtain ⟨a40z, hn40, h⟩ := ob h
            have hn40 : x39 = some a40z := hn40
            refine W.eq (g2 := F0 m 39 ls [.ref a40z]) (by rw [hn40]; rfl) ?_
            obtain ⟨u9, ho, h⟩ := ob h
            obtain ⟨⟨x41, st42⟩, hc, h⟩ := ob h
            refine hV_q (ci := 2) (As := []) (rest := []) ⟨hx, hb, hml, hown, hts⟩ (cc_StringBuilder_toString l G Zd K a40z st30 x41 st42 hc) (kw_V (n := 0) hts k460 k457 k4 k458 k459 (by decide +kernel) ⟨Nat.le_of_ble_eq_true rfl, Nat.le_of_ble_eq_true rfl⟩) hE hw rfl rfl ho rfl hl.1.1 rfl (c1_8 c1_n (Nat.le_of_ble_eq_true rfl)) d11_15_39 (fun H locs cells slots hw => ?_)
            clear hc ho u9
            refine W.eq (g2 := F0 m 42 ls [va_rf x41]) rfl ?_
            cases h
            cases hrest
            exact finH_q hQ hx hb hr hlk rfl (Or.inl ⟨_, rfl⟩) hE hw d11_15_42
    have hl := lw_sub hl (l' := [(0, .ref o), (1, .int a0), (2, .int a1), (3, .int 0)]) [1, 2, 3, 0] rfl
    exact hloop _ _ _ hX _ _ _ _ _ hl hw
  ·
    replace h := (if_pos c19).symm.trans h
    refine va_ldcS hx hb hown (hZ.2.2.1 ("PagedValues$Text", 68, "", 0) (List.mem_of_getElem? (i := 3) rfl)) d11_15_16 ?_
    refine W.eq (g2 := F0 m 18 ls [.ref (Zd 0)]) rfl ?_
    cases h
    exact finH_q hQ hx hb hr hlk rfl (Or.inl ⟨_, rfl⟩) hE hw d11_15_18
theorem d12_1_0 : decode prog_12_method_1_code 0 = .ok (.aload_n 0, 1) := by decide +kernel
theorem d12_1_1 : decode prog_12_method_1_code 1 = .ok (.invokespecial 3, 3) := by decide +kernel
theorem k347 : (Jvm.Cond.methodLink "PagedValues$Value" (3 : Nat) ({ cls := "java/lang/Object", name := "<init>", desc := "()V" } : Jvm.MethodName)) ∈ TB := tk_2 107 rfl rfl
theorem d12_1_4 : decode prog_12_method_1_code 4 = .ok (.aload_n 0, 1) := by decide +kernel
theorem d12_1_5 : decode prog_12_method_1_code 5 = .ok (.ldc 9, 2) := by decide +kernel
theorem d12_1_7 : decode prog_12_method_1_code 7 = .ok (.putfield 11, 3) := by decide +kernel
theorem k355 : (Jvm.Cond.fieldLink "PagedValues$Value" (11 : Nat) "PagedValues$Value" "name" "Ljava/lang/String;") ∈ TB := tk_2 115 rfl rfl
theorem d12_1_10 : decode prog_12_method_1_code 10 = .ok (.aload_n 0, 1) := by decide +kernel
theorem d12_1_11 : decode prog_12_method_1_code 11 = .ok (.aload_n 1, 1) := by decide +kernel
theorem d12_1_12 : decode prog_12_method_1_code 12 = .ok (.putfield 17, 3) := by decide +kernel
theorem k349 : (Jvm.Cond.fieldLink "PagedValues$Value" (17 : Nat) "PagedValues$Value" "kind" "LPagedValues$Kind;") ∈ TB := tk_2 109 rfl rfl
theorem d12_1_15 : decode prog_12_method_1_code 15 = .ok (.aload_n 0, 1) := by decide +kernel
theorem d12_1_16 : decode prog_12_method_1_code 16 = .ok (.iload_n 2, 1) := by decide +kernel
theorem d12_1_17 : decode prog_12_method_1_code 17 = .ok (.putfield 21, 3) := by decide +kernel
theorem k352 : (Jvm.Cond.fieldLink "PagedValues$Value" (21 : Nat) "PagedValues$Value" "number" "I") ∈ TB := tk_2 112 rfl rfl
theorem d12_1_20 : decode prog_12_method_1_code 20 = .ok (.aload_n 0, 1) := by decide +kernel
theorem d12_1_21 : decode prog_12_method_1_code 21 = .ok (.aload_n 3, 1) := by decide +kernel
theorem d12_1_22 : decode prog_12_method_1_code 22 = .ok (.putfield 25, 3) := by decide +kernel
theorem k353 : (Jvm.Cond.fieldLink "PagedValues$Value" (25 : Nat) "PagedValues$Value" "characters" "Ljava/lang/String;") ∈ TB := tk_2 113 rfl rfl
theorem d12_1_25 : decode prog_12_method_1_code 25 = .ok (.return_, 1) := by decide +kernel
def y12_1 : MethodName := { cls := "PagedValues$Value", name := "<init>", desc := "(LPagedValues$Kind;ILjava/lang/String;)V" }
def c_Value_init (Zd : Nat → Nat) (K : KE) (o : Nat) (a0 : Option Nat) (a1 : Int32) (a2 : Option Nat) (st : CS) : Option (CS) := (sF st o 11 3 (.ref (Zd 0))).bind fun st11 => (sF st11 o 11 0 (va_rf a0)).bind fun st12 => (sF st12 o 11 1 (.int a1)).bind fun st13 => (sF st13 o 11 2 (va_rf a2)).bind fun st14 => some st14
set_option maxHeartbeats 4000000 in
set_option maxRecDepth 100000 in
theorem cc_Value_init (l : Launch) (G : Gk) (Zd : Nat → Nat) (K : KE) (o : Nat) (a0 : Option Nat) (a1 : Int32) (a2 : Option Nat) (st : CS) (st0 : CS) (hm : c_Value_init Zd K o a0 a1 a2 st = some st0) : CT l y12_1 prog_12_method_1_code 4 none G Zd K (1) [.ref o, va_rf a0, .int a1, va_rf a2] st (hV G Zd st0) := by
  refine goH (d := 1) (y := y12_1) (cc := prog_12_method_1_code) (maxL := 4) (ret := none) (av := [.ref o, va_rf a0, .int a1, va_rf a2]) (Qc := hV G Zd st0) "PagedValues$Value" rfl (by decide) (c1_c rfl (c1_c (rf_cat _) (c1_c rfl (c1_c (rf_cat _) c1_n)))) (Nat.le_of_ble_eq_true rfl) ?_
  intro p e s m below meth c ls A args Q hQ hx hb hr hlk hml hown hts hin hl hE hw
  have hl : lw ls 4 [(0, .ref o), (1, va_rf a0), (2, .int a1), (3, va_rf a2)] := hl
  have hZ := hE.2.2.1
  have h := hm
  clear hm
  refine lv_aload_n hx hb d12_1_0 rfl (lv_at hl.1 0 rfl) ?_
  refine W.objInit hx hb hown (hts _ (List.mem_cons_of_mem _ k347)) (hts _ (List.mem_cons_of_mem _ k33)) (hts _ (List.mem_cons_of_mem _ kobj)) rfl (by rw [hml]; exact hl.1.1) rfl d12_1_1 (Nat.le_of_ble_eq_true rfl) (Nat.le_of_ble_eq_true rfl) ?_
  refine W.eq (g2 := F0 m 4 ls []) rfl ?_
  refine lv_aload_n hx hb d12_1_4 rfl (lv_at hl.1 0 rfl) ?_
  refine va_ldcS hx hb hown (hZ.2.2.1 ("PagedValues$Value", 9, "", 0) (List.mem_of_getElem? (i := 2) rfl)) d12_1_5 ?_
  refine W.eq (g2 := F0 m 7 ls [.ref (Zd 0), .ref o]) rfl ?_
  obtain ⟨st11, hr, h⟩ := ob h
  refine xp (ci := 11) (ty := (ft_11 3)) (C := r_11) (T := f_11) (N := 6) (ref := "PagedValues$Value") hx hb hts (fun w h => List.mem_cons_of_mem _ (ly_11 w h)) ft_11 ft_11_ok nm_11 hown hE hw rfl 3 (by decide) (hts _ (List.mem_cons_of_mem _ k355)) (fun _ h9 => h9) rfl hr (by decide +kernel) rfl rfl d12_1_7 (fun H locs hw => ?_)
  clear hr
  refine lv_aload_n hx hb d12_1_10 rfl (lv_at hl.1 0 rfl) ?_
  refine xq_aload_n (r := a0) hx hb d12_1_11 rfl (lv_at hl.1 1 rfl) ?_
  obtain ⟨st12, hr, h⟩ := ob h
  refine xpF (ci := 11) (ty := (ft_11 0)) (C := r_11) (T := f_11) (N := 6) (ref := "PagedValues$Value") hx hb hts (fun w h => List.mem_cons_of_mem _ (ly_11 w h)) ft_11 ft_11_ok nm_11 hown hE hw rfl 0 (by decide) (hts _ (List.mem_cons_of_mem _ k349)) (fun _ h9 => h9) rfl hin rfl hr (by decide +kernel) (rf_narO _) (rf_fitO _) d12_1_12 (fun H locs hw => ?_)
  clear hr
  refine lv_aload_n hx hb d12_1_15 rfl (lv_at hl.1 0 rfl) ?_
  refine lv_iload_n hx hb d12_1_16 rfl (lv_at hl.1 2 rfl) ?_
  obtain ⟨st13, hr, h⟩ := ob h
  refine xpF (ci := 11) (ty := .int) (C := r_11) (T := f_11) (N := 6) (ref := "PagedValues$Value") hx hb hts (fun w h => List.mem_cons_of_mem _ (ly_11 w h)) ft_11 ft_11_ok nm_11 hown hE hw rfl 1 (by decide) (hts _ (List.mem_cons_of_mem _ k352)) (fun _ h9 => h9) rfl hin rfl hr (by decide +kernel) rfl rfl d12_1_17 (fun H locs hw => ?_)
  clear hr
  refine lv_aload_n hx hb d12_1_20 rfl (lv_at hl.1 0 rfl) ?_
  refine xq_aload_n (r := a2) hx hb d12_1_21 rfl (lv_at hl.1 3 rfl) ?_
  obtain ⟨st14, hr, h⟩ := ob h
  refine xpF (ci := 11) (ty := (ft_11 2)) (C := r_11) (T := f_11) (N := 6) (ref := "PagedValues$Value") hx hb hts (fun w h => List.mem_cons_of_mem _ (ly_11 w h)) ft_11 ft_11_ok nm_11 hown hE hw rfl 2 (by decide) (hts _ (List.mem_cons_of_mem _ k353)) (fun _ h9 => h9) rfl hin rfl hr (by decide +kernel) (rf_narO _) (rf_fitO _) d12_1_22 (fun H locs hw => ?_)
  clear hr
  cases h
  exact finH_v hQ hx hb hr hlk hE hw d12_1_25
theorem d12_2_0 : decode prog_12_method_2_code 0 = .ok (.aload_n 0, 1) := by decide +kernel
theorem d12_2_1 : decode prog_12_method_2_code 1 = .ok (.getfield 17, 3) := by decide +kernel
theorem d12_2_4 : decode prog_12_method_2_code 4 = .ok (.getstatic 28, 3) := by decide +kernel
theorem k585 : (Jvm.Cond.fieldLink "PagedValues$Value" (28 : Nat) "PagedValues$Kind" "OBJECT" "LPagedValues$Kind;") ∈ TB := tk_3 105 rfl rfl
theorem d12_2_7 : decode prog_12_method_2_code 7 = .ok (.if_acmp .eq 5, 3) := by decide +kernel
theorem d12_2_12 : decode prog_12_method_2_code 12 = .ok (.aload_n 0, 1) := by decide +kernel
theorem d12_2_13 : decode prog_12_method_2_code 13 = .ok (.getfield 33, 3) := by decide +kernel
theorem k358 : (Jvm.Cond.fieldLink "PagedValues$Value" (33 : Nat) "PagedValues$Value" "first" "LPagedValues$Value;") ∈ TB := tk_2 118 rfl rfl
theorem d12_2_16 : decode prog_12_method_2_code 16 = .ok (.astore_n 2, 1) := by decide +kernel
theorem d12_2_42 : decode prog_12_method_2_code 42 = .ok (.aconst_null, 1) := by decide +kernel
theorem d12_2_43 : decode prog_12_method_2_code 43 = .ok (.areturn, 1) := by decide +kernel
theorem d12_2_17 : decode prog_12_method_2_code 17 = .ok (.aload_n 2, 1) := by decide +kernel
theorem d12_2_18 : decode prog_12_method_2_code 18 = .ok (.ifnull 24, 3) := by decide +kernel
theorem d12_2_21 : decode prog_12_method_2_code 21 = .ok (.aload_n 2, 1) := by decide +kernel
theorem d12_2_22 : decode prog_12_method_2_code 22 = .ok (.getfield 11, 3) := by decide +kernel
theorem d12_2_25 : decode prog_12_method_2_code 25 = .ok (.aload_n 1, 1) := by decide +kernel
theorem d12_2_26 : decode prog_12_method_2_code 26 = .ok (.invokevirtual 37, 3) := by decide +kernel
theorem k590 : (Jvm.Cond.code ({ cls := "java/lang/String", name := "equals", desc := "(Ljava/lang/Object;)Z" } : Jvm.MethodName) prog_21_method_66_code (3 : Nat) (Option.some Jvm.ClassFile.FieldType.boolean)) ∈ TB := tk_3 110 rfl rfl
theorem k587 : (Jvm.Cond.methodLink "PagedValues$Value" (37 : Nat) ({ cls := "java/lang/String", name := "equals", desc := "(Ljava/lang/Object;)Z" } : Jvm.MethodName)) ∈ TB := tk_3 107 rfl rfl
theorem k588 : (Jvm.Cond.instanceMethod ({ cls := "java/lang/String", name := "equals", desc := "(Ljava/lang/Object;)Z" } : Jvm.MethodName)) ∈ TB := tk_3 108 rfl rfl
theorem k589 : (Jvm.Cond.selects "java/lang/String" ({ cls := "java/lang/String", name := "equals", desc := "(Ljava/lang/Object;)Z" } : Jvm.MethodName) ({ cls := "java/lang/String", name := "equals", desc := "(Ljava/lang/Object;)Z" } : Jvm.MethodName)) ∈ TB := tk_3 109 rfl rfl
theorem d12_2_29 : decode prog_12_method_2_code 29 = .ok (.ifCond .eq 5, 3) := by decide +kernel
theorem d12_2_34 : decode prog_12_method_2_code 34 = .ok (.aload_n 2, 1) := by decide +kernel
theorem d12_2_35 : decode prog_12_method_2_code 35 = .ok (.getfield 43, 3) := by decide +kernel
theorem k361 : (Jvm.Cond.fieldLink "PagedValues$Value" (43 : Nat) "PagedValues$Value" "next" "LPagedValues$Value;") ∈ TB := tk_2 121 rfl rfl
theorem d12_2_38 : decode prog_12_method_2_code 38 = .ok (.astore_n 2, 1) := by decide +kernel
theorem d12_2_39 : decode prog_12_method_2_code 39 = .ok (.goto (-22), 3) := by decide +kernel
theorem d12_2_32 : decode prog_12_method_2_code 32 = .ok (.aload_n 2, 1) := by decide +kernel
theorem d12_2_33 : decode prog_12_method_2_code 33 = .ok (.areturn, 1) := by decide +kernel
theorem d12_2_10 : decode prog_12_method_2_code 10 = .ok (.aconst_null, 1) := by decide +kernel
theorem d12_2_11 : decode prog_12_method_2_code 11 = .ok (.areturn, 1) := by decide +kernel
def y12_2 : MethodName := { cls := "PagedValues$Value", name := "member", desc := "(Ljava/lang/String;)LPagedValues$Value;" }
def c_Value_member_l1 (Zd : Nat → Nat) (K : KE) (a0 : Option Nat) (st : CS) : Nat → (Option Nat) → Option ((Option Nat) ⊕ (Option Nat))
  | 0, _ => none
  | n9 + 1, e9 => nl e9 (some (.inr e9)) (fun a17z => (gQ K st a17z 11 3).bind fun x18 => x18.bind fun a19z => (isO K st a19z 12).bind fun _ => (c_String_equals Zd K a19z a0 st).bind fun x20 => if x20 = (0 : Int32) then ((gQ K st a17z 11 5).bind fun x24 => c_Value_member_l1 Zd K a0 st n9 x24) else (some (.inl e9)))
theorem c_Value_member_l1_s (Zd : Nat → Nat) (K : KE) (a0 : Option Nat) (st : CS) (n9 : Nat) (e9 : Option Nat) : c_Value_member_l1 Zd K a0 st (n9 + 1) e9 = (nl e9 (some (.inr e9)) (fun a17z => (gQ K st a17z 11 3).bind fun x18 => x18.bind fun a19z => (isO K st a19z 12).bind fun _ => (c_String_equals Zd K a19z a0 st).bind fun x20 => if x20 = (0 : Int32) then ((gQ K st a17z 11 5).bind fun x24 => c_Value_member_l1 Zd K a0 st n9 x24) else (some (.inl e9)))) := rfl
def c_Value_member (Zd : Nat → Nat) (K : KE) (o : Nat) (a0 : Option Nat) (st : CS) : Option (Option Nat) := (gQ K st o 11 0).bind fun x11 => if x11 = some (Zd 14) then ((gQ K st o 11 4).bind fun x13 => (c_Value_member_l1 Zd K a0 st 4096 x13).bind fun e14 => match e14 with | .inl o9 => some o9 | .inr e8 => some none) else (some none)
set_option maxHeartbeats 4000000 in
set_option maxRecDepth 100000 in
theorem cc_Value_member (l : Launch) (G : Gk) (Zd : Nat → Nat) (K : KE) (o : Nat) (a0 : Option Nat) (st : CS) (r0 : Option Nat) (hm : c_Value_member Zd K o a0 st = some r0) : CT l y12_2 prog_12_method_2_code 3 (some (.object "PagedValues$Value")) G Zd K (2) [.ref o, va_rf a0] st (hQ G Zd r0 st) := by
  refine goH (d := 2) (y := y12_2) (cc := prog_12_method_2_code) (maxL := 3) (ret := (some (.object "PagedValues$Value"))) (av := [.ref o, va_rf a0]) (Qc := hQ G Zd r0 st) "PagedValues$Value" rfl (by decide) (c1_c rfl (c1_c (rf_cat _) c1_n)) (Nat.le_of_ble_eq_true rfl) ?_
  intro p e s m below meth c ls A args Q hQ hx hb hr hlk hml hown hts hin hl hE hw
  have hl : lw ls 3 [(0, .ref o), (1, va_rf a0)] := hl
  have hZ := hE.2.2.1
  have h := hm
  clear hm
  refine lv_aload_n hx hb d12_2_0 rfl (lv_at hl.1 0 rfl) ?_
  obtain ⟨x11, hr, h⟩ := ob h
  refine xg_q (ci := 11) (C := r_11) (T := f_11) (N := 6) (ref := "PagedValues$Value") hx hb hts (fun w h => List.mem_cons_of_mem _ (ly_11 w h)) hown hE hw rfl 0 (by decide) (hts _ (List.mem_cons_of_mem _ k349)) (fun _ h9 => h9) hr d12_2_1 ?_
  clear hr
  refine va_gets (ref := "PagedValues$Kind") hx hb (hZ.2.1.1.1 6 (by decide)).1 hw.2.2.2 hown (hts _ (List.mem_cons_of_mem _ k585)) (fun _ h9 => h9) d12_2_4 ?_
  refine W.eq (g2 := F0 m 7 ls [.ref (Zd 14), va_rf x11]) rfl ?_
  refine lv_acmp_eq (rx := x11) (ry := some (Zd 14)) (tgt := 12) hx hb d12_2_7 rfl (fun c12 => ?_) (fun c12 => ?_)
  ·
    replace h := (if_pos c12).symm.trans h
    refine lv_aload_n hx hb d12_2_12 rfl (lv_at hl.1 0 rfl) ?_
    obtain ⟨x13, hr, h⟩ := ob h
    refine xg_q (ci := 11) (C := r_11) (T := f_11) (N := 6) (ref := "PagedValues$Value") hx hb hts (fun w h => List.mem_cons_of_mem _ (ly_11 w h)) hown hE hw rfl 4 (by decide) (hts _ (List.mem_cons_of_mem _ k358)) (fun _ h9 => h9) hr d12_2_13 ?_
    clear hr
    refine xt_astore_n (r := x13) (lv' := [(2, va_rf x13), (0, .ref o), (1, va_rf a0)]) hx hb d12_2_16 rfl hl (by decide) rfl (fun ls hl => ?_)
    obtain ⟨e14, hX, hrest⟩ := ob h
    clear h
    have hj : ∀ (v16 : Option Nat), e14 = .inr (v16) → ∀ (H : Heap) (locs : List Loc) (cells slots : Nat) (ls : Array Slot), lw ls 3 [(0, .ref o), (1, va_rf a0), (2, va_rf v16)] → wsH G Zd A s st H locs → W p l e (rmH Zd (2) st.1) s m args below meth c H locs cells slots Q (F0 m 42 ls []) := by
      intro v16 he H locs cells slots ls hl hw
      subst e14
      have h := hrest
      clear hrest
      refine lv_null hx hb d12_2_42 ?_
      cases h
      exact finH_q hQ hx hb hr hlk rfl (Or.inl ⟨_, rfl⟩) hE hw d12_2_43
    have hloop : ∀ (n9 : Nat) (v15 : Option Nat), c_Value_member_l1 Zd K a0 st n9 (v15) = some e14 → ∀ (H : Heap) (locs : List Loc) (cells slots : Nat) (ls : Array Slot), lw ls 3 [(0, .ref o), (1, va_rf a0), (2, va_rf v15)] → wsH G Zd A s st H locs → W p l e (rmH Zd (2) st.1) s m args below meth c H locs cells slots Q (F0 m 17 ls []) := by
      intro n9
      induction n9 with
      | zero =>
        intro v15 h
        cases h
      | succ n9 ih =>
        intro v15 h H locs cells slots ls hl hw
        replace h := (c_Value_member_l1_s Zd K a0 st n9 (v15)).symm.trans h
        refine xq_aload_n (r := v15) hx hb d12_2_17 rfl (lv_at hl.1 2 rfl) ?_
        rcases nl_case h with ⟨hn17, h⟩ | ⟨a17z, hn17, h⟩
        ·
          have hn17 : v15 = none := hn17
          refine W.eq (g2 := F0 m 18 ls [.null]) (by rw [hn17]; rfl) ?_
          refine lv_ifnullN (tgt := 42) hx hb d12_2_18 rfl ?_
          have e9 := Option.some.inj h
          subst e14
          have hl := lw_sub hl (l' := [(0, .ref o), (1, va_rf a0), (2, va_rf v15)]) [0, 1, 2] rfl
          exact hj _ rfl _ _ _ _ _ hl hw
        ·
          have hn17 : v15 = some a17z := hn17
          refine W.eq (g2 := F0 m 18 ls [.ref a17z]) (by rw [hn17]; rfl) ?_
          refine lv_ifnull hx hb d12_2_18 ?_
          refine xq_aload_n (r := v15) hx hb d12_2_21 rfl (lv_at hl.1 2 rfl) ?_
          refine W.eq (g2 := F0 m 22 ls [.ref a17z]) (by rw [hn17]; rfl) ?_
          obtain ⟨x18, hr, h⟩ := ob h
          refine xg_q (ci := 11) (C := r_11) (T := f_11) (N := 6) (ref := "PagedValues$Value") hx hb hts (fun w h => List.mem_cons_of_mem _ (ly_11 w h)) hown hE hw rfl 3 (by decide) (hts _ (List.mem_cons_of_mem _ k355)) (fun _ h9 => h9) hr d12_2_22 ?_
          clear hr
          refine xq_aload_n (r := a0) hx hb d12_2_25 rfl (lv_at hl.1 1 rfl) ?_
          obtain ⟨a19z, hn19, h⟩ := ob h
          have hn19 : x18 = some a19z := hn19
          refine W.eq (g2 := F0 m 26 ls [va_rf a0, .ref a19z]) (by rw [hn19]; rfl) ?_
          obtain ⟨u9, ho, h⟩ := ob h
          obtain ⟨x20, hc, h⟩ := ob h
          refine hV_i (ci := 12) (As := [va_rf a0]) (rest := []) ⟨hx, hb, hml, hown, hts⟩ (cc_String_equals l G Zd K a19z a0 st x20 hc) (kw_V (n := 1) hts k590 k587 k5 k588 k589 (by decide +kernel) ⟨Nat.le_of_ble_eq_true rfl, Nat.le_of_ble_eq_true rfl⟩) hE hw rfl rfl ho rfl hl.1.1 rfl (c1_8 c1_n (Nat.le_of_ble_eq_true rfl)) d12_2_26 (fun H locs cells slots hw => ?_)
          clear hc ho u9
          refine W.eq (g2 := F0 m 29 ls [.int x20]) rfl ?_
          refine lv_if_eq (tgt := 34) hx hb d12_2_29 rfl (fun c23 => ?_) (fun c23 => ?_)
          ·
            replace h := (if_pos c23).symm.trans h
            refine xq_aload_n (r := v15) hx hb d12_2_34 rfl (lv_at hl.1 2 rfl) ?_
            refine W.eq (g2 := F0 m 35 ls [.ref a17z]) (by rw [hn17]; rfl) ?_
            obtain ⟨x24, hr, h⟩ := ob h
            refine xg_q (ci := 11) (C := r_11) (T := f_11) (N := 6) (ref := "PagedValues$Value") hx hb hts (fun w h => List.mem_cons_of_mem _ (ly_11 w h)) hown hE hw rfl 5 (by decide) (hts _ (List.mem_cons_of_mem _ k361)) (fun _ h9 => h9) hr d12_2_35 ?_
            clear hr
            refine xt_astore_n (r := x24) (lv' := [(2, va_rf x24), (0, .ref o), (1, va_rf a0)]) hx hb d12_2_38 rfl hl (by decide) rfl (fun ls hl => ?_)
            refine lv_goto (tgt := 17) hx hb d12_2_39 rfl ?_
            have hl := lw_sub hl (l' := [(0, .ref o), (1, va_rf a0), (2, va_rf x24)]) [1, 2, 0] rfl
            exact ih _ h _ _ _ _ _ hl hw
          ·
            replace h := (if_neg c23).symm.trans h
            refine xq_aload_n (r := v15) hx hb d12_2_32 rfl (lv_at hl.1 2 rfl) ?_
            cases h
            cases hrest
            exact finH_q hQ hx hb hr hlk rfl (Or.inl ⟨_, rfl⟩) hE hw d12_2_33
    have hl := lw_sub hl (l' := [(0, .ref o), (1, va_rf a0), (2, va_rf x13)]) [1, 2, 0] rfl
    exact hloop _ _ hX _ _ _ _ _ hl hw
  ·
    replace h := (if_neg c12).symm.trans h
    refine lv_null hx hb d12_2_10 ?_
    cases h
    exact finH_q hQ hx hb hr hlk rfl (Or.inl ⟨_, rfl⟩) hE hw d12_2_11
theorem d12_3_0 : decode prog_12_method_3_code 0 = .ok (.aload_n 0, 1) := by decide +kernel
theorem d12_3_1 : decode prog_12_method_3_code 1 = .ok (.getfield 17, 3) := by decide +kernel
theorem d12_3_4 : decode prog_12_method_3_code 4 = .ok (.getstatic 46, 3) := by decide +kernel
theorem k827 : (Jvm.Cond.fieldLink "PagedValues$Value" (46 : Nat) "PagedValues$Kind" "ARRAY" "LPagedValues$Kind;") ∈ TB := tk_4 107 rfl rfl
theorem d12_3_7 : decode prog_12_method_3_code 7 = .ok (.if_acmp .eq 5, 3) := by decide +kernel
theorem d12_3_12 : decode prog_12_method_3_code 12 = .ok (.iconst 0, 1) := by decide +kernel
theorem d12_3_13 : decode prog_12_method_3_code 13 = .ok (.istore_n 2, 1) := by decide +kernel
theorem d12_3_14 : decode prog_12_method_3_code 14 = .ok (.aload_n 0, 1) := by decide +kernel
theorem d12_3_15 : decode prog_12_method_3_code 15 = .ok (.getfield 33, 3) := by decide +kernel
theorem d12_3_18 : decode prog_12_method_3_code 18 = .ok (.astore_n 3, 1) := by decide +kernel
theorem d12_3_41 : decode prog_12_method_3_code 41 = .ok (.aconst_null, 1) := by decide +kernel
theorem d12_3_42 : decode prog_12_method_3_code 42 = .ok (.areturn, 1) := by decide +kernel
theorem d12_3_19 : decode prog_12_method_3_code 19 = .ok (.aload_n 3, 1) := by decide +kernel
theorem d12_3_20 : decode prog_12_method_3_code 20 = .ok (.ifnull 21, 3) := by decide +kernel
theorem d12_3_23 : decode prog_12_method_3_code 23 = .ok (.iload_n 2, 1) := by decide +kernel
theorem d12_3_24 : decode prog_12_method_3_code 24 = .ok (.iload_n 1, 1) := by decide +kernel
theorem d12_3_25 : decode prog_12_method_3_code 25 = .ok (.if_icmp .ne 5, 3) := by decide +kernel
theorem d12_3_30 : decode prog_12_method_3_code 30 = .ok (.iinc 2 1, 3) := by decide +kernel
theorem d12_3_33 : decode prog_12_method_3_code 33 = .ok (.aload_n 3, 1) := by decide +kernel
theorem d12_3_34 : decode prog_12_method_3_code 34 = .ok (.getfield 43, 3) := by decide +kernel
theorem d12_3_37 : decode prog_12_method_3_code 37 = .ok (.astore_n 3, 1) := by decide +kernel
theorem d12_3_38 : decode prog_12_method_3_code 38 = .ok (.goto (-19), 3) := by decide +kernel
theorem d12_3_28 : decode prog_12_method_3_code 28 = .ok (.aload_n 3, 1) := by decide +kernel
theorem d12_3_29 : decode prog_12_method_3_code 29 = .ok (.areturn, 1) := by decide +kernel
theorem d12_3_10 : decode prog_12_method_3_code 10 = .ok (.aconst_null, 1) := by decide +kernel
theorem d12_3_11 : decode prog_12_method_3_code 11 = .ok (.areturn, 1) := by decide +kernel
def y12_3 : MethodName := { cls := "PagedValues$Value", name := "element", desc := "(I)LPagedValues$Value;" }
def c_Value_element_l1 (K : KE) (a0 : Int32) (st : CS) : Nat → (Int32 × Option Nat) → Option ((Option Nat) ⊕ (Int32 × Option Nat))
  | 0, _ => none
  | n9 + 1, e9 => nl e9.2 (some (.inr (e9.1, e9.2))) (fun a19z => if e9.1 = a0 then (some (.inl e9.2)) else ((some (e9.1 + 1)).bind fun y21 => (gQ K st a19z 11 5).bind fun x22 => c_Value_element_l1 K a0 st n9 (y21, x22)))
theorem c_Value_element_l1_s (K : KE) (a0 : Int32) (st : CS) (n9 : Nat) (e9 : Int32 × Option Nat) : c_Value_element_l1 K a0 st (n9 + 1) e9 = (nl e9.2 (some (.inr (e9.1, e9.2))) (fun a19z => if e9.1 = a0 then (some (.inl e9.2)) else ((some (e9.1 + 1)).bind fun y21 => (gQ K st a19z 11 5).bind fun x22 => c_Value_element_l1 K a0 st n9 (y21, x22)))) := rfl
def c_Value_element (Zd : Nat → Nat) (K : KE) (o : Nat) (a0 : Int32) (st : CS) : Option (Option Nat) := (gQ K st o 11 0).bind fun x11 => if x11 = some (Zd 13) then ((gQ K st o 11 4).bind fun x13 => (c_Value_element_l1 K a0 st 4096 ((0 : Int32), x13)).bind fun e14 => match e14 with | .inl o9 => some o9 | .inr e8 => some none) else (some none)
set_option maxHeartbeats 4000000 in
set_option maxRecDepth 100000 in
theorem cc_Value_element (l : Launch) (G : Gk) (Zd : Nat → Nat) (K : KE) (o : Nat) (a0 : Int32) (st : CS) (r0 : Option Nat) (hm : c_Value_element Zd K o a0 st = some r0) : CT l y12_3 prog_12_method_3_code 4 (some (.object "PagedValues$Value")) G Zd K (0) [.ref o, .int a0] st (hQ G Zd r0 st) := by
  refine goH (d := 0) (y := y12_3) (cc := prog_12_method_3_code) (maxL := 4) (ret := (some (.object "PagedValues$Value"))) (av := [.ref o, .int a0]) (Qc := hQ G Zd r0 st) "PagedValues$Value" rfl (by decide) (c1_c rfl (c1_c rfl c1_n)) (Nat.le_of_ble_eq_true rfl) ?_
  intro p e s m below meth c ls A args Q hQ hx hb hr hlk hml hown hts hin hl hE hw
  have hl : lw ls 4 [(0, .ref o), (1, .int a0)] := hl
  have hZ := hE.2.2.1
  have h := hm
  clear hm
  refine lv_aload_n hx hb d12_3_0 rfl (lv_at hl.1 0 rfl) ?_
  obtain ⟨x11, hr, h⟩ := ob h
  refine xg_q (ci := 11) (C := r_11) (T := f_11) (N := 6) (ref := "PagedValues$Value") hx hb hts (fun w h => List.mem_cons_of_mem _ (ly_11 w h)) hown hE hw rfl 0 (by decide) (hts _ (List.mem_cons_of_mem _ k349)) (fun _ h9 => h9) hr d12_3_1 ?_
  clear hr
  refine va_gets (ref := "PagedValues$Kind") hx hb (hZ.2.1.1.1 5 (by decide)).1 hw.2.2.2 hown (hts _ (List.mem_cons_of_mem _ k827)) (fun _ h9 => h9) d12_3_4 ?_
  refine W.eq (g2 := F0 m 7 ls [.ref (Zd 13), va_rf x11]) rfl ?_
  refine lv_acmp_eq (rx := x11) (ry := some (Zd 13)) (tgt := 12) hx hb d12_3_7 rfl (fun c12 => ?_) (fun c12 => ?_)
  ·
    replace h := (if_pos c12).symm.trans h
    refine lv_iconst (v := 0) hx hb d12_3_12 (by decide) ?_
    refine xt_istore_n (x := 0) (lv' := [(2, .int 0), (0, .ref o), (1, .int a0)]) hx hb d12_3_13 rfl hl (by decide) rfl (fun ls hl => ?_)
    refine lv_aload_n hx hb d12_3_14 rfl (lv_at hl.1 1 rfl) ?_
    obtain ⟨x13, hr, h⟩ := ob h
    refine xg_q (ci := 11) (C := r_11) (T := f_11) (N := 6) (ref := "PagedValues$Value") hx hb hts (fun w h => List.mem_cons_of_mem _ (ly_11 w h)) hown hE hw rfl 4 (by decide) (hts _ (List.mem_cons_of_mem _ k358)) (fun _ h9 => h9) hr d12_3_15 ?_
    clear hr
    refine xt_astore_n (r := x13) (lv' := [(3, va_rf x13), (2, .int 0), (0, .ref o), (1, .int a0)]) hx hb d12_3_18 rfl hl (by decide) rfl (fun ls hl => ?_)
    obtain ⟨e14, hX, hrest⟩ := ob h
    clear h
    have hj : ∀ (v17 : Int32) (v18 : Option Nat), e14 = .inr (v17, v18) → ∀ (H : Heap) (locs : List Loc) (cells slots : Nat) (ls : Array Slot), lw ls 4 [(0, .ref o), (1, .int a0), (2, .int v17), (3, va_rf v18)] → wsH G Zd A s st H locs → W p l e (rmH Zd (0) st.1) s m args below meth c H locs cells slots Q (F0 m 41 ls []) := by
      intro v17 v18 he H locs cells slots ls hl hw
      subst e14
      have h := hrest
      clear hrest
      refine lv_null hx hb d12_3_41 ?_
      cases h
      exact finH_q hQ hx hb hr hlk rfl (Or.inl ⟨_, rfl⟩) hE hw d12_3_42
    have hloop : ∀ (n9 : Nat) (v15 : Int32) (v16 : Option Nat), c_Value_element_l1 K a0 st n9 (v15, v16) = some e14 → ∀ (H : Heap) (locs : List Loc) (cells slots : Nat) (ls : Array Slot), lw ls 4 [(0, .ref o), (1, .int a0), (2, .int v15), (3, va_rf v16)] → wsH G Zd A s st H locs → W p l e (rmH Zd (0) st.1) s m args below meth c H locs cells slots Q (F0 m 19 ls []) := by
      intro n9
      induction n9 with
      | zero =>
        intro v15 v16 h
        cases h
      | succ n9 ih =>
        intro v15 v16 h H locs cells slots ls hl hw
        replace h := (c_Value_element_l1_s K a0 st n9 (v15, v16)).symm.trans h
        refine xq_aload_n (r := v16) hx hb d12_3_19 rfl (lv_at hl.1 3 rfl) ?_
        rcases nl_case h with ⟨hn19, h⟩ | ⟨a19z, hn19, h⟩
        ·
          have hn19 : v16 = none := hn19
          refine W.eq (g2 := F0 m 20 ls [.null]) (by rw [hn19]; rfl) ?_
          refine lv_ifnullN (tgt := 41) hx hb d12_3_20 rfl ?_
          have e9 := Option.some.inj h
          subst e14
          have hl := lw_sub hl (l' := [(0, .ref o), (1, .int a0), (2, .int v15), (3, va_rf v16)]) [0, 1, 2, 3] rfl
          exact hj _ _ rfl _ _ _ _ _ hl hw
        ·
          have hn19 : v16 = some a19z := hn19
          refine W.eq (g2 := F0 m 20 ls [.ref a19z]) (by rw [hn19]; rfl) ?_
          refine lv_ifnull hx hb d12_3_20 ?_
          refine lv_iload_n hx hb d12_3_23 rfl (lv_at hl.1 2 rfl) ?_
          refine lv_iload_n hx hb d12_3_24 rfl (lv_at hl.1 1 rfl) ?_
          refine lv_icmp_ne (tgt := 30) hx hb d12_3_25 rfl (fun c20 => ?_) (fun c20 => ?_)
          ·
            replace h := (if_neg c20).symm.trans h
            obtain ⟨y21, hr, h⟩ := ob h
            refine xt_iinc (k := 2) (v := y21) (lv' := [(2, .int y21), (0, .ref o), (1, .int a0), (3, va_rf v16)]) hx hb d12_3_30 hl rfl hr (by decide) rfl (fun ls hl => ?_)
            clear hr
            refine xq_aload_n (r := v16) hx hb d12_3_33 rfl (lv_at hl.1 3 rfl) ?_
            refine W.eq (g2 := F0 m 34 ls [.ref a19z]) (by rw [hn19]; rfl) ?_
            obtain ⟨x22, hr, h⟩ := ob h
            refine xg_q (ci := 11) (C := r_11) (T := f_11) (N := 6) (ref := "PagedValues$Value") hx hb hts (fun w h => List.mem_cons_of_mem _ (ly_11 w h)) hown hE hw rfl 5 (by decide) (hts _ (List.mem_cons_of_mem _ k361)) (fun _ h9 => h9) hr d12_3_34 ?_
            clear hr
            refine xt_astore_n (r := x22) (lv' := [(3, va_rf x22), (2, .int y21), (0, .ref o), (1, .int a0)]) hx hb d12_3_37 rfl hl (by decide) rfl (fun ls hl => ?_)
            refine lv_goto (tgt := 19) hx hb d12_3_38 rfl ?_
            have hl := lw_sub hl (l' := [(0, .ref o), (1, .int a0), (2, .int y21), (3, va_rf x22)]) [2, 3, 1, 0] rfl
            exact ih _ _ h _ _ _ _ _ hl hw
          ·
            replace h := (if_pos c20).symm.trans h
            refine xq_aload_n (r := v16) hx hb d12_3_28 rfl (lv_at hl.1 3 rfl) ?_
            cases h
            cases hrest
            exact finH_q hQ hx hb hr hlk rfl (Or.inl ⟨_, rfl⟩) hE hw d12_3_29
    have hl := lw_sub hl (l' := [(0, .ref o), (1, .int a0), (2, .int 0), (3, va_rf x13)]) [2, 3, 1, 0] rfl
    exact hloop _ _ _ hX _ _ _ _ _ hl hw
  ·
    replace h := (if_neg c12).symm.trans h
    refine lv_null hx hb d12_3_10 ?_
    cases h
    exact finH_q hQ hx hb hr hlk rfl (Or.inl ⟨_, rfl⟩) hE hw d12_3_11
theorem d12_4_0 : decode prog_12_method_4_code 0 = .ok (.iconst 0, 1) := by decide +kernel
theorem d12_4_1 : decode prog_12_method_4_code 1 = .ok (.istore_n 1, 1) := by decide +kernel
theorem d12_4_2 : decode prog_12_method_4_code 2 = .ok (.aload_n 0, 1) := by decide +kernel
theorem d12_4_3 : decode prog_12_method_4_code 3 = .ok (.getfield 33, 3) := by decide +kernel
theorem d12_4_6 : decode prog_12_method_4_code 6 = .ok (.astore_n 2, 1) := by decide +kernel
theorem d12_4_22 : decode prog_12_method_4_code 22 = .ok (.iload_n 1, 1) := by decide +kernel
theorem d12_4_23 : decode prog_12_method_4_code 23 = .ok (.ireturn, 1) := by decide +kernel
theorem d12_4_7 : decode prog_12_method_4_code 7 = .ok (.aload_n 2, 1) := by decide +kernel
theorem d12_4_8 : decode prog_12_method_4_code 8 = .ok (.ifnull 14, 3) := by decide +kernel
theorem d12_4_11 : decode prog_12_method_4_code 11 = .ok (.iinc 1 1, 3) := by decide +kernel
theorem d12_4_14 : decode prog_12_method_4_code 14 = .ok (.aload_n 2, 1) := by decide +kernel
theorem d12_4_15 : decode prog_12_method_4_code 15 = .ok (.getfield 43, 3) := by decide +kernel
theorem d12_4_18 : decode prog_12_method_4_code 18 = .ok (.astore_n 2, 1) := by decide +kernel
theorem d12_4_19 : decode prog_12_method_4_code 19 = .ok (.goto (-12), 3) := by decide +kernel
def y12_4 : MethodName := { cls := "PagedValues$Value", name := "partCount", desc := "()I" }
def c_Value_partCount_l1 (K : KE) (st : CS) : Nat → (Int32 × Option Nat) → Option (Int32 × Option Nat)
  | 0, _ => none
  | n9 + 1, e9 => nl e9.2 (some (e9.1, e9.2)) (fun a17z => (some (e9.1 + 1)).bind fun y18 => (gQ K st a17z 11 5).bind fun x19 => c_Value_partCount_l1 K st n9 (y18, x19))
theorem c_Value_partCount_l1_s (K : KE) (st : CS) (n9 : Nat) (e9 : Int32 × Option Nat) : c_Value_partCount_l1 K st (n9 + 1) e9 = (nl e9.2 (some (e9.1, e9.2)) (fun a17z => (some (e9.1 + 1)).bind fun y18 => (gQ K st a17z 11 5).bind fun x19 => c_Value_partCount_l1 K st n9 (y18, x19))) := rfl
def c_Value_partCount (Zd : Nat → Nat) (K : KE) (o : Nat) (st : CS) : Option (Int32) := (gQ K st o 11 4).bind fun x11 => (c_Value_partCount_l1 K st 4096 ((0 : Int32), x11)).bind fun e12 => some e12.1
set_option maxHeartbeats 4000000 in
set_option maxRecDepth 100000 in
theorem cc_Value_partCount (l : Launch) (G : Gk) (Zd : Nat → Nat) (K : KE) (o : Nat) (st : CS) (r0 : Int32) (hm : c_Value_partCount Zd K o st = some r0) : CT l y12_4 prog_12_method_4_code 3 (some .int) G Zd K (0) [.ref o] st (hI G Zd r0 st) := by
  refine goH (d := 0) (y := y12_4) (cc := prog_12_method_4_code) (maxL := 3) (ret := (some .int)) (av := [.ref o]) (Qc := hI G Zd r0 st) "PagedValues$Value" rfl (by decide) (c1_c rfl c1_n) (Nat.le_of_ble_eq_true rfl) ?_
  intro p e s m below meth c ls A args Q hQ hx hb hr hlk hml hown hts hin hl hE hw
  have hl : lw ls 3 [(0, .ref o)] := hl
  have hZ := hE.2.2.1
  have h := hm
  clear hm
  refine lv_iconst (v := 0) hx hb d12_4_0 (by decide) ?_
  refine xt_istore_n (x := 0) (lv' := [(1, .int 0), (0, .ref o)]) hx hb d12_4_1 rfl hl (by decide) rfl (fun ls hl => ?_)
  refine lv_aload_n hx hb d12_4_2 rfl (lv_at hl.1 1 rfl) ?_
  obtain ⟨x11, hr, h⟩ := ob h
  refine xg_q (ci := 11) (C := r_11) (T := f_11) (N := 6) (ref := "PagedValues$Value") hx hb hts (fun w h => List.mem_cons_of_mem _ (ly_11 w h)) hown hE hw rfl 4 (by decide) (hts _ (List.mem_cons_of_mem _ k358)) (fun _ h9 => h9) hr d12_4_3 ?_
  clear hr
  refine xt_astore_n (r := x11) (lv' := [(2, va_rf x11), (1, .int 0), (0, .ref o)]) hx hb d12_4_6 rfl hl (by decide) rfl (fun ls hl => ?_)
  obtain ⟨e12, hX, hrest⟩ := ob h
  clear h
  have hj : ∀ (v15 : Int32) (v16 : Option Nat), e12 = (v15, v16) → ∀ (H : Heap) (locs : List Loc) (cells slots : Nat) (ls : Array Slot), lw ls 3 [(0, .ref o), (1, .int v15), (2, va_rf v16)] → wsH G Zd A s st H locs → W p l e (rmH Zd (0) st.1) s m args below meth c H locs cells slots Q (F0 m 22 ls []) := by
    intro v15 v16 he H locs cells slots ls hl hw
    subst e12
    have h := hrest
    clear hrest
    refine lv_iload_n hx hb d12_4_22 rfl (lv_at hl.1 1 rfl) ?_
    cases h
    exact finH_i hQ hx hb hr hlk hE hw d12_4_23
  have hloop : ∀ (n9 : Nat) (v13 : Int32) (v14 : Option Nat), c_Value_partCount_l1 K st n9 (v13, v14) = some e12 → ∀ (H : Heap) (locs : List Loc) (cells slots : Nat) (ls : Array Slot), lw ls 3 [(0, .ref o), (1, .int v13), (2, va_rf v14)] → wsH G Zd A s st H locs → W p l e (rmH Zd (0) st.1) s m args below meth c H locs cells slots Q (F0 m 7 ls []) := by
    intro n9
    induction n9 with
    | zero =>
      intro v13 v14 h
      cases h
    | succ n9 ih =>
      intro v13 v14 h H locs cells slots ls hl hw
      replace h := (c_Value_partCount_l1_s K st n9 (v13, v14)).symm.trans h
      refine xq_aload_n (r := v14) hx hb d12_4_7 rfl (lv_at hl.1 2 rfl) ?_
      rcases nl_case h with ⟨hn17, h⟩ | ⟨a17z, hn17, h⟩
      ·
        have hn17 : v14 = none := hn17
        refine W.eq (g2 := F0 m 8 ls [.null]) (by rw [hn17]; rfl) ?_
        refine lv_ifnullN (tgt := 22) hx hb d12_4_8 rfl ?_
        have e9 := Option.some.inj h
        subst e12
        have hl := lw_sub hl (l' := [(0, .ref o), (1, .int v13), (2, va_rf v14)]) [0, 1, 2] rfl
        exact hj _ _ rfl _ _ _ _ _ hl hw
      ·
        have hn17 : v14 = some a17z := hn17
        refine W.eq (g2 := F0 m 8 ls [.ref a17z]) (by rw [hn17]; rfl) ?_
        refine lv_ifnull hx hb d12_4_8 ?_
        obtain ⟨y18, hr, h⟩ := ob h
        refine xt_iinc (k := 1) (v := y18) (lv' := [(1, .int y18), (0, .ref o), (2, va_rf v14)]) hx hb d12_4_11 hl rfl hr (by decide) rfl (fun ls hl => ?_)
        clear hr
        refine xq_aload_n (r := v14) hx hb d12_4_14 rfl (lv_at hl.1 2 rfl) ?_
        refine W.eq (g2 := F0 m 15 ls [.ref a17z]) (by rw [hn17]; rfl) ?_
        obtain ⟨x19, hr, h⟩ := ob h
        refine xg_q (ci := 11) (C := r_11) (T := f_11) (N := 6) (ref := "PagedValues$Value") hx hb hts (fun w h => List.mem_cons_of_mem _ (ly_11 w h)) hown hE hw rfl 5 (by decide) (hts _ (List.mem_cons_of_mem _ k361)) (fun _ h9 => h9) hr d12_4_15 ?_
        clear hr
        refine xt_astore_n (r := x19) (lv' := [(2, va_rf x19), (1, .int y18), (0, .ref o)]) hx hb d12_4_18 rfl hl (by decide) rfl (fun ls hl => ?_)
        refine lv_goto (tgt := 7) hx hb d12_4_19 rfl ?_
        have hl := lw_sub hl (l' := [(0, .ref o), (1, .int y18), (2, va_rf x19)]) [2, 1, 0] rfl
        exact ih _ _ h _ _ _ _ _ hl hw
  have hl := lw_sub hl (l' := [(0, .ref o), (1, .int 0), (2, va_rf x11)]) [2, 1, 0] rfl
  exact hloop _ _ _ hX _ _ _ _ _ hl hw
theorem d12_5_0 : decode prog_12_method_5_code 0 = .ok (.iload_n 1, 1) := by decide +kernel
theorem d12_5_1 : decode prog_12_method_5_code 1 = .ok (.ifCond .le 10, 3) := by decide +kernel
theorem d12_5_11 : decode prog_12_method_5_code 11 = .ok (.aload_n 2, 1) := by decide +kernel
theorem d12_5_12 : decode prog_12_method_5_code 12 = .ok (.aload_n 0, 1) := by decide +kernel
theorem d12_5_13 : decode prog_12_method_5_code 13 = .ok (.getfield 33, 3) := by decide +kernel
theorem d12_5_16 : decode prog_12_method_5_code 16 = .ok (.putfield 43, 3) := by decide +kernel
theorem d12_5_19 : decode prog_12_method_5_code 19 = .ok (.aload_n 0, 1) := by decide +kernel
theorem d12_5_20 : decode prog_12_method_5_code 20 = .ok (.aload_n 2, 1) := by decide +kernel
theorem d12_5_21 : decode prog_12_method_5_code 21 = .ok (.putfield 33, 3) := by decide +kernel
theorem d12_5_24 : decode prog_12_method_5_code 24 = .ok (.return_, 1) := by decide +kernel
theorem d12_5_4 : decode prog_12_method_5_code 4 = .ok (.aload_n 0, 1) := by decide +kernel
theorem d12_5_5 : decode prog_12_method_5_code 5 = .ok (.getfield 33, 3) := by decide +kernel
theorem d12_5_8 : decode prog_12_method_5_code 8 = .ok (.ifnonnull 17, 3) := by decide +kernel
theorem d12_5_25 : decode prog_12_method_5_code 25 = .ok (.aload_n 0, 1) := by decide +kernel
theorem d12_5_26 : decode prog_12_method_5_code 26 = .ok (.getfield 33, 3) := by decide +kernel
theorem d12_5_29 : decode prog_12_method_5_code 29 = .ok (.astore_n 3, 1) := by decide +kernel
theorem d12_5_30 : decode prog_12_method_5_code 30 = .ok (.iconst 1, 1) := by decide +kernel
theorem d12_5_31 : decode prog_12_method_5_code 31 = .ok (.istore 4, 2) := by decide +kernel
theorem d12_5_57 : decode prog_12_method_5_code 57 = .ok (.aload_n 2, 1) := by decide +kernel
theorem d12_5_58 : decode prog_12_method_5_code 58 = .ok (.aload_n 3, 1) := by decide +kernel
theorem d12_5_59 : decode prog_12_method_5_code 59 = .ok (.getfield 43, 3) := by decide +kernel
theorem d12_5_62 : decode prog_12_method_5_code 62 = .ok (.putfield 43, 3) := by decide +kernel
theorem d12_5_65 : decode prog_12_method_5_code 65 = .ok (.aload_n 3, 1) := by decide +kernel
theorem d12_5_66 : decode prog_12_method_5_code 66 = .ok (.aload_n 2, 1) := by decide +kernel
theorem d12_5_67 : decode prog_12_method_5_code 67 = .ok (.putfield 43, 3) := by decide +kernel
theorem d12_5_70 : decode prog_12_method_5_code 70 = .ok (.return_, 1) := by decide +kernel
theorem d12_5_33 : decode prog_12_method_5_code 33 = .ok (.iload 4, 2) := by decide +kernel
theorem d12_5_35 : decode prog_12_method_5_code 35 = .ok (.iload_n 1, 1) := by decide +kernel
theorem d12_5_36 : decode prog_12_method_5_code 36 = .ok (.if_icmp .ge 21, 3) := by decide +kernel
theorem d12_5_39 : decode prog_12_method_5_code 39 = .ok (.aload_n 3, 1) := by decide +kernel
theorem d12_5_40 : decode prog_12_method_5_code 40 = .ok (.getfield 43, 3) := by decide +kernel
theorem d12_5_43 : decode prog_12_method_5_code 43 = .ok (.ifnull 14, 3) := by decide +kernel
theorem d12_5_46 : decode prog_12_method_5_code 46 = .ok (.aload_n 3, 1) := by decide +kernel
theorem d12_5_47 : decode prog_12_method_5_code 47 = .ok (.getfield 43, 3) := by decide +kernel
theorem d12_5_50 : decode prog_12_method_5_code 50 = .ok (.astore_n 3, 1) := by decide +kernel
theorem d12_5_51 : decode prog_12_method_5_code 51 = .ok (.iinc 4 1, 3) := by decide +kernel
theorem d12_5_54 : decode prog_12_method_5_code 54 = .ok (.goto (-21), 3) := by decide +kernel
def y12_5 : MethodName := { cls := "PagedValues$Value", name := "insert", desc := "(ILPagedValues$Value;)V" }
def c_Value_insert_l1 (K : KE) (a0 : Int32) (st : CS) : Nat → (Option Nat × Int32) → Option (Option Nat × Int32)
  | 0, _ => none
  | n9 + 1, e9 => if a0 ≤ e9.2 then (some (e9.1, e9.2)) else (e9.1.bind fun a34z => (gQ K st a34z 11 5).bind fun x35 => nl x35 (some (e9.1, e9.2)) (fun a36z => (gQ K st a34z 11 5).bind fun x37 => (some (e9.2 + 1)).bind fun y38 => c_Value_insert_l1 K a0 st n9 (x37, y38)))
theorem c_Value_insert_l1_s (K : KE) (a0 : Int32) (st : CS) (n9 : Nat) (e9 : Option Nat × Int32) : c_Value_insert_l1 K a0 st (n9 + 1) e9 = (if a0 ≤ e9.2 then (some (e9.1, e9.2)) else (e9.1.bind fun a34z => (gQ K st a34z 11 5).bind fun x35 => nl x35 (some (e9.1, e9.2)) (fun a36z => (gQ K st a34z 11 5).bind fun x37 => (some (e9.2 + 1)).bind fun y38 => c_Value_insert_l1 K a0 st n9 (x37, y38)))) := rfl
def c_Value_insert (Zd : Nat → Nat) (K : KE) (o : Nat) (a0 : Int32) (a1 : Option Nat) (st : CS) : Option (CS) := if a0 ≤ (0 : Int32) then ((gQ K st o 11 4).bind fun x12 => a1.bind fun a13z => (sF st a13z 11 5 (va_rf x12)).bind fun st14 => (sF st14 o 11 4 (va_rf a1)).bind fun st15 => some st15) else ((gQ K st o 11 4).bind fun x16 => nl x16 ((gQ K st o 11 4).bind fun x18 => a1.bind fun a19z => (sF st a19z 11 5 (va_rf x18)).bind fun st20 => (sF st20 o 11 4 (va_rf a1)).bind fun st21 => some st21) (fun a17z => (gQ K st o 11 4).bind fun x22 => (c_Value_insert_l1 K a0 st 4096 (x22, (1 : Int32))).bind fun e23 => e23.1.bind fun a28z => (gQ K st a28z 11 5).bind fun x29 => a1.bind fun a30z => (sF st a30z 11 5 (va_rf x29)).bind fun st31 => (sF st31 a28z 11 5 (va_rf a1)).bind fun st32 => some st32))
set_option maxHeartbeats 4000000 in
set_option maxRecDepth 100000 in
theorem cc_Value_insert (l : Launch) (G : Gk) (Zd : Nat → Nat) (K : KE) (o : Nat) (a0 : Int32) (a1 : Option Nat) (st : CS) (st0 : CS) (hm : c_Value_insert Zd K o a0 a1 st = some st0) : CT l y12_5 prog_12_method_5_code 5 none G Zd K (0) [.ref o, .int a0, va_rf a1] st (hV G Zd st0) := by
  refine goH (d := 0) (y := y12_5) (cc := prog_12_method_5_code) (maxL := 5) (ret := none) (av := [.ref o, .int a0, va_rf a1]) (Qc := hV G Zd st0) "PagedValues$Value" rfl (by decide) (c1_c rfl (c1_c rfl (c1_c (rf_cat _) c1_n))) (Nat.le_of_ble_eq_true rfl) ?_
  intro p e s m below meth c ls A args Q hQ hx hb hr hlk hml hown hts hin hl hE hw
  have hl : lw ls 5 [(0, .ref o), (1, .int a0), (2, va_rf a1)] := hl
  have hZ := hE.2.2.1
  have h := hm
  clear hm
  refine lv_iload_n hx hb d12_5_0 rfl (lv_at hl.1 1 rfl) ?_
  refine lv_if_le (tgt := 11) hx hb d12_5_1 rfl (fun c11 => ?_) (fun c11 => ?_)
  ·
    replace h := (if_pos c11).symm.trans h
    refine xq_aload_n (r := a1) hx hb d12_5_11 rfl (lv_at hl.1 2 rfl) ?_
    refine lv_aload_n hx hb d12_5_12 rfl (lv_at hl.1 0 rfl) ?_
    obtain ⟨x12, hr, h⟩ := ob h
    refine xg_q (ci := 11) (C := r_11) (T := f_11) (N := 6) (ref := "PagedValues$Value") hx hb hts (fun w h => List.mem_cons_of_mem _ (ly_11 w h)) hown hE hw rfl 4 (by decide) (hts _ (List.mem_cons_of_mem _ k358)) (fun _ h9 => h9) hr d12_5_13 ?_
    clear hr
    obtain ⟨a13z, hn13, h⟩ := ob h
    have hn13 : a1 = some a13z := hn13
    refine W.eq (g2 := F0 m 16 ls [va_rf x12, .ref a13z]) (by rw [hn13]; rfl) ?_
    obtain ⟨st14, hr, h⟩ := ob h
    refine xp (ci := 11) (ty := (ft_11 5)) (C := r_11) (T := f_11) (N := 6) (ref := "PagedValues$Value") hx hb hts (fun w h => List.mem_cons_of_mem _ (ly_11 w h)) ft_11 ft_11_ok nm_11 hown hE hw rfl 5 (by decide) (hts _ (List.mem_cons_of_mem _ k361)) (fun _ h9 => h9) rfl hr (by decide +kernel) (rf_narO _) (rf_fitO _) d12_5_16 (fun H locs hw => ?_)
    clear hr
    refine lv_aload_n hx hb d12_5_19 rfl (lv_at hl.1 0 rfl) ?_
    refine xq_aload_n (r := a1) hx hb d12_5_20 rfl (lv_at hl.1 2 rfl) ?_
    obtain ⟨st15, hr, h⟩ := ob h
    refine xp (ci := 11) (ty := (ft_11 4)) (C := r_11) (T := f_11) (N := 6) (ref := "PagedValues$Value") hx hb hts (fun w h => List.mem_cons_of_mem _ (ly_11 w h)) ft_11 ft_11_ok nm_11 hown hE hw rfl 4 (by decide) (hts _ (List.mem_cons_of_mem _ k358)) (fun _ h9 => h9) rfl hr (by decide +kernel) (rf_narO _) (rf_fitO _) d12_5_21 (fun H locs hw => ?_)
    clear hr
    cases h
    exact finH_v hQ hx hb hr hlk hE hw d12_5_24
  ·
    replace h := (if_neg c11).symm.trans h
    refine lv_aload_n hx hb d12_5_4 rfl (lv_at hl.1 0 rfl) ?_
    obtain ⟨x16, hr, h⟩ := ob h
    refine xg_q (ci := 11) (C := r_11) (T := f_11) (N := 6) (ref := "PagedValues$Value") hx hb hts (fun w h => List.mem_cons_of_mem _ (ly_11 w h)) hown hE hw rfl 4 (by decide) (hts _ (List.mem_cons_of_mem _ k358)) (fun _ h9 => h9) hr d12_5_5 ?_
    clear hr
    rcases nl_case h with ⟨hn17, h⟩ | ⟨a17z, hn17, h⟩
    ·
      have hn17 : x16 = none := hn17
      refine W.eq (g2 := F0 m 8 ls [.null]) (by rw [hn17]; rfl) ?_
      refine lv_ifnonnullN hx hb d12_5_8 ?_
      refine xq_aload_n (r := a1) hx hb d12_5_11 rfl (lv_at hl.1 2 rfl) ?_
      refine lv_aload_n hx hb d12_5_12 rfl (lv_at hl.1 0 rfl) ?_
      obtain ⟨x18, hr, h⟩ := ob h
      refine xg_q (ci := 11) (C := r_11) (T := f_11) (N := 6) (ref := "PagedValues$Value") hx hb hts (fun w h => List.mem_cons_of_mem _ (ly_11 w h)) hown hE hw rfl 4 (by decide) (hts _ (List.mem_cons_of_mem _ k358)) (fun _ h9 => h9) hr d12_5_13 ?_
      clear hr
      obtain ⟨a19z, hn19, h⟩ := ob h
      have hn19 : a1 = some a19z := hn19
      refine W.eq (g2 := F0 m 16 ls [va_rf x18, .ref a19z]) (by rw [hn19]; rfl) ?_
      obtain ⟨st20, hr, h⟩ := ob h
      refine xp (ci := 11) (ty := (ft_11 5)) (C := r_11) (T := f_11) (N := 6) (ref := "PagedValues$Value") hx hb hts (fun w h => List.mem_cons_of_mem _ (ly_11 w h)) ft_11 ft_11_ok nm_11 hown hE hw rfl 5 (by decide) (hts _ (List.mem_cons_of_mem _ k361)) (fun _ h9 => h9) rfl hr (by decide +kernel) (rf_narO _) (rf_fitO _) d12_5_16 (fun H locs hw => ?_)
      clear hr
      refine lv_aload_n hx hb d12_5_19 rfl (lv_at hl.1 0 rfl) ?_
      refine xq_aload_n (r := a1) hx hb d12_5_20 rfl (lv_at hl.1 2 rfl) ?_
      obtain ⟨st21, hr, h⟩ := ob h
      refine xp (ci := 11) (ty := (ft_11 4)) (C := r_11) (T := f_11) (N := 6) (ref := "PagedValues$Value") hx hb hts (fun w h => List.mem_cons_of_mem _ (ly_11 w h)) ft_11 ft_11_ok nm_11 hown hE hw rfl 4 (by decide) (hts _ (List.mem_cons_of_mem _ k358)) (fun _ h9 => h9) rfl hr (by decide +kernel) (rf_narO _) (rf_fitO _) d12_5_21 (fun H locs hw => ?_)
      clear hr
      cases h
      exact finH_v hQ hx hb hr hlk hE hw d12_5_24
    ·
      have hn17 : x16 = some a17z := hn17
      refine W.eq (g2 := F0 m 8 ls [.ref a17z]) (by rw [hn17]; rfl) ?_
      refine lv_ifnonnull (tgt := 25) hx hb d12_5_8 rfl ?_
      refine lv_aload_n hx hb d12_5_25 rfl (lv_at hl.1 0 rfl) ?_
      obtain ⟨x22, hr, h⟩ := ob h
      refine xg_q (ci := 11) (C := r_11) (T := f_11) (N := 6) (ref := "PagedValues$Value") hx hb hts (fun w h => List.mem_cons_of_mem _ (ly_11 w h)) hown hE hw rfl 4 (by decide) (hts _ (List.mem_cons_of_mem _ k358)) (fun _ h9 => h9) hr d12_5_26 ?_
      clear hr
      refine xt_astore_n (r := x22) (lv' := [(3, va_rf x22), (0, .ref o), (1, .int a0), (2, va_rf a1)]) hx hb d12_5_29 rfl hl (by decide) rfl (fun ls hl => ?_)
      refine lv_iconst (v := 1) hx hb d12_5_30 (by decide) ?_
      refine xt_istore (x := 1) (lv' := [(4, .int 1), (3, va_rf x22), (0, .ref o), (1, .int a0), (2, va_rf a1)]) hx hb d12_5_31 hl (by decide) rfl (fun ls hl => ?_)
      obtain ⟨e23, hX, hrest⟩ := ob h
      clear h
      have hj : ∀ (v26 : Option Nat) (v27 : Int32), e23 = (v26, v27) → ∀ (H : Heap) (locs : List Loc) (cells slots : Nat) (ls : Array Slot), lw ls 5 [(0, .ref o), (1, .int a0), (2, va_rf a1), (3, va_rf v26), (4, .int v27)] → wsH G Zd A s st H locs → W p l e (rmH Zd (0) st.1) s m args below meth c H locs cells slots Q (F0 m 57 ls []) := by
        intro v26 v27 he H locs cells slots ls hl hw
        subst e23
        have h := hrest
        clear hrest
        refine xq_aload_n (r := a1) hx hb d12_5_57 rfl (lv_at hl.1 2 rfl) ?_
        refine xq_aload_n (r := v26) hx hb d12_5_58 rfl (lv_at hl.1 3 rfl) ?_
        obtain ⟨a28z, hn28, h⟩ := ob h
        have hn28 : v26 = some a28z := hn28
        refine W.eq (g2 := F0 m 59 ls [.ref a28z, va_rf a1]) (by rw [hn28]; rfl) ?_
        obtain ⟨x29, hr, h⟩ := ob h
        refine xg_q (ci := 11) (C := r_11) (T := f_11) (N := 6) (ref := "PagedValues$Value") hx hb hts (fun w h => List.mem_cons_of_mem _ (ly_11 w h)) hown hE hw rfl 5 (by decide) (hts _ (List.mem_cons_of_mem _ k361)) (fun _ h9 => h9) hr d12_5_59 ?_
        clear hr
        obtain ⟨a30z, hn30, h⟩ := ob h
        have hn30 : a1 = some a30z := hn30
        refine W.eq (g2 := F0 m 62 ls [va_rf x29, .ref a30z]) (by rw [hn30]; rfl) ?_
        obtain ⟨st31, hr, h⟩ := ob h
        refine xp (ci := 11) (ty := (ft_11 5)) (C := r_11) (T := f_11) (N := 6) (ref := "PagedValues$Value") hx hb hts (fun w h => List.mem_cons_of_mem _ (ly_11 w h)) ft_11 ft_11_ok nm_11 hown hE hw rfl 5 (by decide) (hts _ (List.mem_cons_of_mem _ k361)) (fun _ h9 => h9) rfl hr (by decide +kernel) (rf_narO _) (rf_fitO _) d12_5_62 (fun H locs hw => ?_)
        clear hr
        refine xq_aload_n (r := v26) hx hb d12_5_65 rfl (lv_at hl.1 3 rfl) ?_
        refine xq_aload_n (r := a1) hx hb d12_5_66 rfl (lv_at hl.1 2 rfl) ?_
        refine W.eq (g2 := F0 m 67 ls [va_rf a1, .ref a28z]) (by rw [hn28]; rfl) ?_
        obtain ⟨st32, hr, h⟩ := ob h
        refine xp (ci := 11) (ty := (ft_11 5)) (C := r_11) (T := f_11) (N := 6) (ref := "PagedValues$Value") hx hb hts (fun w h => List.mem_cons_of_mem _ (ly_11 w h)) ft_11 ft_11_ok nm_11 hown hE hw rfl 5 (by decide) (hts _ (List.mem_cons_of_mem _ k361)) (fun _ h9 => h9) rfl hr (by decide +kernel) (rf_narO _) (rf_fitO _) d12_5_67 (fun H locs hw => ?_)
        clear hr
        cases h
        exact finH_v hQ hx hb hr hlk hE hw d12_5_70
      have hloop : ∀ (n9 : Nat) (v24 : Option Nat) (v25 : Int32), c_Value_insert_l1 K a0 st n9 (v24, v25) = some e23 → ∀ (H : Heap) (locs : List Loc) (cells slots : Nat) (ls : Array Slot), lw ls 5 [(0, .ref o), (1, .int a0), (2, va_rf a1), (3, va_rf v24), (4, .int v25)] → wsH G Zd A s st H locs → W p l e (rmH Zd (0) st.1) s m args below meth c H locs cells slots Q (F0 m 33 ls []) := by
        intro n9
        induction n9 with
        | zero =>
          intro v24 v25 h
          cases h
        | succ n9 ih =>
          intro v24 v25 h H locs cells slots ls hl hw
          replace h := (c_Value_insert_l1_s K a0 st n9 (v24, v25)).symm.trans h
          refine lv_iload hx hb d12_5_33 (lv_at hl.1 4 rfl) ?_
          refine lv_iload_n hx hb d12_5_35 rfl (lv_at hl.1 1 rfl) ?_
          refine lv_icmp_ge (tgt := 57) hx hb d12_5_36 rfl (fun c33 => ?_) (fun c33 => ?_)
          ·
            replace h := (if_pos c33).symm.trans h
            have e9 := Option.some.inj h
            subst e23
            have hl := lw_sub hl (l' := [(0, .ref o), (1, .int a0), (2, va_rf a1), (3, va_rf v24), (4, .int v25)]) [0, 1, 2, 3, 4] rfl
            exact hj _ _ rfl _ _ _ _ _ hl hw
          ·
            replace h := (if_neg c33).symm.trans h
            refine xq_aload_n (r := v24) hx hb d12_5_39 rfl (lv_at hl.1 3 rfl) ?_
            obtain ⟨a34z, hn34, h⟩ := ob h
            have hn34 : v24 = some a34z := hn34
            refine W.eq (g2 := F0 m 40 ls [.ref a34z]) (by rw [hn34]; rfl) ?_
            obtain ⟨x35, hr, h⟩ := ob h
            refine xg_q (ci := 11) (C := r_11) (T := f_11) (N := 6) (ref := "PagedValues$Value") hx hb hts (fun w h => List.mem_cons_of_mem _ (ly_11 w h)) hown hE hw rfl 5 (by decide) (hts _ (List.mem_cons_of_mem _ k361)) (fun _ h9 => h9) hr d12_5_40 ?_
            clear hr
            rcases nl_case h with ⟨hn36, h⟩ | ⟨a36z, hn36, h⟩
            ·
              have hn36 : x35 = none := hn36
              refine W.eq (g2 := F0 m 43 ls [.null]) (by rw [hn36]; rfl) ?_
              refine lv_ifnullN (tgt := 57) hx hb d12_5_43 rfl ?_
              have e9 := Option.some.inj h
              subst e23
              have hl := lw_sub hl (l' := [(0, .ref o), (1, .int a0), (2, va_rf a1), (3, va_rf v24), (4, .int v25)]) [0, 1, 2, 3, 4] rfl
              exact hj _ _ rfl _ _ _ _ _ hl hw
            ·
              have hn36 : x35 = some a36z := hn36
              refine W.eq (g2 := F0 m 43 ls [.ref a36z]) (by rw [hn36]; rfl) ?_
              refine lv_ifnull hx hb d12_5_43 ?_
              refine xq_aload_n (r := v24) hx hb d12_5_46 rfl (lv_at hl.1 3 rfl) ?_
              refine W.eq (g2 := F0 m 47 ls [.ref a34z]) (by rw [hn34]; rfl) ?_
              obtain ⟨x37, hr, h⟩ := ob h
              refine xg_q (ci := 11) (C := r_11) (T := f_11) (N := 6) (ref := "PagedValues$Value") hx hb hts (fun w h => List.mem_cons_of_mem _ (ly_11 w h)) hown hE hw rfl 5 (by decide) (hts _ (List.mem_cons_of_mem _ k361)) (fun _ h9 => h9) hr d12_5_47 ?_
              clear hr
              refine xt_astore_n (r := x37) (lv' := [(3, va_rf x37), (0, .ref o), (1, .int a0), (2, va_rf a1), (4, .int v25)]) hx hb d12_5_50 rfl hl (by decide) rfl (fun ls hl => ?_)
              obtain ⟨y38, hr, h⟩ := ob h
              refine xt_iinc (k := 4) (v := y38) (lv' := [(4, .int y38), (3, va_rf x37), (0, .ref o), (1, .int a0), (2, va_rf a1)]) hx hb d12_5_51 hl rfl hr (by decide) rfl (fun ls hl => ?_)
              clear hr
              refine lv_goto (tgt := 33) hx hb d12_5_54 rfl ?_
              have hl := lw_sub hl (l' := [(0, .ref o), (1, .int a0), (2, va_rf a1), (3, va_rf x37), (4, .int y38)]) [2, 3, 4, 1, 0] rfl
              exact ih _ _ h _ _ _ _ _ hl hw
      have hl := lw_sub hl (l' := [(0, .ref o), (1, .int a0), (2, va_rf a1), (3, va_rf x22), (4, .int 1)]) [2, 3, 4, 1, 0] rfl
      exact hloop _ _ _ hX _ _ _ _ _ hl hw
theorem d12_6_0 : decode prog_12_method_6_code 0 = .ok (.aload_n 0, 1) := by decide +kernel
theorem d12_6_1 : decode prog_12_method_6_code 1 = .ok (.aload_n 0, 1) := by decide +kernel
theorem d12_6_2 : decode prog_12_method_6_code 2 = .ok (.invokevirtual 49, 3) := by decide +kernel
theorem k606 : (Jvm.Cond.code ({ cls := "PagedValues$Value", name := "partCount", desc := "()I" } : Jvm.MethodName) prog_12_method_4_code (3 : Nat) (Option.some Jvm.ClassFile.FieldType.int)) ∈ TB := tk_3 126 rfl rfl
theorem k18 : (Jvm.Cond.initialized "PagedValues$Value") ∈ TB := tk_1 18 rfl rfl
theorem k603 : (Jvm.Cond.methodLink "PagedValues$Value" (49 : Nat) ({ cls := "PagedValues$Value", name := "partCount", desc := "()I" } : Jvm.MethodName)) ∈ TB := tk_3 123 rfl rfl
theorem k604 : (Jvm.Cond.instanceMethod ({ cls := "PagedValues$Value", name := "partCount", desc := "()I" } : Jvm.MethodName)) ∈ TB := tk_3 124 rfl rfl
theorem k605 : (Jvm.Cond.selects "PagedValues$Value" ({ cls := "PagedValues$Value", name := "partCount", desc := "()I" } : Jvm.MethodName) ({ cls := "PagedValues$Value", name := "partCount", desc := "()I" } : Jvm.MethodName)) ∈ TB := tk_3 125 rfl rfl
theorem d12_6_5 : decode prog_12_method_6_code 5 = .ok (.aload_n 1, 1) := by decide +kernel
theorem d12_6_6 : decode prog_12_method_6_code 6 = .ok (.invokevirtual 53, 3) := by decide +kernel
theorem k610 : (Jvm.Cond.code ({ cls := "PagedValues$Value", name := "insert", desc := "(ILPagedValues$Value;)V" } : Jvm.MethodName) prog_12_method_5_code (5 : Nat) (Option.none : Option Jvm.ClassFile.FieldType)) ∈ TB := tk_3 130 rfl rfl
theorem k607 : (Jvm.Cond.methodLink "PagedValues$Value" (53 : Nat) ({ cls := "PagedValues$Value", name := "insert", desc := "(ILPagedValues$Value;)V" } : Jvm.MethodName)) ∈ TB := tk_3 127 rfl rfl
theorem k608 : (Jvm.Cond.instanceMethod ({ cls := "PagedValues$Value", name := "insert", desc := "(ILPagedValues$Value;)V" } : Jvm.MethodName)) ∈ TB := tk_3 128 rfl rfl
theorem k609 : (Jvm.Cond.selects "PagedValues$Value" ({ cls := "PagedValues$Value", name := "insert", desc := "(ILPagedValues$Value;)V" } : Jvm.MethodName) ({ cls := "PagedValues$Value", name := "insert", desc := "(ILPagedValues$Value;)V" } : Jvm.MethodName)) ∈ TB := tk_3 129 rfl rfl
theorem d12_6_9 : decode prog_12_method_6_code 9 = .ok (.return_, 1) := by decide +kernel
def y12_6 : MethodName := { cls := "PagedValues$Value", name := "append", desc := "(LPagedValues$Value;)V" }
def c_Value_append (Zd : Nat → Nat) (K : KE) (o : Nat) (a0 : Option Nat) (st : CS) : Option (CS) := (isO K st o 11).bind fun _ => (c_Value_partCount Zd K o st).bind fun x11 => (isO K st o 11).bind fun _ => (c_Value_insert Zd K o x11 a0 st).bind fun st15 => some st15
set_option maxHeartbeats 4000000 in
set_option maxRecDepth 100000 in
theorem cc_Value_append (l : Launch) (G : Gk) (Zd : Nat → Nat) (K : KE) (o : Nat) (a0 : Option Nat) (st : CS) (st0 : CS) (hm : c_Value_append Zd K o a0 st = some st0) : CT l y12_6 prog_12_method_6_code 2 none G Zd K (1) [.ref o, va_rf a0] st (hV G Zd st0) := by
  refine goH (d := 1) (y := y12_6) (cc := prog_12_method_6_code) (maxL := 2) (ret := none) (av := [.ref o, va_rf a0]) (Qc := hV G Zd st0) "PagedValues$Value" rfl (by decide) (c1_c rfl (c1_c (rf_cat _) c1_n)) (Nat.le_of_ble_eq_true rfl) ?_
  intro p e s m below meth c ls A args Q hQ hx hb hr hlk hml hown hts hin hl hE hw
  have hl : lw ls 2 [(0, .ref o), (1, va_rf a0)] := hl
  have hZ := hE.2.2.1
  have h := hm
  clear hm
  refine lv_aload_n hx hb d12_6_0 rfl (lv_at hl.1 0 rfl) ?_
  refine lv_aload_n hx hb d12_6_1 rfl (lv_at hl.1 0 rfl) ?_
  obtain ⟨u9, ho, h⟩ := ob h
  obtain ⟨x11, hc, h⟩ := ob h
  refine hV_i (ci := 11) (As := []) (rest := [.ref o]) ⟨hx, hb, hml, hown, hts⟩ (cc_Value_partCount l G Zd K o st x11 hc) (kw_V (n := 0) hts k606 k603 k18 k604 k605 (by decide +kernel) ⟨Nat.le_of_ble_eq_true rfl, Nat.le_of_ble_eq_true rfl⟩) hE hw rfl rfl ho rfl hl.1.1 rfl (c1_8 (c1_c rfl c1_n) (Nat.le_of_ble_eq_true rfl)) d12_6_2 (fun H locs cells slots hw => ?_)
  clear hc ho u9
  refine W.eq (g2 := F0 m 5 ls [.int x11, .ref o]) rfl ?_
  refine xq_aload_n (r := a0) hx hb d12_6_5 rfl (lv_at hl.1 1 rfl) ?_
  obtain ⟨u9, ho, h⟩ := ob h
  obtain ⟨st15, hc, h⟩ := ob h
  refine hV_v (ci := 11) (As := [.int x11, va_rf a0]) (rest := []) ⟨hx, hb, hml, hown, hts⟩ (cc_Value_insert l G Zd K o x11 a0 st st15 hc) (kw_V (n := 2) hts k610 k607 k18 k608 k609 (by decide +kernel) ⟨Nat.le_of_ble_eq_true rfl, Nat.le_of_ble_eq_true rfl⟩) hE hw rfl rfl ho rfl hl.1.1 rfl (c1_8 c1_n (Nat.le_of_ble_eq_true rfl)) d12_6_6 (fun H locs cells slots hw => ?_)
  clear hc ho u9
  refine W.eq (g2 := F0 m 9 ls []) rfl ?_
  cases h
  exact finH_v hQ hx hb hr hlk hE hw d12_6_9
