theorem d1_7_0 : decode prog_1_method_7_code 0 = .ok (.aload_n 0, 1) := by decide +kernel
theorem d1_7_1 : decode prog_1_method_7_code 1 = .ok (.getfield 40, 3) := by decide +kernel
theorem d1_7_4 : decode prog_1_method_7_code 4 = .ok (.iload_n 1, 1) := by decide +kernel
theorem d1_7_5 : decode prog_1_method_7_code 5 = .ok (.invokevirtual 136, 3) := by decide +kernel
theorem d3_3_0 : decode prog_3_method_3_code 0 = .ok (.iload_n 1, 1) := by decide +kernel
theorem d3_3_1 : decode prog_3_method_3_code 1 = .ok (.ifCond .lt 15, 3) := by decide +kernel
theorem d3_3_16 : decode prog_3_method_3_code 16 = .ok (.iconst 0, 1) := by decide +kernel
theorem d3_3_4 : decode prog_3_method_3_code 4 = .ok (.iload_n 1, 1) := by decide +kernel
theorem d3_3_5 : decode prog_3_method_3_code 5 = .ok (.aload_n 0, 1) := by decide +kernel
theorem d3_3_6 : decode prog_3_method_3_code 6 = .ok (.getfield 27, 3) := by decide +kernel
theorem d3_3_9 : decode prog_3_method_3_code 9 = .ok (.if_icmp .ge 7, 3) := by decide +kernel
theorem d3_3_12 : decode prog_3_method_3_code 12 = .ok (.iconst 1, 1) := by decide +kernel
theorem d3_3_13 : decode prog_3_method_3_code 13 = .ok (.goto 4, 3) := by decide +kernel
theorem d3_3_17 : decode prog_3_method_3_code 17 = .ok (.ireturn, 1) := by decide +kernel
def y3_3 : MethodName := { cls := "PagedValues$Finder", name := "has", desc := "(I)Z" }
theorem k990 : (Jvm.Cond.code ({ cls := "PagedValues$Finder", name := "has", desc := "(I)Z" } : Jvm.MethodName) prog_3_method_3_code (2 : Nat) (Option.some Jvm.ClassFile.FieldType.boolean)) ∈ TB := tk_5 30 rfl rfl
theorem k987 : (Jvm.Cond.methodLink "PagedValues" (136 : Nat) ({ cls := "PagedValues$Finder", name := "has", desc := "(I)Z" } : Jvm.MethodName)) ∈ TB := tk_5 27 rfl rfl
theorem k988 : (Jvm.Cond.instanceMethod ({ cls := "PagedValues$Finder", name := "has", desc := "(I)Z" } : Jvm.MethodName)) ∈ TB := tk_5 28 rfl rfl
theorem k989 : (Jvm.Cond.selects "PagedValues$Finder" ({ cls := "PagedValues$Finder", name := "has", desc := "(I)Z" } : Jvm.MethodName) ({ cls := "PagedValues$Finder", name := "has", desc := "(I)Z" } : Jvm.MethodName)) ∈ TB := tk_5 29 rfl rfl
theorem d1_7_8 : decode prog_1_method_7_code 8 = .ok (.ifCond .eq 15, 3) := by decide +kernel
theorem d1_7_23 : decode prog_1_method_7_code 23 = .ok (.iconst (-1), 1) := by decide +kernel
theorem d1_7_11 : decode prog_1_method_7_code 11 = .ok (.aload_n 0, 1) := by decide +kernel
theorem d1_7_12 : decode prog_1_method_7_code 12 = .ok (.getfield 40, 3) := by decide +kernel
theorem d1_7_15 : decode prog_1_method_7_code 15 = .ok (.getfield 139, 3) := by decide +kernel
theorem kn186 : (Jvm.Cond.fieldLinkNest "PagedValues" (139 : Nat) "PagedValues$Finder" "ids" "[I" "PagedValues") ∈ NW := tn_1 186 rfl rfl
theorem d1_7_18 : decode prog_1_method_7_code 18 = .ok (.iload_n 1, 1) := by decide +kernel
theorem d1_7_19 : decode prog_1_method_7_code 19 = .ok (.iaload, 1) := by decide +kernel
theorem d1_7_20 : decode prog_1_method_7_code 20 = .ok (.goto 4, 3) := by decide +kernel
theorem d1_7_24 : decode prog_1_method_7_code 24 = .ok (.ireturn, 1) := by decide +kernel
def y1_7 : MethodName := { cls := "PagedValues", name := "result", desc := "(I)I" }
def c_Finder_has (Zd : Nat → Nat) (K : KE) (o : Nat) (a0 : Int32) (st : CS) : Option (Int32) := (if a0 < (0 : Int32) then (some (0 : Int32)) else ((gI K st o 8 4).bind fun x14 => if x14 ≤ a0 then (some (0 : Int32)) else (some (1 : Int32)))).bind fun e11 => (bz e11).bind fun _ => some e11
set_option maxHeartbeats 4000000 in
set_option maxRecDepth 100000 in
theorem cc_Finder_has (l : Launch) (G : Gk) (Zd : Nat → Nat) (K : KE) (o : Nat) (a0 : Int32) (st : CS) (r0 : Int32) (hm : c_Finder_has Zd K o a0 st = some r0) : CT l y3_3 prog_3_method_3_code 2 (some .boolean) G Zd K (0) [.ref o, .int a0] st (hI G Zd r0 st) := by
  refine goH (d := 0) (y := y3_3) (cc := prog_3_method_3_code) (maxL := 2) (ret := (some .boolean)) (av := [.ref o, .int a0]) (Qc := hI G Zd r0 st) "PagedValues$Finder" rfl (by decide) (c1_c rfl (c1_c rfl c1_n)) (Nat.le_of_ble_eq_true rfl) ?_
  intro p e s m below meth c ls A args Q hQ hx hb hr hlk hml hown hts hin hl hE hw
  have hl : lw ls 2 [(0, .ref o), (1, .int a0)] := hl
  have hZ := hE.2.2.1
  have h := hm
  clear hm
  refine lv_iload_n hx hb d3_3_0 rfl (lv_at hl.1 1 rfl) ?_
  obtain ⟨e11, hX, h⟩ := ob h
  have hj : ∀ (H : Heap) (locs : List Loc) (cells slots : Nat) (ls : Array Slot), lw ls 2 [(0, .ref o), (1, .int a0)] → wsH G Zd A s st H locs → W p l e (rmH Zd (0) st.1) s m args below meth c H locs cells slots Q (F0 m 17 ls [.int e11]) := by
    intro H locs cells slots ls hl hw
    obtain ⟨u9, hr9, h⟩ := ob h
    have hi := bz_some hr9
    clear hr9 u9
    cases h
    exact finH_z hQ hx hb hr hlk (nar01 hi) hE hw d3_3_17
  clear h
  refine lv_if_lt (tgt := 16) hx hb d3_3_1 rfl (fun c13 => ?_) (fun c13 => ?_)
  ·
    replace h := (if_pos c13).symm.trans hX
    refine lv_iconst (v := 0) hx hb d3_3_16 (by decide) ?_
    have e9 := Option.some.inj h
    subst e11
    have hl := lw_sub hl (l' := [(0, .ref o), (1, .int a0)]) [0, 1] rfl
    exact hj _ _ _ _ _ hl hw
  ·
    replace h := (if_neg c13).symm.trans hX
    refine lv_iload_n hx hb d3_3_4 rfl (lv_at hl.1 1 rfl) ?_
    refine lv_aload_n hx hb d3_3_5 rfl (lv_at hl.1 0 rfl) ?_
    obtain ⟨x14, hr, h⟩ := ob h
    refine xg_i (ci := 8) (C := r_8) (T := f_8) (N := 8) (ref := "PagedValues$Finder") hx hb hts (fun w h => List.mem_cons_of_mem _ (ly_8 w h)) hown hE hw rfl 4 (by decide) (hts _ (List.mem_cons_of_mem _ k189)) (fun _ h9 => h9) hr d3_3_6 ?_
    clear hr
    refine lv_icmp_ge (tgt := 16) hx hb d3_3_9 rfl (fun c15 => ?_) (fun c15 => ?_)
    ·
      replace h := (if_pos c15).symm.trans h
      refine lv_iconst (v := 0) hx hb d3_3_16 (by decide) ?_
      have e9 := Option.some.inj h
      subst e11
      have hl := lw_sub hl (l' := [(0, .ref o), (1, .int a0)]) [0, 1] rfl
      exact hj _ _ _ _ _ hl hw
    ·
      replace h := (if_neg c15).symm.trans h
      refine lv_iconst (v := 1) hx hb d3_3_12 (by decide) ?_
      refine lv_goto (tgt := 17) hx hb d3_3_13 rfl ?_
      have e9 := Option.some.inj h
      subst e11
      have hl := lw_sub hl (l' := [(0, .ref o), (1, .int a0)]) [0, 1] rfl
      exact hj _ _ _ _ _ hl hw
def c_PagedValues_result (Zd : Nat → Nat) (K : KE) (o : Nat) (a0 : Int32) (st : CS) : Option (Int32) := (gQ K st o 0 4).bind fun x11 => x11.bind fun a12z => (isO K st a12z 8).bind fun _ => (c_Finder_has Zd K a12z a0 st).bind fun x13 => (if x13 = (0 : Int32) then (some ((-1) : Int32)) else ((gQ K st o 0 4).bind fun x19 => x19.bind fun a20z => (gQ K st a20z 8 1).bind fun x21 => x21.bind fun a22z => (rA K st a22z 1 a0).bind fun x23 => some x23)).bind fun e16 => some e16
set_option maxHeartbeats 4000000 in
set_option maxRecDepth 100000 in
theorem cc_PagedValues_result (l : Launch) (G : Gk) (Zd : Nat → Nat) (K : KE) (o : Nat) (a0 : Int32) (st : CS) (r0 : Int32) (hm : c_PagedValues_result Zd K o a0 st = some r0) : CT l y1_7 prog_1_method_7_code 2 (some .int) G Zd K (1) [.ref o, .int a0] st (hI G Zd r0 st) := by
  refine goH (d := 1) (y := y1_7) (cc := prog_1_method_7_code) (maxL := 2) (ret := (some .int)) (av := [.ref o, .int a0]) (Qc := hI G Zd r0 st) "PagedValues" rfl (by decide) (c1_c rfl (c1_c rfl c1_n)) (Nat.le_of_ble_eq_true rfl) ?_
  intro p e s m below meth c ls A args Q hQ hx hb hr hlk hml hown hts hin hl hE hw
  have hl : lw ls 2 [(0, .ref o), (1, .int a0)] := hl
  have hZ := hE.2.2.1
  have h := hm
  clear hm
  refine lv_aload_n hx hb d1_7_0 rfl (lv_at hl.1 0 rfl) ?_
  obtain ⟨x11, hr, h⟩ := ob h
  refine xg_q (ci := 0) (C := r_0) (T := f_0) (N := 7) (ref := "PagedValues") hx hb hts (fun w h => List.mem_cons_of_mem _ (ly_0 w h)) hown hE hw rfl 4 (by decide) (hts _ (List.mem_cons_of_mem _ k274)) (fun _ h9 => h9) hr d1_7_1 ?_
  clear hr
  refine lv_iload_n hx hb d1_7_4 rfl (lv_at hl.1 1 rfl) ?_
  obtain ⟨a12z, hn12, h⟩ := ob h
  have hn12 : x11 = some a12z := hn12
  refine W.eq (g2 := F0 m 5 ls [.int a0, .ref a12z]) (by rw [hn12]; rfl) ?_
  obtain ⟨u9, ho, h⟩ := ob h
  obtain ⟨x13, hc, h⟩ := ob h
  refine hV_i (ci := 8) (As := [.int a0]) (rest := []) ⟨hx, hb, hml, hown, hts⟩ (cc_Finder_has l G Zd K a12z a0 st x13 hc) (kw_V (n := 1) hts k990 k987 k12 k988 k989 (by decide +kernel) ⟨Nat.le_of_ble_eq_true rfl, Nat.le_of_ble_eq_true rfl⟩) hE hw rfl rfl ho rfl hl.1.1 rfl (c1_8 c1_n (Nat.le_of_ble_eq_true rfl)) d1_7_5 (fun H locs cells slots hw => ?_)
  clear hc ho u9
  refine W.eq (g2 := F0 m 8 ls [.int x13]) rfl ?_
  obtain ⟨e16, hX, h⟩ := ob h
  have hj : ∀ (H : Heap) (locs : List Loc) (cells slots : Nat) (ls : Array Slot), lw ls 2 [(0, .ref o), (1, .int a0)] → wsH G Zd A s st H locs → W p l e (rmH Zd (1) st.1) s m args below meth c H locs cells slots Q (F0 m 24 ls [.int e16]) := by
    intro H locs cells slots ls hl hw
    cases h
    exact finH_i hQ hx hb hr hlk hE hw d1_7_24
  clear h
  refine lv_if_eq (tgt := 23) hx hb d1_7_8 rfl (fun c18 => ?_) (fun c18 => ?_)
  ·
    replace h := (if_pos c18).symm.trans hX
    refine lv_iconst (v := (-1)) hx hb d1_7_23 (by decide) ?_
    have e9 := Option.some.inj h
    subst e16
    have hl := lw_sub hl (l' := [(0, .ref o), (1, .int a0)]) [0, 1] rfl
    exact hj _ _ _ _ _ hl hw
  ·
    replace h := (if_neg c18).symm.trans hX
    refine lv_aload_n hx hb d1_7_11 rfl (lv_at hl.1 0 rfl) ?_
    obtain ⟨x19, hr, h⟩ := ob h
    refine xg_q (ci := 0) (C := r_0) (T := f_0) (N := 7) (ref := "PagedValues") hx hb hts (fun w h => List.mem_cons_of_mem _ (ly_0 w h)) hown hE hw rfl 4 (by decide) (hts _ (List.mem_cons_of_mem _ k274)) (fun _ h9 => h9) hr d1_7_12 ?_
    clear hr
    obtain ⟨a20z, hn20, h⟩ := ob h
    have hn20 : x19 = some a20z := hn20
    refine W.eq (g2 := F0 m 15 ls [.ref a20z]) (by rw [hn20]; rfl) ?_
    obtain ⟨x21, hr, h⟩ := ob h
    refine xgN_q (ci := 8) (C := r_8) (T := f_8) (N := 8) (ref := "PagedValues$Finder") hx hb hts (fun w h => List.mem_cons_of_mem _ (ly_8 w h)) hown hE hw rfl 1 (by decide) (va_Nw.use rfl (hZ.1.1 _ kn186)) (fun _ h9 => h9) hr d1_7_15 ?_
    clear hr
    refine lv_iload_n hx hb d1_7_18 rfl (lv_at hl.1 1 rfl) ?_
    obtain ⟨a22z, hn22, h⟩ := ob h
    have hn22 : x21 = some a22z := hn22
    refine W.eq (g2 := F0 m 19 ls [.int a0, .ref a22z]) (by rw [hn22]; rfl) ?_
    obtain ⟨x23, hr, h⟩ := ob h
    refine xa_i hx hb hE hw (i := a0) hr d1_7_19 ?_
    clear hr
    refine lv_goto (tgt := 24) hx hb d1_7_20 rfl ?_
    have e9 := Option.some.inj h
    subst e16
    have hl := lw_sub hl (l' := [(0, .ref o), (1, .int a0)]) [0, 1] rfl
    exact hj _ _ _ _ _ hl hw
theorem d1_8_0 : decode prog_1_method_8_code 0 = .ok (.aload_n 0, 1) := by decide +kernel
theorem d1_8_1 : decode prog_1_method_8_code 1 = .ok (.getfield 40, 3) := by decide +kernel
theorem d1_8_4 : decode prog_1_method_8_code 4 = .ok (.iload_n 1, 1) := by decide +kernel
theorem d1_8_5 : decode prog_1_method_8_code 5 = .ok (.invokevirtual 136, 3) := by decide +kernel
theorem d1_8_8 : decode prog_1_method_8_code 8 = .ok (.ifCond .eq 19, 3) := by decide +kernel
theorem d1_8_27 : decode prog_1_method_8_code 27 = .ok (.iconst (-1), 1) := by decide +kernel
theorem d1_8_11 : decode prog_1_method_8_code 11 = .ok (.aload_n 0, 1) := by decide +kernel
theorem d1_8_12 : decode prog_1_method_8_code 12 = .ok (.aload_n 0, 1) := by decide +kernel
theorem d1_8_13 : decode prog_1_method_8_code 13 = .ok (.getfield 40, 3) := by decide +kernel
theorem d1_8_16 : decode prog_1_method_8_code 16 = .ok (.getfield 143, 3) := by decide +kernel
theorem kn184 : (Jvm.Cond.fieldLinkNest "PagedValues" (143 : Nat) "PagedValues$Finder" "results" "[LPagedValues$Value;" "PagedValues") ∈ NW := tn_1 184 rfl rfl
theorem d1_8_19 : decode prog_1_method_8_code 19 = .ok (.iload_n 1, 1) := by decide +kernel
theorem d1_8_20 : decode prog_1_method_8_code 20 = .ok (.aaload, 1) := by decide +kernel
theorem d1_8_21 : decode prog_1_method_8_code 21 = .ok (.invokevirtual 147, 3) := by decide +kernel
theorem d1_19_0 : decode prog_1_method_19_code 0 = .ok (.aload_n 0, 1) := by decide +kernel
theorem d1_19_1 : decode prog_1_method_19_code 1 = .ok (.getfield 54, 3) := by decide +kernel
theorem d1_19_4 : decode prog_1_method_19_code 4 = .ok (.iconst 0, 1) := by decide +kernel
theorem d1_19_5 : decode prog_1_method_19_code 5 = .ok (.invokevirtual 182, 3) := by decide +kernel
theorem k999 : (Jvm.Cond.methodLink "PagedValues" (182 : Nat) ({ cls := "java/lang/StringBuilder", name := "setLength", desc := "(I)V" } : Jvm.MethodName)) ∈ TB := tk_5 39 rfl rfl
theorem d1_19_8 : decode prog_1_method_19_code 8 = .ok (.aload_n 1, 1) := by decide +kernel
theorem d1_19_9 : decode prog_1_method_19_code 9 = .ok (.aload_n 0, 1) := by decide +kernel
theorem d1_19_10 : decode prog_1_method_19_code 10 = .ok (.getfield 54, 3) := by decide +kernel
theorem d1_19_13 : decode prog_1_method_19_code 13 = .ok (.iconst 0, 1) := by decide +kernel
theorem d1_19_14 : decode prog_1_method_19_code 14 = .ok (.invokestatic 186, 3) := by decide +kernel
theorem kn1000 : (Jvm.Cond.methodLinkNest "PagedValues" (186 : Nat) ({ cls := "PagedValues$Value", name := "write", desc := "(LPagedValues$Value;Ljava/lang/StringBuilder;I)V" } : Jvm.MethodName) "PagedValues") ∈ NW := tn_5 40 rfl rfl
theorem d1_19_17 : decode prog_1_method_19_code 17 = .ok (.aload_n 0, 1) := by decide +kernel
theorem d1_19_18 : decode prog_1_method_19_code 18 = .ok (.getfield 54, 3) := by decide +kernel
theorem d1_19_21 : decode prog_1_method_19_code 21 = .ok (.invokevirtual 151, 3) := by decide +kernel
theorem k1088 : (Jvm.Cond.methodLink "PagedValues" (151 : Nat) ({ cls := "java/lang/StringBuilder", name := "length", desc := "()I" } : Jvm.MethodName)) ∈ TB := tk_5 128 rfl rfl
theorem k1664 : (Jvm.Cond.selects "java/lang/StringBuilder" ({ cls := "java/lang/StringBuilder", name := "length", desc := "()I" } : Jvm.MethodName) ({ cls := "java/lang/StringBuilder", name := "length", desc := "()I" } : Jvm.MethodName)) ∈ TB := tk_7 224 rfl rfl
theorem d1_19_24 : decode prog_1_method_19_code 24 = .ok (.ireturn, 1) := by decide +kernel
def y1_19 : MethodName := { cls := "PagedValues", name := "writeInstead", desc := "(LPagedValues$Value;)I" }
theorem k998 : (Jvm.Cond.code ({ cls := "PagedValues", name := "writeInstead", desc := "(LPagedValues$Value;)I" } : Jvm.MethodName) prog_1_method_19_code (2 : Nat) (Option.some Jvm.ClassFile.FieldType.int)) ∈ TB := tk_5 38 rfl rfl
theorem k995 : (Jvm.Cond.methodLink "PagedValues" (147 : Nat) ({ cls := "PagedValues", name := "writeInstead", desc := "(LPagedValues$Value;)I" } : Jvm.MethodName)) ∈ TB := tk_5 35 rfl rfl
theorem k997 : (Jvm.Cond.instanceMethod ({ cls := "PagedValues", name := "writeInstead", desc := "(LPagedValues$Value;)I" } : Jvm.MethodName)) ∈ TB := tk_5 37 rfl rfl
theorem ks33 : Cond.selects y1_19.cls y1_19 y1_19 ∈ TB := List.mem_filter.mpr ⟨List.mem_append_left _ (List.mem_of_getElem? (i := 33) (by decide +kernel)), rfl⟩
theorem d1_8_24 : decode prog_1_method_8_code 24 = .ok (.goto 4, 3) := by decide +kernel
theorem d1_8_28 : decode prog_1_method_8_code 28 = .ok (.ireturn, 1) := by decide +kernel
def y1_8 : MethodName := { cls := "PagedValues", name := "show", desc := "(I)I" }
def c_PagedValues_writeInstead (Zd : Nat → Nat) (K : KE) (o : Nat) (a0 : Option Nat) (st : CS) : Option (Int32 × CS) := (gQ K st o 0 6).bind fun x11 => x11.bind fun a12z => (isO K st a12z 2).bind fun _ => (c_StringBuilder_setLength Zd K a12z (0 : Int32) st).bind fun st14 => (gQ K st14 o 0 6).bind fun x16 => (c_Value_write Zd K 10 a0 x16 (0 : Int32) st14).bind fun st18 => (gQ K st18 o 0 6).bind fun x20 => x20.bind fun a21z => (isO K st18 a21z 2).bind fun _ => (c_StringBuilder_length Zd K a21z st18).bind fun x22 => some (x22, st18)
set_option maxHeartbeats 4000000 in
set_option maxRecDepth 100000 in
theorem cc_PagedValues_writeInstead (l : Launch) (G : Gk) (Zd : Nat → Nat) (K : KE) (o : Nat) (a0 : Option Nat) (st : CS) (r0 : Int32) (st0 : CS) (hm : c_PagedValues_writeInstead Zd K o a0 st = some (r0, st0)) : CT l y1_19 prog_1_method_19_code 2 (some .int) G Zd K (81) [.ref o, va_rf a0] st (hI G Zd r0 st0) := by
  refine goH (d := 81) (y := y1_19) (cc := prog_1_method_19_code) (maxL := 2) (ret := (some .int)) (av := [.ref o, va_rf a0]) (Qc := hI G Zd r0 st0) "PagedValues" rfl (by decide) (c1_c rfl (c1_c (rf_cat _) c1_n)) (Nat.le_of_ble_eq_true rfl) ?_
  intro p e s m below meth c ls A args Q hQ hx hb hr hlk hml hown hts hin hl hE hw
  have hl : lw ls 2 [(0, .ref o), (1, va_rf a0)] := hl
  have hZ := hE.2.2.1
  have h := hm
  clear hm
  refine lv_aload_n hx hb d1_19_0 rfl (lv_at hl.1 0 rfl) ?_
  obtain ⟨x11, hr, h⟩ := ob h
  refine xg_q (ci := 0) (C := r_0) (T := f_0) (N := 7) (ref := "PagedValues") hx hb hts (fun w h => List.mem_cons_of_mem _ (ly_0 w h)) hown hE hw rfl 6 (by decide) (hts _ (List.mem_cons_of_mem _ k276)) (fun _ h9 => h9) hr d1_19_1 ?_
  clear hr
  refine lv_iconst (v := 0) hx hb d1_19_4 (by decide) ?_
  obtain ⟨a12z, hn12, h⟩ := ob h
  have hn12 : x11 = some a12z := hn12
  refine W.eq (g2 := F0 m 5 ls [.int 0, .ref a12z]) (by rw [hn12]; rfl) ?_
  obtain ⟨u9, ho, h⟩ := ob h
  obtain ⟨st14, hc, h⟩ := ob h
  refine hV_v (ci := 2) (As := [.int 0]) (rest := []) ⟨hx, hb, hml, hown, hts⟩ (cc_StringBuilder_setLength l G Zd K a12z (0 : Int32) st st14 hc) (kw_V (n := 1) hts k398 k999 k4 k396 k397 (by decide +kernel) ⟨Nat.le_of_ble_eq_true rfl, Nat.le_of_ble_eq_true rfl⟩) hE hw rfl rfl ho rfl hl.1.1 rfl (c1_8 c1_n (Nat.le_of_ble_eq_true rfl)) d1_19_5 (fun H locs cells slots hw => ?_)
  clear hc ho u9
  refine W.eq (g2 := F0 m 8 ls []) rfl ?_
  refine xq_aload_n (r := a0) hx hb d1_19_8 rfl (lv_at hl.1 1 rfl) ?_
  refine lv_aload_n hx hb d1_19_9 rfl (lv_at hl.1 0 rfl) ?_
  obtain ⟨x16, hr, h⟩ := ob h
  refine xg_q (ci := 0) (C := r_0) (T := f_0) (N := 7) (ref := "PagedValues") hx hb hts (fun w h => List.mem_cons_of_mem _ (ly_0 w h)) hown hE hw rfl 6 (by decide) (hts _ (List.mem_cons_of_mem _ k276)) (fun _ h9 => h9) hr d1_19_10 ?_
  clear hr
  refine lv_iconst (v := 0) hx hb d1_19_13 (by decide) ?_
  obtain ⟨st18, hc, h⟩ := ob h
  refine hSN_v (As := [va_rf a0, va_rf x16, .int 0]) (rest := []) ⟨hx, hb, hml, hown, hts⟩ (cc_Value_write l G Zd K 10 a0 x16 (0 : Int32) st14 st18 hc) (kw_SN (n := 3) hts hZ.1.1 k1002 kn1000 k18 k1001 (by decide +kernel) ⟨Nat.le_of_ble_eq_true rfl, Nat.le_of_ble_eq_true rfl⟩) hE hw rfl hl.1.1 rfl (c1_8 c1_n (Nat.le_of_ble_eq_true rfl)) d1_19_14 (fun H locs cells slots hw => ?_)
  clear hc
  refine W.eq (g2 := F0 m 17 ls []) rfl ?_
  refine lv_aload_n hx hb d1_19_17 rfl (lv_at hl.1 0 rfl) ?_
  obtain ⟨x20, hr, h⟩ := ob h
  refine xg_q (ci := 0) (C := r_0) (T := f_0) (N := 7) (ref := "PagedValues") hx hb hts (fun w h => List.mem_cons_of_mem _ (ly_0 w h)) hown hE hw rfl 6 (by decide) (hts _ (List.mem_cons_of_mem _ k276)) (fun _ h9 => h9) hr d1_19_18 ?_
  clear hr
  obtain ⟨a21z, hn21, h⟩ := ob h
  have hn21 : x20 = some a21z := hn21
  refine W.eq (g2 := F0 m 21 ls [.ref a21z]) (by rw [hn21]; rfl) ?_
  obtain ⟨u9, ho, h⟩ := ob h
  obtain ⟨x22, hc, h⟩ := ob h
  refine hV_i (ci := 2) (As := []) (rest := []) ⟨hx, hb, hml, hown, hts⟩ (cc_StringBuilder_length l G Zd K a21z st18 x22 hc) (kw_V (n := 0) hts k480 k1088 k4 k479 k1664 (by decide +kernel) ⟨Nat.le_of_ble_eq_true rfl, Nat.le_of_ble_eq_true rfl⟩) hE hw rfl rfl ho rfl hl.1.1 rfl (c1_8 c1_n (Nat.le_of_ble_eq_true rfl)) d1_19_21 (fun H locs cells slots hw => ?_)
  clear hc ho u9
  refine W.eq (g2 := F0 m 24 ls [.int x22]) rfl ?_
  cases h
  exact finH_i hQ hx hb hr hlk hE hw d1_19_24
def c_PagedValues_show (Zd : Nat → Nat) (K : KE) (o : Nat) (a0 : Int32) (st : CS) : Option (Int32 × CS) := (gQ K st o 0 4).bind fun x11 => x11.bind fun a12z => (isO K st a12z 8).bind fun _ => (c_Finder_has Zd K a12z a0 st).bind fun x13 => (if x13 = (0 : Int32) then (some (((-1) : Int32), st)) else ((gQ K st o 0 4).bind fun x20 => x20.bind fun a21z => (gQ K st a21z 8 0).bind fun x22 => x22.bind fun a23z => (rQ K st a23z 5 a0).bind fun x24 => (isO K st o 0).bind fun _ => (c_PagedValues_writeInstead Zd K o x24 st).bind fun r27 => some (r27.1, r27.2))).bind fun e16 => some (e16.1, e16.2)
set_option maxHeartbeats 4000000 in
set_option maxRecDepth 100000 in
theorem cc_PagedValues_show (l : Launch) (G : Gk) (Zd : Nat → Nat) (K : KE) (o : Nat) (a0 : Int32) (st : CS) (r0 : Int32) (st0 : CS) (hm : c_PagedValues_show Zd K o a0 st = some (r0, st0)) : CT l y1_8 prog_1_method_8_code 2 (some .int) G Zd K (82) [.ref o, .int a0] st (hI G Zd r0 st0) := by
  refine goH (d := 82) (y := y1_8) (cc := prog_1_method_8_code) (maxL := 2) (ret := (some .int)) (av := [.ref o, .int a0]) (Qc := hI G Zd r0 st0) "PagedValues" rfl (by decide) (c1_c rfl (c1_c rfl c1_n)) (Nat.le_of_ble_eq_true rfl) ?_
  intro p e s m below meth c ls A args Q hQ hx hb hr hlk hml hown hts hin hl hE hw
  have hl : lw ls 2 [(0, .ref o), (1, .int a0)] := hl
  have hZ := hE.2.2.1
  have h := hm
  clear hm
  refine lv_aload_n hx hb d1_8_0 rfl (lv_at hl.1 0 rfl) ?_
  obtain ⟨x11, hr, h⟩ := ob h
  refine xg_q (ci := 0) (C := r_0) (T := f_0) (N := 7) (ref := "PagedValues") hx hb hts (fun w h => List.mem_cons_of_mem _ (ly_0 w h)) hown hE hw rfl 4 (by decide) (hts _ (List.mem_cons_of_mem _ k274)) (fun _ h9 => h9) hr d1_8_1 ?_
  clear hr
  refine lv_iload_n hx hb d1_8_4 rfl (lv_at hl.1 1 rfl) ?_
  obtain ⟨a12z, hn12, h⟩ := ob h
  have hn12 : x11 = some a12z := hn12
  refine W.eq (g2 := F0 m 5 ls [.int a0, .ref a12z]) (by rw [hn12]; rfl) ?_
  obtain ⟨u9, ho, h⟩ := ob h
  obtain ⟨x13, hc, h⟩ := ob h
  refine hV_i (ci := 8) (As := [.int a0]) (rest := []) ⟨hx, hb, hml, hown, hts⟩ (cc_Finder_has l G Zd K a12z a0 st x13 hc) (kw_V (n := 1) hts k990 k987 k12 k988 k989 (by decide +kernel) ⟨Nat.le_of_ble_eq_true rfl, Nat.le_of_ble_eq_true rfl⟩) hE hw rfl rfl ho rfl hl.1.1 rfl (c1_8 c1_n (Nat.le_of_ble_eq_true rfl)) d1_8_5 (fun H locs cells slots hw => ?_)
  clear hc ho u9
  refine W.eq (g2 := F0 m 8 ls [.int x13]) rfl ?_
  obtain ⟨e16, hX, h⟩ := ob h
  obtain ⟨v17, v18⟩ := e16
  have hj : ∀ (H : Heap) (locs : List Loc) (cells slots : Nat) (ls : Array Slot), lw ls 2 [(0, .ref o), (1, .int a0)] → wsH G Zd A s v18 H locs → W p l e (rmH Zd (82) st.1) s m args below meth c H locs cells slots Q (F0 m 28 ls [.int v17]) := by
    intro H locs cells slots ls hl hw
    cases h
    exact finH_i hQ hx hb hr hlk hE hw d1_8_28
  clear h
  refine lv_if_eq (tgt := 27) hx hb d1_8_8 rfl (fun c19 => ?_) (fun c19 => ?_)
  ·
    replace h := (if_pos c19).symm.trans hX
    refine lv_iconst (v := (-1)) hx hb d1_8_27 (by decide) ?_
    have e9_0 := Option.some.inj h
    obtain ⟨q9, e9_1⟩ := Prod.mk.inj e9_0
    clear e9_0
    subst v17
    subst v18
    have hl := lw_sub hl (l' := [(0, .ref o), (1, .int a0)]) [0, 1] rfl
    exact hj _ _ _ _ _ hl hw
  ·
    replace h := (if_neg c19).symm.trans hX
    refine lv_aload_n hx hb d1_8_11 rfl (lv_at hl.1 0 rfl) ?_
    refine lv_aload_n hx hb d1_8_12 rfl (lv_at hl.1 0 rfl) ?_
    obtain ⟨x20, hr, h⟩ := ob h
    refine xg_q (ci := 0) (C := r_0) (T := f_0) (N := 7) (ref := "PagedValues") hx hb hts (fun w h => List.mem_cons_of_mem _ (ly_0 w h)) hown hE hw rfl 4 (by decide) (hts _ (List.mem_cons_of_mem _ k274)) (fun _ h9 => h9) hr d1_8_13 ?_
    clear hr
    obtain ⟨a21z, hn21, h⟩ := ob h
    have hn21 : x20 = some a21z := hn21
    refine W.eq (g2 := F0 m 16 ls [.ref a21z, .ref o]) (by rw [hn21]; rfl) ?_
    obtain ⟨x22, hr, h⟩ := ob h
    refine xgN_q (ci := 8) (C := r_8) (T := f_8) (N := 8) (ref := "PagedValues$Finder") hx hb hts (fun w h => List.mem_cons_of_mem _ (ly_8 w h)) hown hE hw rfl 0 (by decide) (va_Nw.use rfl (hZ.1.1 _ kn184)) (fun _ h9 => h9) hr d1_8_16 ?_
    clear hr
    refine lv_iload_n hx hb d1_8_19 rfl (lv_at hl.1 1 rfl) ?_
    obtain ⟨a23z, hn23, h⟩ := ob h
    have hn23 : x22 = some a23z := hn23
    refine W.eq (g2 := F0 m 20 ls [.int a0, .ref a23z, .ref o]) (by rw [hn23]; rfl) ?_
    obtain ⟨x24, hr, h⟩ := ob h
    refine xa_q hx hb hE hw (t := 5) rfl (i := a0) hr d1_8_20 ?_
    clear hr
    obtain ⟨u9, ho, h⟩ := ob h
    obtain ⟨⟨x25, st26⟩, hc, h⟩ := ob h
    refine hV_i (ci := 0) (As := [va_rf x24]) (rest := []) ⟨hx, hb, hml, hown, hts⟩ (cc_PagedValues_writeInstead l G Zd K o x24 st x25 st26 hc) (kw_V (n := 1) hts k998 k995 k1 k997 ks33 (by decide +kernel) ⟨Nat.le_of_ble_eq_true rfl, Nat.le_of_ble_eq_true rfl⟩) hE hw rfl rfl ho rfl hl.1.1 rfl (c1_8 c1_n (Nat.le_of_ble_eq_true rfl)) d1_8_21 (fun H locs cells slots hw => ?_)
    clear hc ho u9
    refine W.eq (g2 := F0 m 24 ls [.int x25]) rfl ?_
    refine lv_goto (tgt := 28) hx hb d1_8_24 rfl ?_
    have e9_0 := Option.some.inj h
    obtain ⟨q9, e9_1⟩ := Prod.mk.inj e9_0
    clear e9_0
    subst v17
    subst v18
    have hl := lw_sub hl (l' := [(0, .ref o), (1, .int a0)]) [0, 1] rfl
    exact hj _ _ _ _ _ hl hw
theorem d1_9_0 : decode prog_1_method_9_code 0 = .ok (.aload_n 0, 1) := by decide +kernel
theorem d1_9_1 : decode prog_1_method_9_code 1 = .ok (.getfield 47, 3) := by decide +kernel
theorem d1_9_4 : decode prog_1_method_9_code 4 = .ok (.getfield 58, 3) := by decide +kernel
theorem d1_9_7 : decode prog_1_method_9_code 7 = .ok (.ifCond .eq 6, 3) := by decide +kernel
theorem d1_9_13 : decode prog_1_method_9_code 13 = .ok (.aload_n 0, 1) := by decide +kernel
theorem d1_9_14 : decode prog_1_method_9_code 14 = .ok (.getfield 47, 3) := by decide +kernel
theorem d1_9_17 : decode prog_1_method_9_code 17 = .ok (.iload_n 1, 1) := by decide +kernel
theorem d1_9_18 : decode prog_1_method_9_code 18 = .ok (.invokevirtual 112, 3) := by decide +kernel
theorem d1_9_21 : decode prog_1_method_9_code 21 = .ok (.ifCond .eq 22, 3) := by decide +kernel
theorem d1_9_43 : decode prog_1_method_9_code 43 = .ok (.aconst_null, 1) := by decide +kernel
theorem d1_9_24 : decode prog_1_method_9_code 24 = .ok (.aload_n 0, 1) := by decide +kernel
theorem d1_9_25 : decode prog_1_method_9_code 25 = .ok (.getfield 47, 3) := by decide +kernel
theorem d1_9_28 : decode prog_1_method_9_code 28 = .ok (.aload_n 0, 1) := by decide +kernel
theorem d1_9_29 : decode prog_1_method_9_code 29 = .ok (.getfield 47, 3) := by decide +kernel
theorem d1_9_32 : decode prog_1_method_9_code 32 = .ok (.iload_n 1, 1) := by decide +kernel
theorem d1_9_33 : decode prog_1_method_9_code 33 = .ok (.invokevirtual 115, 3) := by decide +kernel
theorem d1_9_36 : decode prog_1_method_9_code 36 = .ok (.iload_n 2, 1) := by decide +kernel
theorem d1_9_37 : decode prog_1_method_9_code 37 = .ok (.invokevirtual 98, 3) := by decide +kernel
theorem d1_9_40 : decode prog_1_method_9_code 40 = .ok (.goto 4, 3) := by decide +kernel
theorem d1_9_44 : decode prog_1_method_9_code 44 = .ok (.astore_n 3, 1) := by decide +kernel
theorem d1_9_45 : decode prog_1_method_9_code 45 = .ok (.aload_n 3, 1) := by decide +kernel
theorem d1_9_46 : decode prog_1_method_9_code 46 = .ok (.ifnonnull 7, 3) := by decide +kernel
theorem d1_9_49 : decode prog_1_method_9_code 49 = .ok (.iconst (-1), 1) := by decide +kernel
theorem d1_9_50 : decode prog_1_method_9_code 50 = .ok (.goto 8, 3) := by decide +kernel
theorem d1_9_53 : decode prog_1_method_9_code 53 = .ok (.aload_n 0, 1) := by decide +kernel
theorem d1_9_54 : decode prog_1_method_9_code 54 = .ok (.aload_n 3, 1) := by decide +kernel
theorem d1_9_55 : decode prog_1_method_9_code 55 = .ok (.invokevirtual 147, 3) := by decide +kernel
theorem d1_9_58 : decode prog_1_method_9_code 58 = .ok (.ireturn, 1) := by decide +kernel
theorem d1_9_10 : decode prog_1_method_9_code 10 = .ok (.bipush (-9), 2) := by decide +kernel
theorem d1_9_12 : decode prog_1_method_9_code 12 = .ok (.ireturn, 1) := by decide +kernel
def y1_9 : MethodName := { cls := "PagedValues", name := "print", desc := "(II)I" }
def c_PagedValues_print (Zd : Nat → Nat) (K : KE) (o : Nat) (a0 : Int32) (a1 : Int32) (st : CS) : Option (Int32 × CS) := (gQ K st o 0 5).bind fun x11 => x11.bind fun a12z => (gI K st a12z 9 8).bind fun x13 => if x13 = (0 : Int32) then ((gQ K st o 0 5).bind fun x15 => x15.bind fun a16z => (isO K st a16z 9).bind fun _ => (c_Store_canRead Zd K a16z a0 st).bind fun x17 => (if x17 = (0 : Int32) then (some none) else ((gQ K st o 0 5).bind fun x30 => (gQ K st o 0 5).bind fun x31 => x31.bind fun a32z => (isO K st a32z 9).bind fun _ => (c_Store_rootFor Zd K a32z a0 st).bind fun x33 => x30.bind fun a36z => (isO K st a36z 9).bind fun _ => (c_Store_document Zd K a36z x33 a1 st).bind fun x37 => some x37)).bind fun e20 => (nl e20 (some (((-1) : Int32), st)) (fun a25z => (isO K st o 0).bind fun _ => (c_PagedValues_writeInstead Zd K o e20 st).bind fun r28 => some (r28.1, r28.2))).bind fun e22 => some (e22.1, e22.2)) else (some (((-9) : Int32), st))
set_option maxHeartbeats 4000000 in
set_option maxRecDepth 100000 in
theorem cc_PagedValues_print (l : Launch) (G : Gk) (Zd : Nat → Nat) (K : KE) (o : Nat) (a0 : Int32) (a1 : Int32) (st : CS) (r0 : Int32) (st0 : CS) (hm : c_PagedValues_print Zd K o a0 a1 st = some (r0, st0)) : CT l y1_9 prog_1_method_9_code 4 (some .int) G Zd K (82) [.ref o, .int a0, .int a1] st (hI G Zd r0 st0) := by
  refine goH (d := 82) (y := y1_9) (cc := prog_1_method_9_code) (maxL := 4) (ret := (some .int)) (av := [.ref o, .int a0, .int a1]) (Qc := hI G Zd r0 st0) "PagedValues" rfl (by decide) (c1_c rfl (c1_c rfl (c1_c rfl c1_n))) (Nat.le_of_ble_eq_true rfl) ?_
  intro p e s m below meth c ls A args Q hQ hx hb hr hlk hml hown hts hin hl hE hw
  have hl : lw ls 4 [(0, .ref o), (1, .int a0), (2, .int a1)] := hl
  have hZ := hE.2.2.1
  have h := hm
  clear hm
  refine lv_aload_n hx hb d1_9_0 rfl (lv_at hl.1 0 rfl) ?_
  obtain ⟨x11, hr, h⟩ := ob h
  refine xg_q (ci := 0) (C := r_0) (T := f_0) (N := 7) (ref := "PagedValues") hx hb hts (fun w h => List.mem_cons_of_mem _ (ly_0 w h)) hown hE hw rfl 5 (by decide) (hts _ (List.mem_cons_of_mem _ k275)) (fun _ h9 => h9) hr d1_9_1 ?_
  clear hr
  obtain ⟨a12z, hn12, h⟩ := ob h
  have hn12 : x11 = some a12z := hn12
  refine W.eq (g2 := F0 m 4 ls [.ref a12z]) (by rw [hn12]; rfl) ?_
  obtain ⟨x13, hr, h⟩ := ob h
  refine xgN_i (ci := 9) (C := r_9) (T := f_9) (N := 9) (ref := "PagedValues$Store") hx hb hts (fun w h => List.mem_cons_of_mem _ (ly_9 w h)) hown hE hw rfl 8 (by decide) (va_Nw.use rfl (hZ.1.1 _ kn247)) (fun _ h9 => h9) hr d1_9_4 ?_
  clear hr
  refine lv_if_eq (tgt := 13) hx hb d1_9_7 rfl (fun c14 => ?_) (fun c14 => ?_)
  ·
    replace h := (if_pos c14).symm.trans h
    refine lv_aload_n hx hb d1_9_13 rfl (lv_at hl.1 0 rfl) ?_
    obtain ⟨x15, hr, h⟩ := ob h
    refine xg_q (ci := 0) (C := r_0) (T := f_0) (N := 7) (ref := "PagedValues") hx hb hts (fun w h => List.mem_cons_of_mem _ (ly_0 w h)) hown hE hw rfl 5 (by decide) (hts _ (List.mem_cons_of_mem _ k275)) (fun _ h9 => h9) hr d1_9_14 ?_
    clear hr
    refine lv_iload_n hx hb d1_9_17 rfl (lv_at hl.1 1 rfl) ?_
    obtain ⟨a16z, hn16, h⟩ := ob h
    have hn16 : x15 = some a16z := hn16
    refine W.eq (g2 := F0 m 18 ls [.int a0, .ref a16z]) (by rw [hn16]; rfl) ?_
    obtain ⟨u9, ho, h⟩ := ob h
    obtain ⟨x17, hc, h⟩ := ob h
    refine hV_i (ci := 9) (As := [.int a0]) (rest := []) ⟨hx, hb, hml, hown, hts⟩ (cc_Store_canRead l G Zd K a16z a0 st x17 hc) (kw_V (n := 1) hts k883 k880 k13 k881 k882 (by decide +kernel) ⟨Nat.le_of_ble_eq_true rfl, Nat.le_of_ble_eq_true rfl⟩) hE hw rfl rfl ho rfl hl.1.1 rfl (c1_8 c1_n (Nat.le_of_ble_eq_true rfl)) d1_9_18 (fun H locs cells slots hw => ?_)
    clear hc ho u9
    refine W.eq (g2 := F0 m 21 ls [.int x17]) rfl ?_
    obtain ⟨e20, hX, h⟩ := ob h
    have hj : ∀ (H : Heap) (locs : List Loc) (cells slots : Nat) (ls : Array Slot), lw ls 4 [(0, .ref o), (1, .int a0), (2, .int a1)] → wsH G Zd A s st H locs → W p l e (rmH Zd (82) st.1) s m args below meth c H locs cells slots Q (F0 m 44 ls [va_rf e20]) := by
      intro H locs cells slots ls hl hw
      refine xt_astore_n (r := e20) (lv' := [(3, va_rf e20), (0, .ref o), (1, .int a0), (2, .int a1)]) hx hb d1_9_44 rfl hl (by decide) rfl (fun ls hl => ?_)
      refine xq_aload_n (r := e20) hx hb d1_9_45 rfl (lv_at hl.1 0 rfl) ?_
      obtain ⟨e22, hX, h⟩ := ob h
      obtain ⟨v23, v24⟩ := e22
      have hj : ∀ (H : Heap) (locs : List Loc) (cells slots : Nat) (ls : Array Slot), lw ls 4 [(0, .ref o), (1, .int a0), (2, .int a1), (3, va_rf e20)] → wsH G Zd A s v24 H locs → W p l e (rmH Zd (82) st.1) s m args below meth c H locs cells slots Q (F0 m 58 ls [.int v23]) := by
        intro H locs cells slots ls hl hw
        cases h
        exact finH_i hQ hx hb hr hlk hE hw d1_9_58
      clear h
      rcases nl_case hX with ⟨hn25, h⟩ | ⟨a25z, hn25, h⟩
      ·
        have hn25 : e20 = none := hn25
        refine W.eq (g2 := F0 m 46 ls [.null]) (by rw [hn25]; rfl) ?_
        refine lv_ifnonnullN hx hb d1_9_46 ?_
        refine lv_iconst (v := (-1)) hx hb d1_9_49 (by decide) ?_
        refine lv_goto (tgt := 58) hx hb d1_9_50 rfl ?_
        have e9_0 := Option.some.inj h
        obtain ⟨q9, e9_1⟩ := Prod.mk.inj e9_0
        clear e9_0
        subst v23
        subst v24
        have hl := lw_sub hl (l' := [(0, .ref o), (1, .int a0), (2, .int a1), (3, va_rf e20)]) [1, 2, 3, 0] rfl
        exact hj _ _ _ _ _ hl hw
      ·
        have hn25 : e20 = some a25z := hn25
        refine W.eq (g2 := F0 m 46 ls [.ref a25z]) (by rw [hn25]; rfl) ?_
        refine lv_ifnonnull (tgt := 53) hx hb d1_9_46 rfl ?_
        refine lv_aload_n hx hb d1_9_53 rfl (lv_at hl.1 1 rfl) ?_
        refine xq_aload_n (r := e20) hx hb d1_9_54 rfl (lv_at hl.1 0 rfl) ?_
        obtain ⟨u9, ho, h⟩ := ob h
        obtain ⟨⟨x26, st27⟩, hc, h⟩ := ob h
        refine hV_i (ci := 0) (As := [va_rf e20]) (rest := []) ⟨hx, hb, hml, hown, hts⟩ (cc_PagedValues_writeInstead l G Zd K o e20 st x26 st27 hc) (kw_V (n := 1) hts k998 k995 k1 k997 ks33 (by decide +kernel) ⟨Nat.le_of_ble_eq_true rfl, Nat.le_of_ble_eq_true rfl⟩) hE hw rfl rfl ho rfl hl.1.1 rfl (c1_8 c1_n (Nat.le_of_ble_eq_true rfl)) d1_9_55 (fun H locs cells slots hw => ?_)
        clear hc ho u9
        refine W.eq (g2 := F0 m 58 ls [.int x26]) rfl ?_
        have e9_0 := Option.some.inj h
        obtain ⟨q9, e9_1⟩ := Prod.mk.inj e9_0
        clear e9_0
        subst v23
        subst v24
        have hl := lw_sub hl (l' := [(0, .ref o), (1, .int a0), (2, .int a1), (3, va_rf e20)]) [1, 2, 3, 0] rfl
        exact hj _ _ _ _ _ hl hw
    clear h
    refine lv_if_eq (tgt := 43) hx hb d1_9_21 rfl (fun c29 => ?_) (fun c29 => ?_)
    ·
      replace h := (if_pos c29).symm.trans hX
      refine lv_null hx hb d1_9_43 ?_
      have e9 := Option.some.inj h
      subst e20
      have hl := lw_sub hl (l' := [(0, .ref o), (1, .int a0), (2, .int a1)]) [0, 1, 2] rfl
      exact hj _ _ _ _ _ hl hw
    ·
      replace h := (if_neg c29).symm.trans hX
      refine lv_aload_n hx hb d1_9_24 rfl (lv_at hl.1 0 rfl) ?_
      obtain ⟨x30, hr, h⟩ := ob h
      refine xg_q (ci := 0) (C := r_0) (T := f_0) (N := 7) (ref := "PagedValues") hx hb hts (fun w h => List.mem_cons_of_mem _ (ly_0 w h)) hown hE hw rfl 5 (by decide) (hts _ (List.mem_cons_of_mem _ k275)) (fun _ h9 => h9) hr d1_9_25 ?_
      clear hr
      refine lv_aload_n hx hb d1_9_28 rfl (lv_at hl.1 0 rfl) ?_
      obtain ⟨x31, hr, h⟩ := ob h
      refine xg_q (ci := 0) (C := r_0) (T := f_0) (N := 7) (ref := "PagedValues") hx hb hts (fun w h => List.mem_cons_of_mem _ (ly_0 w h)) hown hE hw rfl 5 (by decide) (hts _ (List.mem_cons_of_mem _ k275)) (fun _ h9 => h9) hr d1_9_29 ?_
      clear hr
      refine lv_iload_n hx hb d1_9_32 rfl (lv_at hl.1 1 rfl) ?_
      obtain ⟨a32z, hn32, h⟩ := ob h
      have hn32 : x31 = some a32z := hn32
      refine W.eq (g2 := F0 m 33 ls [.int a0, .ref a32z, va_rf x30]) (by rw [hn32]; rfl) ?_
      obtain ⟨u9, ho, h⟩ := ob h
      obtain ⟨x33, hc, h⟩ := ob h
      refine hV_i (ci := 9) (As := [.int a0]) (rest := [va_rf x30]) ⟨hx, hb, hml, hown, hts⟩ (cc_Store_rootFor l G Zd K a32z a0 st x33 hc) (kw_V (n := 1) hts k891 k888 k13 k889 k890 (by decide +kernel) ⟨Nat.le_of_ble_eq_true rfl, Nat.le_of_ble_eq_true rfl⟩) hE hw rfl rfl ho rfl hl.1.1 rfl (c1_8 (c1_c (rf_cat _) c1_n) (Nat.le_of_ble_eq_true rfl)) d1_9_33 (fun H locs cells slots hw => ?_)
      clear hc ho u9
      refine W.eq (g2 := F0 m 36 ls [.int x33, va_rf x30]) rfl ?_
      refine lv_iload_n hx hb d1_9_36 rfl (lv_at hl.1 2 rfl) ?_
      obtain ⟨a36z, hn36, h⟩ := ob h
      have hn36 : x30 = some a36z := hn36
      refine W.eq (g2 := F0 m 37 ls [.int a1, .int x33, .ref a36z]) (by rw [hn36]; rfl) ?_
      obtain ⟨u9, ho, h⟩ := ob h
      obtain ⟨x37, hc, h⟩ := ob h
      refine hV_q (ci := 9) (As := [.int x33, .int a1]) (rest := []) ⟨hx, hb, hml, hown, hts⟩ (cc_Store_document l G Zd K a36z x33 a1 st x37 hc) (kw_V (n := 2) hts k702 k746 k13 k700 k701 (by decide +kernel) ⟨Nat.le_of_ble_eq_true rfl, Nat.le_of_ble_eq_true rfl⟩) hE hw rfl rfl ho rfl hl.1.1 rfl (c1_8 c1_n (Nat.le_of_ble_eq_true rfl)) d1_9_37 (fun H locs cells slots hw => ?_)
      clear hc ho u9
      refine W.eq (g2 := F0 m 40 ls [va_rf x37]) rfl ?_
      refine lv_goto (tgt := 44) hx hb d1_9_40 rfl ?_
      have e9 := Option.some.inj h
      subst e20
      have hl := lw_sub hl (l' := [(0, .ref o), (1, .int a0), (2, .int a1)]) [0, 1, 2] rfl
      exact hj _ _ _ _ _ hl hw
  ·
    replace h := (if_neg c14).symm.trans h
    refine lv_bipush (v := (-9)) hx hb d1_9_10 (by decide) ?_
    cases h
    exact finH_i hQ hx hb hr hlk hE hw d1_9_12
theorem d1_10_0 : decode prog_1_method_10_code 0 = .ok (.iload_n 1, 1) := by decide +kernel
theorem d1_10_1 : decode prog_1_method_10_code 1 = .ok (.ifCond .lt 25, 3) := by decide +kernel
theorem d1_10_26 : decode prog_1_method_10_code 26 = .ok (.iconst (-1), 1) := by decide +kernel
theorem d1_10_4 : decode prog_1_method_10_code 4 = .ok (.iload_n 1, 1) := by decide +kernel
theorem d1_10_5 : decode prog_1_method_10_code 5 = .ok (.aload_n 0, 1) := by decide +kernel
theorem d1_10_6 : decode prog_1_method_10_code 6 = .ok (.getfield 54, 3) := by decide +kernel
theorem d1_10_9 : decode prog_1_method_10_code 9 = .ok (.invokevirtual 151, 3) := by decide +kernel
theorem d1_10_12 : decode prog_1_method_10_code 12 = .ok (.if_icmp .ge 14, 3) := by decide +kernel
theorem d1_10_15 : decode prog_1_method_10_code 15 = .ok (.aload_n 0, 1) := by decide +kernel
theorem d1_10_16 : decode prog_1_method_10_code 16 = .ok (.getfield 54, 3) := by decide +kernel
theorem d1_10_19 : decode prog_1_method_10_code 19 = .ok (.iload_n 1, 1) := by decide +kernel
theorem d1_10_20 : decode prog_1_method_10_code 20 = .ok (.invokevirtual 153, 3) := by decide +kernel
theorem k1100 : (Jvm.Cond.code ({ cls := "java/lang/StringBuilder", name := "charAt", desc := "(I)C" } : Jvm.MethodName) prog_22_method_88_code (2 : Nat) (Option.some Jvm.ClassFile.FieldType.char)) ∈ TB := tk_5 140 rfl rfl
theorem k1097 : (Jvm.Cond.methodLink "PagedValues" (153 : Nat) ({ cls := "java/lang/StringBuilder", name := "charAt", desc := "(I)C" } : Jvm.MethodName)) ∈ TB := tk_5 137 rfl rfl
theorem k1098 : (Jvm.Cond.instanceMethod ({ cls := "java/lang/StringBuilder", name := "charAt", desc := "(I)C" } : Jvm.MethodName)) ∈ TB := tk_5 138 rfl rfl
theorem k1099 : (Jvm.Cond.selects "java/lang/StringBuilder" ({ cls := "java/lang/StringBuilder", name := "charAt", desc := "(I)C" } : Jvm.MethodName) ({ cls := "java/lang/StringBuilder", name := "charAt", desc := "(I)C" } : Jvm.MethodName)) ∈ TB := tk_5 139 rfl rfl
theorem d1_10_23 : decode prog_1_method_10_code 23 = .ok (.goto 4, 3) := by decide +kernel
theorem d1_10_27 : decode prog_1_method_10_code 27 = .ok (.ireturn, 1) := by decide +kernel
def y1_10 : MethodName := { cls := "PagedValues", name := "output", desc := "(I)I" }
def c_PagedValues_output (Zd : Nat → Nat) (K : KE) (o : Nat) (a0 : Int32) (st : CS) : Option (Int32) := (if a0 < (0 : Int32) then (some ((-1) : Int32)) else ((gQ K st o 0 6).bind fun x14 => x14.bind fun a15z => (isO K st a15z 2).bind fun _ => (c_StringBuilder_length Zd K a15z st).bind fun x16 => if x16 ≤ a0 then (some ((-1) : Int32)) else ((gQ K st o 0 6).bind fun x20 => x20.bind fun a21z => (isO K st a21z 2).bind fun _ => (c_StringBuilder_charAt Zd K a21z a0 st).bind fun x22 => some x22))).bind fun e11 => some e11
set_option maxHeartbeats 4000000 in
set_option maxRecDepth 100000 in
theorem cc_PagedValues_output (l : Launch) (G : Gk) (Zd : Nat → Nat) (K : KE) (o : Nat) (a0 : Int32) (st : CS) (r0 : Int32) (hm : c_PagedValues_output Zd K o a0 st = some r0) : CT l y1_10 prog_1_method_10_code 2 (some .int) G Zd K (4) [.ref o, .int a0] st (hI G Zd r0 st) := by
  refine goH (d := 4) (y := y1_10) (cc := prog_1_method_10_code) (maxL := 2) (ret := (some .int)) (av := [.ref o, .int a0]) (Qc := hI G Zd r0 st) "PagedValues" rfl (by decide) (c1_c rfl (c1_c rfl c1_n)) (Nat.le_of_ble_eq_true rfl) ?_
  intro p e s m below meth c ls A args Q hQ hx hb hr hlk hml hown hts hin hl hE hw
  have hl : lw ls 2 [(0, .ref o), (1, .int a0)] := hl
  have hZ := hE.2.2.1
  have h := hm
  clear hm
  refine lv_iload_n hx hb d1_10_0 rfl (lv_at hl.1 1 rfl) ?_
  obtain ⟨e11, hX, h⟩ := ob h
  have hj : ∀ (H : Heap) (locs : List Loc) (cells slots : Nat) (ls : Array Slot), lw ls 2 [(0, .ref o), (1, .int a0)] → wsH G Zd A s st H locs → W p l e (rmH Zd (4) st.1) s m args below meth c H locs cells slots Q (F0 m 27 ls [.int e11]) := by
    intro H locs cells slots ls hl hw
    cases h
    exact finH_i hQ hx hb hr hlk hE hw d1_10_27
  clear h
  refine lv_if_lt (tgt := 26) hx hb d1_10_1 rfl (fun c13 => ?_) (fun c13 => ?_)
  ·
    replace h := (if_pos c13).symm.trans hX
    refine lv_iconst (v := (-1)) hx hb d1_10_26 (by decide) ?_
    have e9 := Option.some.inj h
    subst e11
    have hl := lw_sub hl (l' := [(0, .ref o), (1, .int a0)]) [0, 1] rfl
    exact hj _ _ _ _ _ hl hw
  ·
    replace h := (if_neg c13).symm.trans hX
    refine lv_iload_n hx hb d1_10_4 rfl (lv_at hl.1 1 rfl) ?_
    refine lv_aload_n hx hb d1_10_5 rfl (lv_at hl.1 0 rfl) ?_
    obtain ⟨x14, hr, h⟩ := ob h
    refine xg_q (ci := 0) (C := r_0) (T := f_0) (N := 7) (ref := "PagedValues") hx hb hts (fun w h => List.mem_cons_of_mem _ (ly_0 w h)) hown hE hw rfl 6 (by decide) (hts _ (List.mem_cons_of_mem _ k276)) (fun _ h9 => h9) hr d1_10_6 ?_
    clear hr
    obtain ⟨a15z, hn15, h⟩ := ob h
    have hn15 : x14 = some a15z := hn15
    refine W.eq (g2 := F0 m 9 ls [.ref a15z, .int a0]) (by rw [hn15]; rfl) ?_
    obtain ⟨u9, ho, h⟩ := ob h
    obtain ⟨x16, hc, h⟩ := ob h
    refine hV_i (ci := 2) (As := []) (rest := [.int a0]) ⟨hx, hb, hml, hown, hts⟩ (cc_StringBuilder_length l G Zd K a15z st x16 hc) (kw_V (n := 0) hts k480 k1088 k4 k479 k1664 (by decide +kernel) ⟨Nat.le_of_ble_eq_true rfl, Nat.le_of_ble_eq_true rfl⟩) hE hw rfl rfl ho rfl hl.1.1 rfl (c1_8 (c1_c rfl c1_n) (Nat.le_of_ble_eq_true rfl)) d1_10_9 (fun H locs cells slots hw => ?_)
    clear hc ho u9
    refine W.eq (g2 := F0 m 12 ls [.int x16, .int a0]) rfl ?_
    refine lv_icmp_ge (tgt := 26) hx hb d1_10_12 rfl (fun c19 => ?_) (fun c19 => ?_)
    ·
      replace h := (if_pos c19).symm.trans h
      refine lv_iconst (v := (-1)) hx hb d1_10_26 (by decide) ?_
      have e9 := Option.some.inj h
      subst e11
      have hl := lw_sub hl (l' := [(0, .ref o), (1, .int a0)]) [0, 1] rfl
      exact hj _ _ _ _ _ hl hw
    ·
      replace h := (if_neg c19).symm.trans h
      refine lv_aload_n hx hb d1_10_15 rfl (lv_at hl.1 0 rfl) ?_
      obtain ⟨x20, hr, h⟩ := ob h
      refine xg_q (ci := 0) (C := r_0) (T := f_0) (N := 7) (ref := "PagedValues") hx hb hts (fun w h => List.mem_cons_of_mem _ (ly_0 w h)) hown hE hw rfl 6 (by decide) (hts _ (List.mem_cons_of_mem _ k276)) (fun _ h9 => h9) hr d1_10_16 ?_
      clear hr
      refine lv_iload_n hx hb d1_10_19 rfl (lv_at hl.1 1 rfl) ?_
      obtain ⟨a21z, hn21, h⟩ := ob h
      have hn21 : x20 = some a21z := hn21
      refine W.eq (g2 := F0 m 20 ls [.int a0, .ref a21z]) (by rw [hn21]; rfl) ?_
      obtain ⟨u9, ho, h⟩ := ob h
      obtain ⟨x22, hc, h⟩ := ob h
      refine hV_i (ci := 2) (As := [.int a0]) (rest := []) ⟨hx, hb, hml, hown, hts⟩ (cc_StringBuilder_charAt l G Zd K a21z a0 st x22 hc) (kw_V (n := 1) hts k1100 k1097 k4 k1098 k1099 (by decide +kernel) ⟨Nat.le_of_ble_eq_true rfl, Nat.le_of_ble_eq_true rfl⟩) hE hw rfl rfl ho rfl hl.1.1 rfl (c1_8 c1_n (Nat.le_of_ble_eq_true rfl)) d1_10_20 (fun H locs cells slots hw => ?_)
      clear hc ho u9
      refine W.eq (g2 := F0 m 23 ls [.int x22]) rfl ?_
      refine lv_goto (tgt := 27) hx hb d1_10_23 rfl ?_
      have e9 := Option.some.inj h
      subst e11
      have hl := lw_sub hl (l' := [(0, .ref o), (1, .int a0)]) [0, 1] rfl
      exact hj _ _ _ _ _ hl hw
theorem d1_11_0 : decode prog_1_method_11_code 0 = .ok (.aload_n 0, 1) := by decide +kernel
theorem d1_11_1 : decode prog_1_method_11_code 1 = .ok (.getfield 47, 3) := by decide +kernel
theorem d1_11_4 : decode prog_1_method_11_code 4 = .ok (.getfield 58, 3) := by decide +kernel
theorem d1_11_7 : decode prog_1_method_11_code 7 = .ok (.ifCond .eq 8, 3) := by decide +kernel
theorem d1_11_15 : decode prog_1_method_11_code 15 = .ok (.aload_n 0, 1) := by decide +kernel
theorem d1_11_16 : decode prog_1_method_11_code 16 = .ok (.getfield 47, 3) := by decide +kernel
theorem d1_11_19 : decode prog_1_method_11_code 19 = .ok (.invokevirtual 157, 3) := by decide +kernel
theorem d10_7_0 : decode prog_10_method_7_code 0 = .ok (.iconst 0, 1) := by decide +kernel
theorem d10_7_1 : decode prog_10_method_7_code 1 = .ok (.istore_n 1, 1) := by decide +kernel
theorem d10_7_41 : decode prog_10_method_7_code 41 = .ok (.iconst (-1), 1) := by decide +kernel
theorem d10_7_42 : decode prog_10_method_7_code 42 = .ok (.ireturn, 1) := by decide +kernel
theorem d10_7_2 : decode prog_10_method_7_code 2 = .ok (.iload_n 1, 1) := by decide +kernel
theorem d10_7_3 : decode prog_10_method_7_code 3 = .ok (.iconst 3, 1) := by decide +kernel
theorem d10_7_4 : decode prog_10_method_7_code 4 = .ok (.if_icmp .ge 37, 3) := by decide +kernel
theorem d10_7_7 : decode prog_10_method_7_code 7 = .ok (.aload_n 0, 1) := by decide +kernel
theorem d10_7_8 : decode prog_10_method_7_code 8 = .ok (.getfield 24, 3) := by decide +kernel
theorem d10_7_11 : decode prog_10_method_7_code 11 = .ok (.iload_n 1, 1) := by decide +kernel
theorem d10_7_12 : decode prog_10_method_7_code 12 = .ok (.baload, 1) := by decide +kernel
theorem d10_7_13 : decode prog_10_method_7_code 13 = .ok (.ifCond .ne 22, 3) := by decide +kernel
theorem d10_7_35 : decode prog_10_method_7_code 35 = .ok (.iinc 1 1, 3) := by decide +kernel
theorem d10_7_38 : decode prog_10_method_7_code 38 = .ok (.goto (-36), 3) := by decide +kernel
theorem d10_7_16 : decode prog_10_method_7_code 16 = .ok (.aload_n 0, 1) := by decide +kernel
theorem d10_7_17 : decode prog_10_method_7_code 17 = .ok (.getfield 24, 3) := by decide +kernel
theorem d10_7_20 : decode prog_10_method_7_code 20 = .ok (.iload_n 1, 1) := by decide +kernel
theorem d10_7_21 : decode prog_10_method_7_code 21 = .ok (.iconst 1, 1) := by decide +kernel
theorem d10_7_22 : decode prog_10_method_7_code 22 = .ok (.bastore, 1) := by decide +kernel
theorem d10_7_23 : decode prog_10_method_7_code 23 = .ok (.aload_n 0, 1) := by decide +kernel
theorem d10_7_24 : decode prog_10_method_7_code 24 = .ok (.getfield 28, 3) := by decide +kernel
theorem d10_7_27 : decode prog_10_method_7_code 27 = .ok (.iload_n 1, 1) := by decide +kernel
theorem d10_7_28 : decode prog_10_method_7_code 28 = .ok (.aload_n 0, 1) := by decide +kernel
theorem d10_7_29 : decode prog_10_method_7_code 29 = .ok (.invokevirtual 46, 3) := by decide +kernel
theorem d10_7_32 : decode prog_10_method_7_code 32 = .ok (.iastore, 1) := by decide +kernel
theorem d10_7_33 : decode prog_10_method_7_code 33 = .ok (.iload_n 1, 1) := by decide +kernel
theorem d10_7_34 : decode prog_10_method_7_code 34 = .ok (.ireturn, 1) := by decide +kernel
def y10_7 : MethodName := { cls := "PagedValues$Store", name := "openReader", desc := "()I" }
theorem k1114 : (Jvm.Cond.code ({ cls := "PagedValues$Store", name := "openReader", desc := "()I" } : Jvm.MethodName) prog_10_method_7_code (2 : Nat) (Option.some Jvm.ClassFile.FieldType.int)) ∈ TB := tk_5 154 rfl rfl
theorem k1111 : (Jvm.Cond.methodLink "PagedValues" (157 : Nat) ({ cls := "PagedValues$Store", name := "openReader", desc := "()I" } : Jvm.MethodName)) ∈ TB := tk_5 151 rfl rfl
theorem k1112 : (Jvm.Cond.instanceMethod ({ cls := "PagedValues$Store", name := "openReader", desc := "()I" } : Jvm.MethodName)) ∈ TB := tk_5 152 rfl rfl
theorem k1113 : (Jvm.Cond.selects "PagedValues$Store" ({ cls := "PagedValues$Store", name := "openReader", desc := "()I" } : Jvm.MethodName) ({ cls := "PagedValues$Store", name := "openReader", desc := "()I" } : Jvm.MethodName)) ∈ TB := tk_5 153 rfl rfl
theorem d1_11_10 : decode prog_1_method_11_code 10 = .ok (.bipush (-9), 2) := by decide +kernel
theorem d1_11_12 : decode prog_1_method_11_code 12 = .ok (.goto 10, 3) := by decide +kernel
theorem d1_11_22 : decode prog_1_method_11_code 22 = .ok (.ireturn, 1) := by decide +kernel
def y1_11 : MethodName := { cls := "PagedValues", name := "open", desc := "()I" }
def c_Store_openReader_l1 (Zd : Nat → Nat) (K : KE) (o : Nat) (st : CS) : Nat → (Int32) → Option ((Int32 × CS) ⊕ (Int32))
  | 0, _ => none
  | n9 + 1, e9 => if (3 : Int32) ≤ e9 then (some (.inr e9)) else ((gQ K st o 9 3).bind fun x15 => x15.bind fun a16z => (rA K st a16z 3 e9).bind fun x17 => if x17 = (0 : Int32) then ((gQ K st o 9 3).bind fun x20 => x20.bind fun a21z => (wA st a21z 3 e9 (vp_nar .boolean (1 : Int32))).bind fun st22 => (gQ K st22 o 9 4).bind fun x23 => (isO K st22 o 9).bind fun _ => (c_Store_currentRoot Zd K o st22).bind fun x24 => x23.bind fun a27z => (wA st22 a27z 1 e9 (x24)).bind fun st28 => some (.inl (e9, st28))) else ((some (e9 + 1)).bind fun y19 => c_Store_openReader_l1 Zd K o st n9 y19))
theorem c_Store_openReader_l1_s (Zd : Nat → Nat) (K : KE) (o : Nat) (st : CS) (n9 : Nat) (e9 : Int32) : c_Store_openReader_l1 Zd K o st (n9 + 1) e9 = (if (3 : Int32) ≤ e9 then (some (.inr e9)) else ((gQ K st o 9 3).bind fun x15 => x15.bind fun a16z => (rA K st a16z 3 e9).bind fun x17 => if x17 = (0 : Int32) then ((gQ K st o 9 3).bind fun x20 => x20.bind fun a21z => (wA st a21z 3 e9 (vp_nar .boolean (1 : Int32))).bind fun st22 => (gQ K st22 o 9 4).bind fun x23 => (isO K st22 o 9).bind fun _ => (c_Store_currentRoot Zd K o st22).bind fun x24 => x23.bind fun a27z => (wA st22 a27z 1 e9 (x24)).bind fun st28 => some (.inl (e9, st28))) else ((some (e9 + 1)).bind fun y19 => c_Store_openReader_l1 Zd K o st n9 y19))) := rfl
def c_Store_openReader (Zd : Nat → Nat) (K : KE) (o : Nat) (st : CS) : Option (Int32 × CS) := (c_Store_openReader_l1 Zd K o st 4096 (0 : Int32)).bind fun e11 => match e11 with | .inl o9 => some o9 | .inr e8 => some (((-1) : Int32), st)
set_option maxHeartbeats 4000000 in
set_option maxRecDepth 100000 in
theorem cc_Store_openReader (l : Launch) (G : Gk) (Zd : Nat → Nat) (K : KE) (o : Nat) (st : CS) (r0 : Int32) (st0 : CS) (hm : c_Store_openReader Zd K o st = some (r0, st0)) : CT l y10_7 prog_10_method_7_code 2 (some .int) G Zd K (2) [.ref o] st (hI G Zd r0 st0) := by
  refine goH (d := 2) (y := y10_7) (cc := prog_10_method_7_code) (maxL := 2) (ret := (some .int)) (av := [.ref o]) (Qc := hI G Zd r0 st0) "PagedValues$Store" rfl (by decide) (c1_c rfl c1_n) (Nat.le_of_ble_eq_true rfl) ?_
  intro p e s m below meth c ls A args Q hQ hx hb hr hlk hml hown hts hin hl hE hw
  have hl : lw ls 2 [(0, .ref o)] := hl
  have hZ := hE.2.2.1
  have h := hm
  clear hm
  refine lv_iconst (v := 0) hx hb d10_7_0 (by decide) ?_
  refine xt_istore_n (x := 0) (lv' := [(1, .int 0), (0, .ref o)]) hx hb d10_7_1 rfl hl (by decide) rfl (fun ls hl => ?_)
  obtain ⟨e11, hX, hrest⟩ := ob h
  clear h
  have hj : ∀ (v13 : Int32), e11 = .inr (v13) → ∀ (H : Heap) (locs : List Loc) (cells slots : Nat) (ls : Array Slot), lw ls 2 [(0, .ref o), (1, .int v13)] → wsH G Zd A s st H locs → W p l e (rmH Zd (2) st.1) s m args below meth c H locs cells slots Q (F0 m 41 ls []) := by
    intro v13 he H locs cells slots ls hl hw
    subst e11
    have h := hrest
    clear hrest
    refine lv_iconst (v := (-1)) hx hb d10_7_41 (by decide) ?_
    cases h
    exact finH_i hQ hx hb hr hlk hE hw d10_7_42
  have hloop : ∀ (n9 : Nat) (v12 : Int32), c_Store_openReader_l1 Zd K o st n9 (v12) = some e11 → ∀ (H : Heap) (locs : List Loc) (cells slots : Nat) (ls : Array Slot), lw ls 2 [(0, .ref o), (1, .int v12)] → wsH G Zd A s st H locs → W p l e (rmH Zd (2) st.1) s m args below meth c H locs cells slots Q (F0 m 2 ls []) := by
    intro n9
    induction n9 with
    | zero =>
      intro v12 h
      cases h
    | succ n9 ih =>
      intro v12 h H locs cells slots ls hl hw
      replace h := (c_Store_openReader_l1_s Zd K o st n9 (v12)).symm.trans h
      refine lv_iload_n hx hb d10_7_2 rfl (lv_at hl.1 1 rfl) ?_
      refine lv_iconst (v := 3) hx hb d10_7_3 (by decide) ?_
      refine lv_icmp_ge (tgt := 41) hx hb d10_7_4 rfl (fun c14 => ?_) (fun c14 => ?_)
      ·
        replace h := (if_pos c14).symm.trans h
        have e9 := Option.some.inj h
        subst e11
        have hl := lw_sub hl (l' := [(0, .ref o), (1, .int v12)]) [0, 1] rfl
        exact hj _ rfl _ _ _ _ _ hl hw
      ·
        replace h := (if_neg c14).symm.trans h
        refine lv_aload_n hx hb d10_7_7 rfl (lv_at hl.1 0 rfl) ?_
        obtain ⟨x15, hr, h⟩ := ob h
        refine xg_q (ci := 9) (C := r_9) (T := f_9) (N := 9) (ref := "PagedValues$Store") hx hb hts (fun w h => List.mem_cons_of_mem _ (ly_9 w h)) hown hE hw rfl 3 (by decide) (hts _ (List.mem_cons_of_mem _ k240)) (fun _ h9 => h9) hr d10_7_8 ?_
        clear hr
        refine lv_iload_n hx hb d10_7_11 rfl (lv_at hl.1 1 rfl) ?_
        obtain ⟨a16z, hn16, h⟩ := ob h
        have hn16 : x15 = some a16z := hn16
        refine W.eq (g2 := F0 m 12 ls [.int v12, .ref a16z]) (by rw [hn16]; rfl) ?_
        obtain ⟨x17, hr, h⟩ := ob h
        refine xa_z hx hb hE hw (i := v12) hr d10_7_12 ?_
        clear hr
        refine lv_if_ne (tgt := 35) hx hb d10_7_13 rfl (fun c18 => ?_) (fun c18 => ?_)
        ·
          replace h := (if_neg c18).symm.trans h
          obtain ⟨y19, hr, h⟩ := ob h
          refine xt_iinc (k := 1) (v := y19) (lv' := [(1, .int y19), (0, .ref o)]) hx hb d10_7_35 hl rfl hr (by decide) rfl (fun ls hl => ?_)
          clear hr
          refine lv_goto (tgt := 2) hx hb d10_7_38 rfl ?_
          have hl := lw_sub hl (l' := [(0, .ref o), (1, .int y19)]) [1, 0] rfl
          exact ih _ h _ _ _ _ _ hl hw
        ·
          replace h := (if_pos c18).symm.trans h
          refine lv_aload_n hx hb d10_7_16 rfl (lv_at hl.1 0 rfl) ?_
          obtain ⟨x20, hr, h⟩ := ob h
          refine xg_q (ci := 9) (C := r_9) (T := f_9) (N := 9) (ref := "PagedValues$Store") hx hb hts (fun w h => List.mem_cons_of_mem _ (ly_9 w h)) hown hE hw rfl 3 (by decide) (hts _ (List.mem_cons_of_mem _ k240)) (fun _ h9 => h9) hr d10_7_17 ?_
          clear hr
          refine lv_iload_n hx hb d10_7_20 rfl (lv_at hl.1 1 rfl) ?_
          refine lv_iconst (v := 1) hx hb d10_7_21 (by decide) ?_
          obtain ⟨a21z, hn21, h⟩ := ob h
          have hn21 : x20 = some a21z := hn21
          refine W.eq (g2 := F0 m 22 ls [.int 1, .int v12, .ref a21z]) (by rw [hn21]; rfl) ?_
          obtain ⟨st22, hr, h⟩ := ob h
          refine xs_z hx hb hE hw (i := v12) (v := (1 : Int32)) hr d10_7_22 (fun H locs hw => ?_)
          clear hr
          refine lv_aload_n hx hb d10_7_23 rfl (lv_at hl.1 0 rfl) ?_
          obtain ⟨x23, hr, h⟩ := ob h
          refine xg_q (ci := 9) (C := r_9) (T := f_9) (N := 9) (ref := "PagedValues$Store") hx hb hts (fun w h => List.mem_cons_of_mem _ (ly_9 w h)) hown hE hw rfl 4 (by decide) (hts _ (List.mem_cons_of_mem _ k241)) (fun _ h9 => h9) hr d10_7_24 ?_
          clear hr
          refine lv_iload_n hx hb d10_7_27 rfl (lv_at hl.1 1 rfl) ?_
          refine lv_aload_n hx hb d10_7_28 rfl (lv_at hl.1 0 rfl) ?_
          obtain ⟨u9, ho, h⟩ := ob h
          obtain ⟨x24, hc, h⟩ := ob h
          refine hV_i (ci := 9) (As := []) (rest := [.int v12, va_rf x23]) ⟨hx, hb, hml, hown, hts⟩ (cc_Store_currentRoot l G Zd K o st22 x24 hc) (kw_V (n := 0) hts k686 k683 k13 k684 k685 (by decide +kernel) ⟨Nat.le_of_ble_eq_true rfl, Nat.le_of_ble_eq_true rfl⟩) hE hw rfl rfl ho rfl hl.1.1 rfl (c1_8 (c1_c rfl (c1_c (rf_cat _) c1_n)) (Nat.le_of_ble_eq_true rfl)) d10_7_29 (fun H locs cells slots hw => ?_)
          clear hc ho u9
          refine W.eq (g2 := F0 m 32 ls [.int x24, .int v12, va_rf x23]) rfl ?_
          obtain ⟨a27z, hn27, h⟩ := ob h
          have hn27 : x23 = some a27z := hn27
          refine W.eq (g2 := F0 m 32 ls [.int x24, .int v12, .ref a27z]) (by rw [hn27]; rfl) ?_
          obtain ⟨st28, hr, h⟩ := ob h
          refine xs_i hx hb hE hw (i := v12) (v := x24) hr d10_7_32 (fun H locs hw => ?_)
          clear hr
          refine lv_iload_n hx hb d10_7_33 rfl (lv_at hl.1 1 rfl) ?_
          cases h
          cases hrest
          exact finH_i hQ hx hb hr hlk hE hw d10_7_34
  have hl := lw_sub hl (l' := [(0, .ref o), (1, .int 0)]) [1, 0] rfl
  exact hloop _ _ hX _ _ _ _ _ hl hw
def c_PagedValues_open (Zd : Nat → Nat) (K : KE) (o : Nat) (st : CS) : Option (Int32 × CS) := (gQ K st o 0 5).bind fun x11 => x11.bind fun a12z => (gI K st a12z 9 8).bind fun x13 => (if x13 = (0 : Int32) then ((gQ K st o 0 5).bind fun x18 => x18.bind fun a19z => (isO K st a19z 9).bind fun _ => (c_Store_openReader Zd K a19z st).bind fun r22 => some (r22.1, r22.2)) else (some (((-9) : Int32), st))).bind fun e14 => some (e14.1, e14.2)
set_option maxHeartbeats 4000000 in
set_option maxRecDepth 100000 in
theorem cc_PagedValues_open (l : Launch) (G : Gk) (Zd : Nat → Nat) (K : KE) (o : Nat) (st : CS) (r0 : Int32) (st0 : CS) (hm : c_PagedValues_open Zd K o st = some (r0, st0)) : CT l y1_11 prog_1_method_11_code 1 (some .int) G Zd K (3) [.ref o] st (hI G Zd r0 st0) := by
  refine goH (d := 3) (y := y1_11) (cc := prog_1_method_11_code) (maxL := 1) (ret := (some .int)) (av := [.ref o]) (Qc := hI G Zd r0 st0) "PagedValues" rfl (by decide) (c1_c rfl c1_n) (Nat.le_of_ble_eq_true rfl) ?_
  intro p e s m below meth c ls A args Q hQ hx hb hr hlk hml hown hts hin hl hE hw
  have hl : lw ls 1 [(0, .ref o)] := hl
  have hZ := hE.2.2.1
  have h := hm
  clear hm
  refine lv_aload_n hx hb d1_11_0 rfl (lv_at hl.1 0 rfl) ?_
  obtain ⟨x11, hr, h⟩ := ob h
  refine xg_q (ci := 0) (C := r_0) (T := f_0) (N := 7) (ref := "PagedValues") hx hb hts (fun w h => List.mem_cons_of_mem _ (ly_0 w h)) hown hE hw rfl 5 (by decide) (hts _ (List.mem_cons_of_mem _ k275)) (fun _ h9 => h9) hr d1_11_1 ?_
  clear hr
  obtain ⟨a12z, hn12, h⟩ := ob h
  have hn12 : x11 = some a12z := hn12
  refine W.eq (g2 := F0 m 4 ls [.ref a12z]) (by rw [hn12]; rfl) ?_
  obtain ⟨x13, hr, h⟩ := ob h
  refine xgN_i (ci := 9) (C := r_9) (T := f_9) (N := 9) (ref := "PagedValues$Store") hx hb hts (fun w h => List.mem_cons_of_mem _ (ly_9 w h)) hown hE hw rfl 8 (by decide) (va_Nw.use rfl (hZ.1.1 _ kn247)) (fun _ h9 => h9) hr d1_11_4 ?_
  clear hr
  obtain ⟨e14, hX, h⟩ := ob h
  obtain ⟨v15, v16⟩ := e14
  have hj : ∀ (H : Heap) (locs : List Loc) (cells slots : Nat) (ls : Array Slot), lw ls 1 [(0, .ref o)] → wsH G Zd A s v16 H locs → W p l e (rmH Zd (3) st.1) s m args below meth c H locs cells slots Q (F0 m 22 ls [.int v15]) := by
    intro H locs cells slots ls hl hw
    cases h
    exact finH_i hQ hx hb hr hlk hE hw d1_11_22
  clear h
  refine lv_if_eq (tgt := 15) hx hb d1_11_7 rfl (fun c17 => ?_) (fun c17 => ?_)
  ·
    replace h := (if_pos c17).symm.trans hX
    refine lv_aload_n hx hb d1_11_15 rfl (lv_at hl.1 0 rfl) ?_
    obtain ⟨x18, hr, h⟩ := ob h
    refine xg_q (ci := 0) (C := r_0) (T := f_0) (N := 7) (ref := "PagedValues") hx hb hts (fun w h => List.mem_cons_of_mem _ (ly_0 w h)) hown hE hw rfl 5 (by decide) (hts _ (List.mem_cons_of_mem _ k275)) (fun _ h9 => h9) hr d1_11_16 ?_
    clear hr
    obtain ⟨a19z, hn19, h⟩ := ob h
    have hn19 : x18 = some a19z := hn19
    refine W.eq (g2 := F0 m 19 ls [.ref a19z]) (by rw [hn19]; rfl) ?_
    obtain ⟨u9, ho, h⟩ := ob h
    obtain ⟨⟨x20, st21⟩, hc, h⟩ := ob h
    refine hV_i (ci := 9) (As := []) (rest := []) ⟨hx, hb, hml, hown, hts⟩ (cc_Store_openReader l G Zd K a19z st x20 st21 hc) (kw_V (n := 0) hts k1114 k1111 k13 k1112 k1113 (by decide +kernel) ⟨Nat.le_of_ble_eq_true rfl, Nat.le_of_ble_eq_true rfl⟩) hE hw rfl rfl ho rfl hl.1.1 rfl (c1_8 c1_n (Nat.le_of_ble_eq_true rfl)) d1_11_19 (fun H locs cells slots hw => ?_)
    clear hc ho u9
    refine W.eq (g2 := F0 m 22 ls [.int x20]) rfl ?_
    have e9_0 := Option.some.inj h
    obtain ⟨q9, e9_1⟩ := Prod.mk.inj e9_0
    clear e9_0
    subst v15
    subst v16
    have hl := lw_sub hl (l' := [(0, .ref o)]) [0] rfl
    exact hj _ _ _ _ _ hl hw
  ·
    replace h := (if_neg c17).symm.trans hX
    refine lv_bipush (v := (-9)) hx hb d1_11_10 (by decide) ?_
    refine lv_goto (tgt := 22) hx hb d1_11_12 rfl ?_
    have e9_0 := Option.some.inj h
    obtain ⟨q9, e9_1⟩ := Prod.mk.inj e9_0
    clear e9_0
    subst v15
    subst v16
    have hl := lw_sub hl (l' := [(0, .ref o)]) [0] rfl
    exact hj _ _ _ _ _ hl hw
theorem d1_12_0 : decode prog_1_method_12_code 0 = .ok (.aload_n 0, 1) := by decide +kernel
theorem d1_12_1 : decode prog_1_method_12_code 1 = .ok (.getfield 47, 3) := by decide +kernel
theorem d1_12_4 : decode prog_1_method_12_code 4 = .ok (.getfield 58, 3) := by decide +kernel
theorem d1_12_7 : decode prog_1_method_12_code 7 = .ok (.ifCond .ne 18, 3) := by decide +kernel
theorem d1_12_25 : decode prog_1_method_12_code 25 = .ok (.iconst 0, 1) := by decide +kernel
theorem d1_12_10 : decode prog_1_method_12_code 10 = .ok (.aload_n 0, 1) := by decide +kernel
theorem d1_12_11 : decode prog_1_method_12_code 11 = .ok (.getfield 47, 3) := by decide +kernel
theorem d1_12_14 : decode prog_1_method_12_code 14 = .ok (.iload_n 1, 1) := by decide +kernel
theorem d1_12_15 : decode prog_1_method_12_code 15 = .ok (.invokevirtual 160, 3) := by decide +kernel
theorem d10_8_0 : decode prog_10_method_8_code 0 = .ok (.aload_n 0, 1) := by decide +kernel
theorem d10_8_1 : decode prog_10_method_8_code 1 = .ok (.iload_n 1, 1) := by decide +kernel
theorem d10_8_2 : decode prog_10_method_8_code 2 = .ok (.invokevirtual 42, 3) := by decide +kernel
theorem d10_8_5 : decode prog_10_method_8_code 5 = .ok (.ifCond .ne 5, 3) := by decide +kernel
theorem d10_8_10 : decode prog_10_method_8_code 10 = .ok (.aload_n 0, 1) := by decide +kernel
theorem d10_8_11 : decode prog_10_method_8_code 11 = .ok (.getfield 24, 3) := by decide +kernel
theorem d10_8_14 : decode prog_10_method_8_code 14 = .ok (.iload_n 1, 1) := by decide +kernel
theorem d10_8_15 : decode prog_10_method_8_code 15 = .ok (.iconst 0, 1) := by decide +kernel
theorem d10_8_16 : decode prog_10_method_8_code 16 = .ok (.bastore, 1) := by decide +kernel
theorem d10_8_17 : decode prog_10_method_8_code 17 = .ok (.iconst 1, 1) := by decide +kernel
theorem d10_8_18 : decode prog_10_method_8_code 18 = .ok (.ireturn, 1) := by decide +kernel
theorem d10_8_8 : decode prog_10_method_8_code 8 = .ok (.iconst 0, 1) := by decide +kernel
theorem d10_8_9 : decode prog_10_method_8_code 9 = .ok (.ireturn, 1) := by decide +kernel
def y10_8 : MethodName := { cls := "PagedValues$Store", name := "closeReader", desc := "(I)Z" }
theorem k1122 : (Jvm.Cond.code ({ cls := "PagedValues$Store", name := "closeReader", desc := "(I)Z" } : Jvm.MethodName) prog_10_method_8_code (2 : Nat) (Option.some Jvm.ClassFile.FieldType.boolean)) ∈ TB := tk_5 162 rfl rfl
theorem k1119 : (Jvm.Cond.methodLink "PagedValues" (160 : Nat) ({ cls := "PagedValues$Store", name := "closeReader", desc := "(I)Z" } : Jvm.MethodName)) ∈ TB := tk_5 159 rfl rfl
theorem k1120 : (Jvm.Cond.instanceMethod ({ cls := "PagedValues$Store", name := "closeReader", desc := "(I)Z" } : Jvm.MethodName)) ∈ TB := tk_5 160 rfl rfl
theorem k1121 : (Jvm.Cond.selects "PagedValues$Store" ({ cls := "PagedValues$Store", name := "closeReader", desc := "(I)Z" } : Jvm.MethodName) ({ cls := "PagedValues$Store", name := "closeReader", desc := "(I)Z" } : Jvm.MethodName)) ∈ TB := tk_5 161 rfl rfl
theorem d1_12_18 : decode prog_1_method_12_code 18 = .ok (.ifCond .eq 7, 3) := by decide +kernel
theorem d1_12_21 : decode prog_1_method_12_code 21 = .ok (.iconst 1, 1) := by decide +kernel
theorem d1_12_22 : decode prog_1_method_12_code 22 = .ok (.goto 4, 3) := by decide +kernel
theorem d1_12_26 : decode prog_1_method_12_code 26 = .ok (.ireturn, 1) := by decide +kernel
def y1_12 : MethodName := { cls := "PagedValues", name := "close", desc := "(I)Z" }
def c_Store_closeReader (Zd : Nat → Nat) (K : KE) (o : Nat) (a0 : Int32) (st : CS) : Option (Int32 × CS) := (isO K st o 9).bind fun _ => (c_Store_isOpen Zd K o a0 st).bind fun x11 => if x11 = (0 : Int32) then (some ((0 : Int32), st)) else ((gQ K st o 9 3).bind fun x15 => x15.bind fun a16z => (wA st a16z 3 a0 (vp_nar .boolean (0 : Int32))).bind fun st17 => some ((1 : Int32), st17))
set_option maxHeartbeats 4000000 in
set_option maxRecDepth 100000 in
theorem cc_Store_closeReader (l : Launch) (G : Gk) (Zd : Nat → Nat) (K : KE) (o : Nat) (a0 : Int32) (st : CS) (r0 : Int32) (st0 : CS) (hm : c_Store_closeReader Zd K o a0 st = some (r0, st0)) : CT l y10_8 prog_10_method_8_code 2 (some .boolean) G Zd K (1) [.ref o, .int a0] st (hI G Zd r0 st0) := by
  refine goH (d := 1) (y := y10_8) (cc := prog_10_method_8_code) (maxL := 2) (ret := (some .boolean)) (av := [.ref o, .int a0]) (Qc := hI G Zd r0 st0) "PagedValues$Store" rfl (by decide) (c1_c rfl (c1_c rfl c1_n)) (Nat.le_of_ble_eq_true rfl) ?_
  intro p e s m below meth c ls A args Q hQ hx hb hr hlk hml hown hts hin hl hE hw
  have hl : lw ls 2 [(0, .ref o), (1, .int a0)] := hl
  have hZ := hE.2.2.1
  have h := hm
  clear hm
  refine lv_aload_n hx hb d10_8_0 rfl (lv_at hl.1 0 rfl) ?_
  refine lv_iload_n hx hb d10_8_1 rfl (lv_at hl.1 1 rfl) ?_
  obtain ⟨u9, ho, h⟩ := ob h
  obtain ⟨x11, hc, h⟩ := ob h
  refine hV_i (ci := 9) (As := [.int a0]) (rest := []) ⟨hx, hb, hml, hown, hts⟩ (cc_Store_isOpen l G Zd K o a0 st x11 hc) (kw_V (n := 1) hts k887 k884 k13 k885 k886 (by decide +kernel) ⟨Nat.le_of_ble_eq_true rfl, Nat.le_of_ble_eq_true rfl⟩) hE hw rfl rfl ho rfl hl.1.1 rfl (c1_8 c1_n (Nat.le_of_ble_eq_true rfl)) d10_8_2 (fun H locs cells slots hw => ?_)
  clear hc ho u9
  refine W.eq (g2 := F0 m 5 ls [.int x11]) rfl ?_
  refine lv_if_ne (tgt := 10) hx hb d10_8_5 rfl (fun c14 => ?_) (fun c14 => ?_)
  ·
    replace h := (if_neg c14).symm.trans h
    refine lv_aload_n hx hb d10_8_10 rfl (lv_at hl.1 0 rfl) ?_
    obtain ⟨x15, hr, h⟩ := ob h
    refine xg_q (ci := 9) (C := r_9) (T := f_9) (N := 9) (ref := "PagedValues$Store") hx hb hts (fun w h => List.mem_cons_of_mem _ (ly_9 w h)) hown hE hw rfl 3 (by decide) (hts _ (List.mem_cons_of_mem _ k240)) (fun _ h9 => h9) hr d10_8_11 ?_
    clear hr
    refine lv_iload_n hx hb d10_8_14 rfl (lv_at hl.1 1 rfl) ?_
    refine lv_iconst (v := 0) hx hb d10_8_15 (by decide) ?_
    obtain ⟨a16z, hn16, h⟩ := ob h
    have hn16 : x15 = some a16z := hn16
    refine W.eq (g2 := F0 m 16 ls [.int 0, .int a0, .ref a16z]) (by rw [hn16]; rfl) ?_
    obtain ⟨st17, hr, h⟩ := ob h
    refine xs_z hx hb hE hw (i := a0) (v := (0 : Int32)) hr d10_8_16 (fun H locs hw => ?_)
    clear hr
    refine lv_iconst (v := 1) hx hb d10_8_17 (by decide) ?_
    cases h
    exact finH_z hQ hx hb hr hlk (by decide) hE hw d10_8_18
  ·
    replace h := (if_pos c14).symm.trans h
    refine lv_iconst (v := 0) hx hb d10_8_8 (by decide) ?_
    cases h
    exact finH_z hQ hx hb hr hlk (by decide) hE hw d10_8_9
def c_PagedValues_close (Zd : Nat → Nat) (K : KE) (o : Nat) (a0 : Int32) (st : CS) : Option (Int32 × CS) := (gQ K st o 0 5).bind fun x11 => x11.bind fun a12z => (gI K st a12z 9 8).bind fun x13 => (if x13 = (0 : Int32) then ((gQ K st o 0 5).bind fun x18 => x18.bind fun a19z => (isO K st a19z 9).bind fun _ => (c_Store_closeReader Zd K a19z a0 st).bind fun r22 => if r22.1 = (0 : Int32) then (some ((0 : Int32), r22.2)) else (some ((1 : Int32), r22.2))) else (some ((0 : Int32), st))).bind fun e14 => (bz e14.1).bind fun _ => some (e14.1, e14.2)
set_option maxHeartbeats 4000000 in
set_option maxRecDepth 100000 in
theorem cc_PagedValues_close (l : Launch) (G : Gk) (Zd : Nat → Nat) (K : KE) (o : Nat) (a0 : Int32) (st : CS) (r0 : Int32) (st0 : CS) (hm : c_PagedValues_close Zd K o a0 st = some (r0, st0)) : CT l y1_12 prog_1_method_12_code 2 (some .boolean) G Zd K (2) [.ref o, .int a0] st (hI G Zd r0 st0) := by
  refine goH (d := 2) (y := y1_12) (cc := prog_1_method_12_code) (maxL := 2) (ret := (some .boolean)) (av := [.ref o, .int a0]) (Qc := hI G Zd r0 st0) "PagedValues" rfl (by decide) (c1_c rfl (c1_c rfl c1_n)) (Nat.le_of_ble_eq_true rfl) ?_
  intro p e s m below meth c ls A args Q hQ hx hb hr hlk hml hown hts hin hl hE hw
  have hl : lw ls 2 [(0, .ref o), (1, .int a0)] := hl
  have hZ := hE.2.2.1
  have h := hm
  clear hm
  refine lv_aload_n hx hb d1_12_0 rfl (lv_at hl.1 0 rfl) ?_
  obtain ⟨x11, hr, h⟩ := ob h
  refine xg_q (ci := 0) (C := r_0) (T := f_0) (N := 7) (ref := "PagedValues") hx hb hts (fun w h => List.mem_cons_of_mem _ (ly_0 w h)) hown hE hw rfl 5 (by decide) (hts _ (List.mem_cons_of_mem _ k275)) (fun _ h9 => h9) hr d1_12_1 ?_
  clear hr
  obtain ⟨a12z, hn12, h⟩ := ob h
  have hn12 : x11 = some a12z := hn12
  refine W.eq (g2 := F0 m 4 ls [.ref a12z]) (by rw [hn12]; rfl) ?_
  obtain ⟨x13, hr, h⟩ := ob h
  refine xgN_i (ci := 9) (C := r_9) (T := f_9) (N := 9) (ref := "PagedValues$Store") hx hb hts (fun w h => List.mem_cons_of_mem _ (ly_9 w h)) hown hE hw rfl 8 (by decide) (va_Nw.use rfl (hZ.1.1 _ kn247)) (fun _ h9 => h9) hr d1_12_4 ?_
  clear hr
  obtain ⟨e14, hX, h⟩ := ob h
  obtain ⟨v15, v16⟩ := e14
  have hj : ∀ (H : Heap) (locs : List Loc) (cells slots : Nat) (ls : Array Slot), lw ls 2 [(0, .ref o), (1, .int a0)] → wsH G Zd A s v16 H locs → W p l e (rmH Zd (2) st.1) s m args below meth c H locs cells slots Q (F0 m 26 ls [.int v15]) := by
    intro H locs cells slots ls hl hw
    obtain ⟨u9, hr9, h⟩ := ob h
    have hi := bz_some hr9
    clear hr9 u9
    cases h
    exact finH_z hQ hx hb hr hlk (nar01 hi) hE hw d1_12_26
  clear h
  refine lv_if_ne (tgt := 25) hx hb d1_12_7 rfl (fun c17 => ?_) (fun c17 => ?_)
  ·
    replace h := (if_neg c17).symm.trans hX
    refine lv_iconst (v := 0) hx hb d1_12_25 (by decide) ?_
    have e9_0 := Option.some.inj h
    obtain ⟨q9, e9_1⟩ := Prod.mk.inj e9_0
    clear e9_0
    subst v15
    subst v16
    have hl := lw_sub hl (l' := [(0, .ref o), (1, .int a0)]) [0, 1] rfl
    exact hj _ _ _ _ _ hl hw
  ·
    replace h := (if_pos c17).symm.trans hX
    refine lv_aload_n hx hb d1_12_10 rfl (lv_at hl.1 0 rfl) ?_
    obtain ⟨x18, hr, h⟩ := ob h
    refine xg_q (ci := 0) (C := r_0) (T := f_0) (N := 7) (ref := "PagedValues") hx hb hts (fun w h => List.mem_cons_of_mem _ (ly_0 w h)) hown hE hw rfl 5 (by decide) (hts _ (List.mem_cons_of_mem _ k275)) (fun _ h9 => h9) hr d1_12_11 ?_
    clear hr
    refine lv_iload_n hx hb d1_12_14 rfl (lv_at hl.1 1 rfl) ?_
    obtain ⟨a19z, hn19, h⟩ := ob h
    have hn19 : x18 = some a19z := hn19
    refine W.eq (g2 := F0 m 15 ls [.int a0, .ref a19z]) (by rw [hn19]; rfl) ?_
    obtain ⟨u9, ho, h⟩ := ob h
    obtain ⟨⟨x20, st21⟩, hc, h⟩ := ob h
    refine hV_i (ci := 9) (As := [.int a0]) (rest := []) ⟨hx, hb, hml, hown, hts⟩ (cc_Store_closeReader l G Zd K a19z a0 st x20 st21 hc) (kw_V (n := 1) hts k1122 k1119 k13 k1120 k1121 (by decide +kernel) ⟨Nat.le_of_ble_eq_true rfl, Nat.le_of_ble_eq_true rfl⟩) hE hw rfl rfl ho rfl hl.1.1 rfl (c1_8 c1_n (Nat.le_of_ble_eq_true rfl)) d1_12_15 (fun H locs cells slots hw => ?_)
    clear hc ho u9
    refine W.eq (g2 := F0 m 18 ls [.int x20]) rfl ?_
    refine lv_if_eq (tgt := 25) hx hb d1_12_18 rfl (fun c23 => ?_) (fun c23 => ?_)
    ·
      replace h := (if_pos c23).symm.trans h
      refine lv_iconst (v := 0) hx hb d1_12_25 (by decide) ?_
      have e9_0 := Option.some.inj h
      obtain ⟨q9, e9_1⟩ := Prod.mk.inj e9_0
      clear e9_0
      subst v15
      subst v16
      have hl := lw_sub hl (l' := [(0, .ref o), (1, .int a0)]) [0, 1] rfl
      exact hj _ _ _ _ _ hl hw
    ·
      replace h := (if_neg c23).symm.trans h
      refine lv_iconst (v := 1) hx hb d1_12_21 (by decide) ?_
      refine lv_goto (tgt := 26) hx hb d1_12_22 rfl ?_
      have e9_0 := Option.some.inj h
      obtain ⟨q9, e9_1⟩ := Prod.mk.inj e9_0
      clear e9_0
      subst v15
      subst v16
      have hl := lw_sub hl (l' := [(0, .ref o), (1, .int a0)]) [0, 1] rfl
      exact hj _ _ _ _ _ hl hw
theorem d1_13_0 : decode prog_1_method_13_code 0 = .ok (.aload_n 0, 1) := by decide +kernel
theorem d1_13_1 : decode prog_1_method_13_code 1 = .ok (.getfield 47, 3) := by decide +kernel
theorem d1_13_4 : decode prog_1_method_13_code 4 = .ok (.getfield 58, 3) := by decide +kernel
theorem d1_13_7 : decode prog_1_method_13_code 7 = .ok (.ifCond .ne 14, 3) := by decide +kernel
theorem d1_13_21 : decode prog_1_method_13_code 21 = .ok (.iconst 0, 1) := by decide +kernel
theorem d1_13_22 : decode prog_1_method_13_code 22 = .ok (.ireturn, 1) := by decide +kernel
theorem d1_13_10 : decode prog_1_method_13_code 10 = .ok (.iload_n 1, 1) := by decide +kernel
theorem d1_13_11 : decode prog_1_method_13_code 11 = .ok (.iconst 1, 1) := by decide +kernel
theorem d1_13_12 : decode prog_1_method_13_code 12 = .ok (.if_icmp .lt 9, 3) := by decide +kernel
theorem d1_13_15 : decode prog_1_method_13_code 15 = .ok (.iload_n 1, 1) := by decide +kernel
theorem d1_13_16 : decode prog_1_method_13_code 16 = .ok (.bipush 20, 2) := by decide +kernel
theorem d1_13_18 : decode prog_1_method_13_code 18 = .ok (.if_icmp .le 5, 3) := by decide +kernel
theorem d1_13_23 : decode prog_1_method_13_code 23 = .ok (.aload_n 0, 1) := by decide +kernel
theorem d1_13_24 : decode prog_1_method_13_code 24 = .ok (.getfield 47, 3) := by decide +kernel
theorem d1_13_27 : decode prog_1_method_13_code 27 = .ok (.iload_n 1, 1) := by decide +kernel
theorem d1_13_28 : decode prog_1_method_13_code 28 = .ok (.putfield 163, 3) := by decide +kernel
theorem kn245 : (Jvm.Cond.fieldLinkNest "PagedValues" (163 : Nat) "PagedValues$Store" "blocksLeft" "I" "PagedValues") ∈ NW := tn_2 5 rfl rfl
theorem d1_13_31 : decode prog_1_method_13_code 31 = .ok (.iconst 1, 1) := by decide +kernel
theorem d1_13_32 : decode prog_1_method_13_code 32 = .ok (.ireturn, 1) := by decide +kernel
def y1_13 : MethodName := { cls := "PagedValues", name := "fuse", desc := "(I)Z" }
def c_PagedValues_fuse (Zd : Nat → Nat) (K : KE) (o : Nat) (a0 : Int32) (st : CS) : Option (Int32 × CS) := (gQ K st o 0 5).bind fun x11 => x11.bind fun a12z => (gI K st a12z 9 8).bind fun x13 => if x13 = (0 : Int32) then (if a0 < (1 : Int32) then (some ((0 : Int32), st)) else (if a0 ≤ (20 : Int32) then ((gQ K st o 0 5).bind fun x17 => x17.bind fun a18z => (sF st a18z 9 7 (.int a0)).bind fun st19 => some ((1 : Int32), st19)) else (some ((0 : Int32), st)))) else (some ((0 : Int32), st))
set_option maxHeartbeats 4000000 in
set_option maxRecDepth 100000 in
theorem cc_PagedValues_fuse (l : Launch) (G : Gk) (Zd : Nat → Nat) (K : KE) (o : Nat) (a0 : Int32) (st : CS) (r0 : Int32) (st0 : CS) (hm : c_PagedValues_fuse Zd K o a0 st = some (r0, st0)) : CT l y1_13 prog_1_method_13_code 2 (some .boolean) G Zd K (0) [.ref o, .int a0] st (hI G Zd r0 st0) := by
  refine goH (d := 0) (y := y1_13) (cc := prog_1_method_13_code) (maxL := 2) (ret := (some .boolean)) (av := [.ref o, .int a0]) (Qc := hI G Zd r0 st0) "PagedValues" rfl (by decide) (c1_c rfl (c1_c rfl c1_n)) (Nat.le_of_ble_eq_true rfl) ?_
  intro p e s m below meth c ls A args Q hQ hx hb hr hlk hml hown hts hin hl hE hw
  have hl : lw ls 2 [(0, .ref o), (1, .int a0)] := hl
  have hZ := hE.2.2.1
  have h := hm
  clear hm
  refine lv_aload_n hx hb d1_13_0 rfl (lv_at hl.1 0 rfl) ?_
  obtain ⟨x11, hr, h⟩ := ob h
  refine xg_q (ci := 0) (C := r_0) (T := f_0) (N := 7) (ref := "PagedValues") hx hb hts (fun w h => List.mem_cons_of_mem _ (ly_0 w h)) hown hE hw rfl 5 (by decide) (hts _ (List.mem_cons_of_mem _ k275)) (fun _ h9 => h9) hr d1_13_1 ?_
  clear hr
  obtain ⟨a12z, hn12, h⟩ := ob h
  have hn12 : x11 = some a12z := hn12
  refine W.eq (g2 := F0 m 4 ls [.ref a12z]) (by rw [hn12]; rfl) ?_
  obtain ⟨x13, hr, h⟩ := ob h
  refine xgN_i (ci := 9) (C := r_9) (T := f_9) (N := 9) (ref := "PagedValues$Store") hx hb hts (fun w h => List.mem_cons_of_mem _ (ly_9 w h)) hown hE hw rfl 8 (by decide) (va_Nw.use rfl (hZ.1.1 _ kn247)) (fun _ h9 => h9) hr d1_13_4 ?_
  clear hr
  refine lv_if_ne (tgt := 21) hx hb d1_13_7 rfl (fun c14 => ?_) (fun c14 => ?_)
  ·
    replace h := (if_neg c14).symm.trans h
    refine lv_iconst (v := 0) hx hb d1_13_21 (by decide) ?_
    cases h
    exact finH_z hQ hx hb hr hlk (by decide) hE hw d1_13_22
  ·
    replace h := (if_pos c14).symm.trans h
    refine lv_iload_n hx hb d1_13_10 rfl (lv_at hl.1 1 rfl) ?_
    refine lv_iconst (v := 1) hx hb d1_13_11 (by decide) ?_
    refine lv_icmp_lt (tgt := 21) hx hb d1_13_12 rfl (fun c15 => ?_) (fun c15 => ?_)
    ·
      replace h := (if_pos c15).symm.trans h
      refine lv_iconst (v := 0) hx hb d1_13_21 (by decide) ?_
      cases h
      exact finH_z hQ hx hb hr hlk (by decide) hE hw d1_13_22
    ·
      replace h := (if_neg c15).symm.trans h
      refine lv_iload_n hx hb d1_13_15 rfl (lv_at hl.1 1 rfl) ?_
      refine lv_bipush (v := 20) hx hb d1_13_16 (by decide) ?_
      refine lv_icmp_le (tgt := 23) hx hb d1_13_18 rfl (fun c16 => ?_) (fun c16 => ?_)
      ·
        replace h := (if_pos c16).symm.trans h
        refine lv_aload_n hx hb d1_13_23 rfl (lv_at hl.1 0 rfl) ?_
        obtain ⟨x17, hr, h⟩ := ob h
        refine xg_q (ci := 0) (C := r_0) (T := f_0) (N := 7) (ref := "PagedValues") hx hb hts (fun w h => List.mem_cons_of_mem _ (ly_0 w h)) hown hE hw rfl 5 (by decide) (hts _ (List.mem_cons_of_mem _ k275)) (fun _ h9 => h9) hr d1_13_24 ?_
        clear hr
        refine lv_iload_n hx hb d1_13_27 rfl (lv_at hl.1 1 rfl) ?_
        obtain ⟨a18z, hn18, h⟩ := ob h
        have hn18 : x17 = some a18z := hn18
        refine W.eq (g2 := F0 m 28 ls [.int a0, .ref a18z]) (by rw [hn18]; rfl) ?_
        obtain ⟨st19, hr, h⟩ := ob h
        refine xpN (ci := 9) (ty := .int) (C := r_9) (T := f_9) (N := 9) (ref := "PagedValues$Store") hx hb hts (fun w h => List.mem_cons_of_mem _ (ly_9 w h)) ft_9 ft_9_ok nm_9 hown hE hw rfl 7 (by decide) (va_Nw.use rfl (hZ.1.1 _ kn245)) (fun _ h9 => h9) rfl hr (by decide +kernel) rfl rfl d1_13_28 (fun H locs hw => ?_)
        clear hr
        refine lv_iconst (v := 1) hx hb d1_13_31 (by decide) ?_
        cases h
        exact finH_z hQ hx hb hr hlk (by decide) hE hw d1_13_32
      ·
        replace h := (if_neg c16).symm.trans h
        refine lv_iconst (v := 0) hx hb d1_13_21 (by decide) ?_
        cases h
        exact finH_z hQ hx hb hr hlk (by decide) hE hw d1_13_22
theorem d1_14_0 : decode prog_1_method_14_code 0 = .ok (.aload_n 0, 1) := by decide +kernel
theorem d1_14_1 : decode prog_1_method_14_code 1 = .ok (.getfield 47, 3) := by decide +kernel
theorem d1_14_4 : decode prog_1_method_14_code 4 = .ok (.getfield 58, 3) := by decide +kernel
theorem d1_14_7 : decode prog_1_method_14_code 7 = .ok (.istore_n 1, 1) := by decide +kernel
theorem d1_14_8 : decode prog_1_method_14_code 8 = .ok (.aload_n 0, 1) := by decide +kernel
theorem d1_14_9 : decode prog_1_method_14_code 9 = .ok (.getfield 47, 3) := by decide +kernel
theorem d1_14_12 : decode prog_1_method_14_code 12 = .ok (.iconst 0, 1) := by decide +kernel
theorem d1_14_13 : decode prog_1_method_14_code 13 = .ok (.putfield 58, 3) := by decide +kernel
theorem d1_14_16 : decode prog_1_method_14_code 16 = .ok (.iload_n 1, 1) := by decide +kernel
theorem d1_14_17 : decode prog_1_method_14_code 17 = .ok (.ireturn, 1) := by decide +kernel
def y1_14 : MethodName := { cls := "PagedValues", name := "restart", desc := "()Z" }
def c_PagedValues_restart (Zd : Nat → Nat) (K : KE) (o : Nat) (st : CS) : Option (Int32 × CS) := (gQ K st o 0 5).bind fun x11 => x11.bind fun a12z => (gI K st a12z 9 8).bind fun x13 => (gQ K st o 0 5).bind fun x14 => x14.bind fun a15z => (sF st a15z 9 8 (.int 0)).bind fun st16 => (bz x13).bind fun _ => some (x13, st16)
set_option maxHeartbeats 4000000 in
set_option maxRecDepth 100000 in
theorem cc_PagedValues_restart (l : Launch) (G : Gk) (Zd : Nat → Nat) (K : KE) (o : Nat) (st : CS) (r0 : Int32) (st0 : CS) (hm : c_PagedValues_restart Zd K o st = some (r0, st0)) : CT l y1_14 prog_1_method_14_code 2 (some .boolean) G Zd K (0) [.ref o] st (hI G Zd r0 st0) := by
  refine goH (d := 0) (y := y1_14) (cc := prog_1_method_14_code) (maxL := 2) (ret := (some .boolean)) (av := [.ref o]) (Qc := hI G Zd r0 st0) "PagedValues" rfl (by decide) (c1_c rfl c1_n) (Nat.le_of_ble_eq_true rfl) ?_
  intro p e s m below meth c ls A args Q hQ hx hb hr hlk hml hown hts hin hl hE hw
  have hl : lw ls 2 [(0, .ref o)] := hl
  have hZ := hE.2.2.1
  have h := hm
  clear hm
  refine lv_aload_n hx hb d1_14_0 rfl (lv_at hl.1 0 rfl) ?_
  obtain ⟨x11, hr, h⟩ := ob h
  refine xg_q (ci := 0) (C := r_0) (T := f_0) (N := 7) (ref := "PagedValues") hx hb hts (fun w h => List.mem_cons_of_mem _ (ly_0 w h)) hown hE hw rfl 5 (by decide) (hts _ (List.mem_cons_of_mem _ k275)) (fun _ h9 => h9) hr d1_14_1 ?_
  clear hr
  obtain ⟨a12z, hn12, h⟩ := ob h
  have hn12 : x11 = some a12z := hn12
  refine W.eq (g2 := F0 m 4 ls [.ref a12z]) (by rw [hn12]; rfl) ?_
  obtain ⟨x13, hr, h⟩ := ob h
  refine xgN_i (ci := 9) (C := r_9) (T := f_9) (N := 9) (ref := "PagedValues$Store") hx hb hts (fun w h => List.mem_cons_of_mem _ (ly_9 w h)) hown hE hw rfl 8 (by decide) (va_Nw.use rfl (hZ.1.1 _ kn247)) (fun _ h9 => h9) hr d1_14_4 ?_
  clear hr
  refine xt_istore_n (x := x13) (lv' := [(1, .int x13), (0, .ref o)]) hx hb d1_14_7 rfl hl (by decide) rfl (fun ls hl => ?_)
  refine lv_aload_n hx hb d1_14_8 rfl (lv_at hl.1 1 rfl) ?_
  obtain ⟨x14, hr, h⟩ := ob h
  refine xg_q (ci := 0) (C := r_0) (T := f_0) (N := 7) (ref := "PagedValues") hx hb hts (fun w h => List.mem_cons_of_mem _ (ly_0 w h)) hown hE hw rfl 5 (by decide) (hts _ (List.mem_cons_of_mem _ k275)) (fun _ h9 => h9) hr d1_14_9 ?_
  clear hr
  refine lv_iconst (v := 0) hx hb d1_14_12 (by decide) ?_
  obtain ⟨a15z, hn15, h⟩ := ob h
  have hn15 : x14 = some a15z := hn15
  refine W.eq (g2 := F0 m 13 ls [.int 0, .ref a15z]) (by rw [hn15]; rfl) ?_
  obtain ⟨st16, hr, h⟩ := ob h
  refine xpN (ci := 9) (ty := .boolean) (C := r_9) (T := f_9) (N := 9) (ref := "PagedValues$Store") hx hb hts (fun w h => List.mem_cons_of_mem _ (ly_9 w h)) ft_9 ft_9_ok nm_9 hown hE hw rfl 8 (by decide) (va_Nw.use rfl (hZ.1.1 _ kn247)) (fun _ h9 => h9) rfl hr (by decide +kernel) (by decide) (by decide) d1_14_13 (fun H locs hw => ?_)
  clear hr
  refine lv_iload_n hx hb d1_14_16 rfl (lv_at hl.1 0 rfl) ?_
  obtain ⟨u9, hr9, h⟩ := ob h
  have hi := bz_some hr9
  clear hr9 u9
  cases h
  exact finH_z hQ hx hb hr hlk (nar01 hi) hE hw d1_14_17
theorem d1_15_0 : decode prog_1_method_15_code 0 = .ok (.iload_n 1, 1) := by decide +kernel
theorem d1_15_1 : decode prog_1_method_15_code 1 = .ok (.ifCond .lt 20, 3) := by decide +kernel
theorem d1_15_21 : decode prog_1_method_15_code 21 = .ok (.iconst (-1), 1) := by decide +kernel
theorem d1_15_4 : decode prog_1_method_15_code 4 = .ok (.iload_n 1, 1) := by decide +kernel
theorem d1_15_5 : decode prog_1_method_15_code 5 = .ok (.bipush 12, 2) := by decide +kernel
theorem d1_15_7 : decode prog_1_method_15_code 7 = .ok (.if_icmp .ge 14, 3) := by decide +kernel
theorem d1_15_10 : decode prog_1_method_15_code 10 = .ok (.aload_n 0, 1) := by decide +kernel
theorem d1_15_11 : decode prog_1_method_15_code 11 = .ok (.getfield 47, 3) := by decide +kernel
theorem d1_15_14 : decode prog_1_method_15_code 14 = .ok (.iload_n 1, 1) := by decide +kernel
theorem d1_15_15 : decode prog_1_method_15_code 15 = .ok (.invokevirtual 166, 3) := by decide +kernel
theorem k1135 : (Jvm.Cond.methodLink "PagedValues" (166 : Nat) ({ cls := "PagedValues$Store", name := "useOf", desc := "(I)I" } : Jvm.MethodName)) ∈ TB := tk_5 175 rfl rfl
theorem d1_15_18 : decode prog_1_method_15_code 18 = .ok (.goto 4, 3) := by decide +kernel
theorem d1_15_22 : decode prog_1_method_15_code 22 = .ok (.ireturn, 1) := by decide +kernel
def y1_15 : MethodName := { cls := "PagedValues", name := "page", desc := "(I)I" }
def c_PagedValues_page (Zd : Nat → Nat) (K : KE) (o : Nat) (a0 : Int32) (st : CS) : Option (Int32) := (if a0 < (0 : Int32) then (some ((-1) : Int32)) else (if (12 : Int32) ≤ a0 then (some ((-1) : Int32)) else ((gQ K st o 0 5).bind fun x15 => x15.bind fun a16z => (isO K st a16z 9).bind fun _ => (c_Store_useOf Zd K a16z a0 st).bind fun x17 => some x17))).bind fun e11 => some e11
set_option maxHeartbeats 4000000 in
set_option maxRecDepth 100000 in
theorem cc_PagedValues_page (l : Launch) (G : Gk) (Zd : Nat → Nat) (K : KE) (o : Nat) (a0 : Int32) (st : CS) (r0 : Int32) (hm : c_PagedValues_page Zd K o a0 st = some r0) : CT l y1_15 prog_1_method_15_code 2 (some .int) G Zd K (3) [.ref o, .int a0] st (hI G Zd r0 st) := by
  refine goH (d := 3) (y := y1_15) (cc := prog_1_method_15_code) (maxL := 2) (ret := (some .int)) (av := [.ref o, .int a0]) (Qc := hI G Zd r0 st) "PagedValues" rfl (by decide) (c1_c rfl (c1_c rfl c1_n)) (Nat.le_of_ble_eq_true rfl) ?_
  intro p e s m below meth c ls A args Q hQ hx hb hr hlk hml hown hts hin hl hE hw
  have hl : lw ls 2 [(0, .ref o), (1, .int a0)] := hl
  have hZ := hE.2.2.1
  have h := hm
  clear hm
  refine lv_iload_n hx hb d1_15_0 rfl (lv_at hl.1 1 rfl) ?_
  obtain ⟨e11, hX, h⟩ := ob h
  have hj : ∀ (H : Heap) (locs : List Loc) (cells slots : Nat) (ls : Array Slot), lw ls 2 [(0, .ref o), (1, .int a0)] → wsH G Zd A s st H locs → W p l e (rmH Zd (3) st.1) s m args below meth c H locs cells slots Q (F0 m 22 ls [.int e11]) := by
    intro H locs cells slots ls hl hw
    cases h
    exact finH_i hQ hx hb hr hlk hE hw d1_15_22
  clear h
  refine lv_if_lt (tgt := 21) hx hb d1_15_1 rfl (fun c13 => ?_) (fun c13 => ?_)
  ·
    replace h := (if_pos c13).symm.trans hX
    refine lv_iconst (v := (-1)) hx hb d1_15_21 (by decide) ?_
    have e9 := Option.some.inj h
    subst e11
    have hl := lw_sub hl (l' := [(0, .ref o), (1, .int a0)]) [0, 1] rfl
    exact hj _ _ _ _ _ hl hw
  ·
    replace h := (if_neg c13).symm.trans hX
    refine lv_iload_n hx hb d1_15_4 rfl (lv_at hl.1 1 rfl) ?_
    refine lv_bipush (v := 12) hx hb d1_15_5 (by decide) ?_
    refine lv_icmp_ge (tgt := 21) hx hb d1_15_7 rfl (fun c14 => ?_) (fun c14 => ?_)
    ·
      replace h := (if_pos c14).symm.trans h
      refine lv_iconst (v := (-1)) hx hb d1_15_21 (by decide) ?_
      have e9 := Option.some.inj h
      subst e11
      have hl := lw_sub hl (l' := [(0, .ref o), (1, .int a0)]) [0, 1] rfl
      exact hj _ _ _ _ _ hl hw
    ·
      replace h := (if_neg c14).symm.trans h
      refine lv_aload_n hx hb d1_15_10 rfl (lv_at hl.1 0 rfl) ?_
      obtain ⟨x15, hr, h⟩ := ob h
      refine xg_q (ci := 0) (C := r_0) (T := f_0) (N := 7) (ref := "PagedValues") hx hb hts (fun w h => List.mem_cons_of_mem _ (ly_0 w h)) hown hE hw rfl 5 (by decide) (hts _ (List.mem_cons_of_mem _ k275)) (fun _ h9 => h9) hr d1_15_11 ?_
      clear hr
      refine lv_iload_n hx hb d1_15_14 rfl (lv_at hl.1 1 rfl) ?_
      obtain ⟨a16z, hn16, h⟩ := ob h
      have hn16 : x15 = some a16z := hn16
      refine W.eq (g2 := F0 m 15 ls [.int a0, .ref a16z]) (by rw [hn16]; rfl) ?_
      obtain ⟨u9, ho, h⟩ := ob h
      obtain ⟨x17, hc, h⟩ := ob h
      refine hV_i (ci := 9) (As := [.int a0]) (rest := []) ⟨hx, hb, hml, hown, hts⟩ (cc_Store_useOf l G Zd K a16z a0 st x17 hc) (kw_V (n := 1) hts k711 k1135 k13 k709 k710 (by decide +kernel) ⟨Nat.le_of_ble_eq_true rfl, Nat.le_of_ble_eq_true rfl⟩) hE hw rfl rfl ho rfl hl.1.1 rfl (c1_8 c1_n (Nat.le_of_ble_eq_true rfl)) d1_15_15 (fun H locs cells slots hw => ?_)
      clear hc ho u9
      refine W.eq (g2 := F0 m 18 ls [.int x17]) rfl ?_
      refine lv_goto (tgt := 22) hx hb d1_15_18 rfl ?_
      have e9 := Option.some.inj h
      subst e11
      have hl := lw_sub hl (l' := [(0, .ref o), (1, .int a0)]) [0, 1] rfl
      exact hj _ _ _ _ _ hl hw
theorem d1_16_0 : decode prog_1_method_16_code 0 = .ok (.iload_n 1, 1) := by decide +kernel
theorem d1_16_1 : decode prog_1_method_16_code 1 = .ok (.tableswitch 115 0 6 #[43, 51, 59, 67, 75, 83, 99], 43) := by decide +kernel
theorem d1_16_44 : decode prog_1_method_16_code 44 = .ok (.aload_n 0, 1) := by decide +kernel
theorem d1_16_45 : decode prog_1_method_16_code 45 = .ok (.getfield 10, 3) := by decide +kernel
theorem d1_16_48 : decode prog_1_method_16_code 48 = .ok (.getfield 66, 3) := by decide +kernel
theorem d1_16_51 : decode prog_1_method_16_code 51 = .ok (.ireturn, 1) := by decide +kernel
theorem d1_16_52 : decode prog_1_method_16_code 52 = .ok (.aload_n 0, 1) := by decide +kernel
theorem d1_16_53 : decode prog_1_method_16_code 53 = .ok (.getfield 47, 3) := by decide +kernel
theorem d1_16_56 : decode prog_1_method_16_code 56 = .ok (.invokevirtual 109, 3) := by decide +kernel
theorem d1_16_59 : decode prog_1_method_16_code 59 = .ok (.ireturn, 1) := by decide +kernel
theorem d1_16_60 : decode prog_1_method_16_code 60 = .ok (.aload_n 0, 1) := by decide +kernel
theorem d1_16_61 : decode prog_1_method_16_code 61 = .ok (.getfield 47, 3) := by decide +kernel
theorem d1_16_64 : decode prog_1_method_16_code 64 = .ok (.invokevirtual 169, 3) := by decide +kernel
theorem d10_9_0 : decode prog_10_method_9_code 0 = .ok (.iconst 0, 1) := by decide +kernel
theorem d10_9_1 : decode prog_10_method_9_code 1 = .ok (.istore_n 1, 1) := by decide +kernel
theorem d10_9_2 : decode prog_10_method_9_code 2 = .ok (.iconst 0, 1) := by decide +kernel
theorem d10_9_3 : decode prog_10_method_9_code 3 = .ok (.istore_n 2, 1) := by decide +kernel
theorem d10_9_32 : decode prog_10_method_9_code 32 = .ok (.iload_n 1, 1) := by decide +kernel
theorem d10_9_33 : decode prog_10_method_9_code 33 = .ok (.ireturn, 1) := by decide +kernel
theorem d10_9_4 : decode prog_10_method_9_code 4 = .ok (.iload_n 2, 1) := by decide +kernel
theorem d10_9_5 : decode prog_10_method_9_code 5 = .ok (.iconst 3, 1) := by decide +kernel
theorem d10_9_6 : decode prog_10_method_9_code 6 = .ok (.if_icmp .ge 26, 3) := by decide +kernel
theorem d10_9_9 : decode prog_10_method_9_code 9 = .ok (.iload_n 1, 1) := by decide +kernel
theorem d10_9_10 : decode prog_10_method_9_code 10 = .ok (.aload_n 0, 1) := by decide +kernel
theorem d10_9_11 : decode prog_10_method_9_code 11 = .ok (.getfield 24, 3) := by decide +kernel
theorem d10_9_14 : decode prog_10_method_9_code 14 = .ok (.iload_n 2, 1) := by decide +kernel
theorem d10_9_15 : decode prog_10_method_9_code 15 = .ok (.baload, 1) := by decide +kernel
theorem d10_9_16 : decode prog_10_method_9_code 16 = .ok (.ifCond .eq 7, 3) := by decide +kernel
theorem d10_9_23 : decode prog_10_method_9_code 23 = .ok (.iconst 0, 1) := by decide +kernel
theorem d10_9_19 : decode prog_10_method_9_code 19 = .ok (.iconst 1, 1) := by decide +kernel
theorem d10_9_20 : decode prog_10_method_9_code 20 = .ok (.goto 4, 3) := by decide +kernel
theorem d10_9_24 : decode prog_10_method_9_code 24 = .ok (.iadd, 1) := by decide +kernel
theorem d10_9_25 : decode prog_10_method_9_code 25 = .ok (.istore_n 1, 1) := by decide +kernel
theorem d10_9_26 : decode prog_10_method_9_code 26 = .ok (.iinc 2 1, 3) := by decide +kernel
theorem d10_9_29 : decode prog_10_method_9_code 29 = .ok (.goto (-25), 3) := by decide +kernel
def y10_9 : MethodName := { cls := "PagedValues$Store", name := "openReaders", desc := "()I" }
theorem k1143 : (Jvm.Cond.code ({ cls := "PagedValues$Store", name := "openReaders", desc := "()I" } : Jvm.MethodName) prog_10_method_9_code (3 : Nat) (Option.some Jvm.ClassFile.FieldType.int)) ∈ TB := tk_5 183 rfl rfl
theorem k1140 : (Jvm.Cond.methodLink "PagedValues" (169 : Nat) ({ cls := "PagedValues$Store", name := "openReaders", desc := "()I" } : Jvm.MethodName)) ∈ TB := tk_5 180 rfl rfl
theorem k1141 : (Jvm.Cond.instanceMethod ({ cls := "PagedValues$Store", name := "openReaders", desc := "()I" } : Jvm.MethodName)) ∈ TB := tk_5 181 rfl rfl
theorem k1142 : (Jvm.Cond.selects "PagedValues$Store" ({ cls := "PagedValues$Store", name := "openReaders", desc := "()I" } : Jvm.MethodName) ({ cls := "PagedValues$Store", name := "openReaders", desc := "()I" } : Jvm.MethodName)) ∈ TB := tk_5 182 rfl rfl
theorem d1_16_67 : decode prog_1_method_16_code 67 = .ok (.ireturn, 1) := by decide +kernel
theorem d1_16_68 : decode prog_1_method_16_code 68 = .ok (.aload_n 0, 1) := by decide +kernel
theorem d1_16_69 : decode prog_1_method_16_code 69 = .ok (.getfield 47, 3) := by decide +kernel
theorem d1_16_72 : decode prog_1_method_16_code 72 = .ok (.getfield 172, 3) := by decide +kernel
theorem kn243 : (Jvm.Cond.fieldLinkNest "PagedValues" (172 : Nat) "PagedValues$Store" "blocks" "I" "PagedValues") ∈ NW := tn_2 3 rfl rfl
theorem d1_16_75 : decode prog_1_method_16_code 75 = .ok (.ireturn, 1) := by decide +kernel
theorem d1_16_76 : decode prog_1_method_16_code 76 = .ok (.aload_n 0, 1) := by decide +kernel
theorem d1_16_77 : decode prog_1_method_16_code 77 = .ok (.getfield 47, 3) := by decide +kernel
theorem d1_16_80 : decode prog_1_method_16_code 80 = .ok (.invokevirtual 175, 3) := by decide +kernel
theorem k1144 : (Jvm.Cond.methodLink "PagedValues" (175 : Nat) ({ cls := "PagedValues$Store", name := "currentMeta", desc := "()I" } : Jvm.MethodName)) ∈ TB := tk_5 184 rfl rfl
theorem d1_16_83 : decode prog_1_method_16_code 83 = .ok (.ireturn, 1) := by decide +kernel
theorem d1_16_84 : decode prog_1_method_16_code 84 = .ok (.aload_n 0, 1) := by decide +kernel
theorem d1_16_85 : decode prog_1_method_16_code 85 = .ok (.getfield 47, 3) := by decide +kernel
theorem d1_16_88 : decode prog_1_method_16_code 88 = .ok (.getfield 178, 3) := by decide +kernel
theorem kn238 : (Jvm.Cond.fieldLinkNest "PagedValues" (178 : Nat) "PagedValues$Store" "metaNumber" "[I" "PagedValues") ∈ NW := tn_1 238 rfl rfl
theorem d1_16_91 : decode prog_1_method_16_code 91 = .ok (.aload_n 0, 1) := by decide +kernel
theorem d1_16_92 : decode prog_1_method_16_code 92 = .ok (.getfield 47, 3) := by decide +kernel
theorem d1_16_95 : decode prog_1_method_16_code 95 = .ok (.invokevirtual 175, 3) := by decide +kernel
theorem d1_16_98 : decode prog_1_method_16_code 98 = .ok (.iaload, 1) := by decide +kernel
theorem d1_16_99 : decode prog_1_method_16_code 99 = .ok (.ireturn, 1) := by decide +kernel
theorem d1_16_100 : decode prog_1_method_16_code 100 = .ok (.aload_n 0, 1) := by decide +kernel
theorem d1_16_101 : decode prog_1_method_16_code 101 = .ok (.getfield 47, 3) := by decide +kernel
theorem d1_16_104 : decode prog_1_method_16_code 104 = .ok (.getfield 58, 3) := by decide +kernel
theorem d1_16_107 : decode prog_1_method_16_code 107 = .ok (.ifCond .eq 7, 3) := by decide +kernel
theorem d1_16_114 : decode prog_1_method_16_code 114 = .ok (.iconst 0, 1) := by decide +kernel
theorem d1_16_110 : decode prog_1_method_16_code 110 = .ok (.iconst 1, 1) := by decide +kernel
theorem d1_16_111 : decode prog_1_method_16_code 111 = .ok (.goto 4, 3) := by decide +kernel
theorem d1_16_115 : decode prog_1_method_16_code 115 = .ok (.ireturn, 1) := by decide +kernel
theorem d1_16_116 : decode prog_1_method_16_code 116 = .ok (.iconst (-1), 1) := by decide +kernel
theorem d1_16_117 : decode prog_1_method_16_code 117 = .ok (.ireturn, 1) := by decide +kernel
def y1_16 : MethodName := { cls := "PagedValues", name := "size", desc := "(I)I" }
def c_Store_openReaders_l1 (K : KE) (o : Nat) (st : CS) : Nat → (Int32 × Int32) → Option (Int32 × Int32)
  | 0, _ => none
  | n9 + 1, e9 => if (3 : Int32) ≤ e9.2 then (some (e9.1, e9.2)) else ((gQ K st o 9 3).bind fun x17 => x17.bind fun a18z => (rA K st a18z 3 e9.2).bind fun x19 => (if x19 = (0 : Int32) then (some (0 : Int32)) else (some (1 : Int32))).bind fun e20 => (some (e9.1 + e20)).bind fun y22 => (some (e9.2 + 1)).bind fun y23 => c_Store_openReaders_l1 K o st n9 (y22, y23))
theorem c_Store_openReaders_l1_s (K : KE) (o : Nat) (st : CS) (n9 : Nat) (e9 : Int32 × Int32) : c_Store_openReaders_l1 K o st (n9 + 1) e9 = (if (3 : Int32) ≤ e9.2 then (some (e9.1, e9.2)) else ((gQ K st o 9 3).bind fun x17 => x17.bind fun a18z => (rA K st a18z 3 e9.2).bind fun x19 => (if x19 = (0 : Int32) then (some (0 : Int32)) else (some (1 : Int32))).bind fun e20 => (some (e9.1 + e20)).bind fun y22 => (some (e9.2 + 1)).bind fun y23 => c_Store_openReaders_l1 K o st n9 (y22, y23))) := rfl
def c_Store_openReaders (Zd : Nat → Nat) (K : KE) (o : Nat) (st : CS) : Option (Int32) := (c_Store_openReaders_l1 K o st 4096 ((0 : Int32), (0 : Int32))).bind fun e11 => some e11.1
set_option maxHeartbeats 4000000 in
set_option maxRecDepth 100000 in
theorem cc_Store_openReaders (l : Launch) (G : Gk) (Zd : Nat → Nat) (K : KE) (o : Nat) (st : CS) (r0 : Int32) (hm : c_Store_openReaders Zd K o st = some r0) : CT l y10_9 prog_10_method_9_code 3 (some .int) G Zd K (0) [.ref o] st (hI G Zd r0 st) := by
  refine goH (d := 0) (y := y10_9) (cc := prog_10_method_9_code) (maxL := 3) (ret := (some .int)) (av := [.ref o]) (Qc := hI G Zd r0 st) "PagedValues$Store" rfl (by decide) (c1_c rfl c1_n) (Nat.le_of_ble_eq_true rfl) ?_
  intro p e s m below meth c ls A args Q hQ hx hb hr hlk hml hown hts hin hl hE hw
  have hl : lw ls 3 [(0, .ref o)] := hl
  have hZ := hE.2.2.1
  have h := hm
  clear hm
  refine lv_iconst (v := 0) hx hb d10_9_0 (by decide) ?_
  refine xt_istore_n (x := 0) (lv' := [(1, .int 0), (0, .ref o)]) hx hb d10_9_1 rfl hl (by decide) rfl (fun ls hl => ?_)
  refine lv_iconst (v := 0) hx hb d10_9_2 (by decide) ?_
  refine xt_istore_n (x := 0) (lv' := [(2, .int 0), (1, .int 0), (0, .ref o)]) hx hb d10_9_3 rfl hl (by decide) rfl (fun ls hl => ?_)
  obtain ⟨e11, hX, hrest⟩ := ob h
  clear h
  have hj : ∀ (v14 : Int32) (v15 : Int32), e11 = (v14, v15) → ∀ (H : Heap) (locs : List Loc) (cells slots : Nat) (ls : Array Slot), lw ls 3 [(0, .ref o), (1, .int v14), (2, .int v15)] → wsH G Zd A s st H locs → W p l e (rmH Zd (0) st.1) s m args below meth c H locs cells slots Q (F0 m 32 ls []) := by
    intro v14 v15 he H locs cells slots ls hl hw
    subst e11
    have h := hrest
    clear hrest
    refine lv_iload_n hx hb d10_9_32 rfl (lv_at hl.1 1 rfl) ?_
    cases h
    exact finH_i hQ hx hb hr hlk hE hw d10_9_33
  have hloop : ∀ (n9 : Nat) (v12 : Int32) (v13 : Int32), c_Store_openReaders_l1 K o st n9 (v12, v13) = some e11 → ∀ (H : Heap) (locs : List Loc) (cells slots : Nat) (ls : Array Slot), lw ls 3 [(0, .ref o), (1, .int v12), (2, .int v13)] → wsH G Zd A s st H locs → W p l e (rmH Zd (0) st.1) s m args below meth c H locs cells slots Q (F0 m 4 ls []) := by
    intro n9
    induction n9 with
    | zero =>
      intro v12 v13 h
      cases h
    | succ n9 ih =>
      intro v12 v13 h H locs cells slots ls hl hw
      replace h := (c_Store_openReaders_l1_s K o st n9 (v12, v13)).symm.trans h
      refine lv_iload_n hx hb d10_9_4 rfl (lv_at hl.1 2 rfl) ?_
      refine lv_iconst (v := 3) hx hb d10_9_5 (by decide) ?_
      refine lv_icmp_ge (tgt := 32) hx hb d10_9_6 rfl (fun c16 => ?_) (fun c16 => ?_)
      ·
        replace h := (if_pos c16).symm.trans h
        have e9 := Option.some.inj h
        subst e11
        have hl := lw_sub hl (l' := [(0, .ref o), (1, .int v12), (2, .int v13)]) [0, 1, 2] rfl
        exact hj _ _ rfl _ _ _ _ _ hl hw
      ·
        replace h := (if_neg c16).symm.trans h
        refine lv_iload_n hx hb d10_9_9 rfl (lv_at hl.1 1 rfl) ?_
        refine lv_aload_n hx hb d10_9_10 rfl (lv_at hl.1 0 rfl) ?_
        obtain ⟨x17, hr, h⟩ := ob h
        refine xg_q (ci := 9) (C := r_9) (T := f_9) (N := 9) (ref := "PagedValues$Store") hx hb hts (fun w h => List.mem_cons_of_mem _ (ly_9 w h)) hown hE hw rfl 3 (by decide) (hts _ (List.mem_cons_of_mem _ k240)) (fun _ h9 => h9) hr d10_9_11 ?_
        clear hr
        refine lv_iload_n hx hb d10_9_14 rfl (lv_at hl.1 2 rfl) ?_
        obtain ⟨a18z, hn18, h⟩ := ob h
        have hn18 : x17 = some a18z := hn18
        refine W.eq (g2 := F0 m 15 ls [.int v13, .ref a18z, .int v12]) (by rw [hn18]; rfl) ?_
        obtain ⟨x19, hr, h⟩ := ob h
        refine xa_z hx hb hE hw (i := v13) hr d10_9_15 ?_
        clear hr
        obtain ⟨e20, hX, h⟩ := ob h
        have hj : ∀ (H : Heap) (locs : List Loc) (cells slots : Nat) (ls : Array Slot), lw ls 3 [(0, .ref o), (1, .int v12), (2, .int v13)] → wsH G Zd A s st H locs → W p l e (rmH Zd (0) st.1) s m args below meth c H locs cells slots Q (F0 m 24 ls [.int e20, .int v12]) := by
          intro H locs cells slots ls hl hw
          refine lv_iadd hx hb d10_9_24 ?_
          obtain ⟨y22, hr, h⟩ := ob h
          refine lv_topi (fun y9 ey => ?_)
          have e9 := ey.trans (Option.some.inj hr)
          clear ey
          subst y9
          clear hr
          refine xt_istore_n (x := y22) (lv' := [(1, .int y22), (0, .ref o), (2, .int v13)]) hx hb d10_9_25 rfl hl (by decide) rfl (fun ls hl => ?_)
          obtain ⟨y23, hr, h⟩ := ob h
          refine xt_iinc (k := 2) (v := y23) (lv' := [(2, .int y23), (1, .int y22), (0, .ref o)]) hx hb d10_9_26 hl rfl hr (by decide) rfl (fun ls hl => ?_)
          clear hr
          refine lv_goto (tgt := 4) hx hb d10_9_29 rfl ?_
          have hl := lw_sub hl (l' := [(0, .ref o), (1, .int y22), (2, .int y23)]) [2, 1, 0] rfl
          exact ih _ _ h _ _ _ _ _ hl hw
        clear h
        refine lv_if_eq (tgt := 23) hx hb d10_9_16 rfl (fun c24 => ?_) (fun c24 => ?_)
        ·
          replace h := (if_pos c24).symm.trans hX
          refine lv_iconst (v := 0) hx hb d10_9_23 (by decide) ?_
          have e9 := Option.some.inj h
          subst e20
          have hl := lw_sub hl (l' := [(0, .ref o), (1, .int v12), (2, .int v13)]) [0, 1, 2] rfl
          exact hj _ _ _ _ _ hl hw
        ·
          replace h := (if_neg c24).symm.trans hX
          refine lv_iconst (v := 1) hx hb d10_9_19 (by decide) ?_
          refine lv_goto (tgt := 24) hx hb d10_9_20 rfl ?_
          have e9 := Option.some.inj h
          subst e20
          have hl := lw_sub hl (l' := [(0, .ref o), (1, .int v12), (2, .int v13)]) [0, 1, 2] rfl
          exact hj _ _ _ _ _ hl hw
  have hl := lw_sub hl (l' := [(0, .ref o), (1, .int 0), (2, .int 0)]) [2, 1, 0] rfl
  exact hloop _ _ _ hX _ _ _ _ _ hl hw
def c_PagedValues_size (Zd : Nat → Nat) (K : KE) (o : Nat) (a0 : Int32) (st : CS) : Option (Int32) := if a0 = (0 : Int32) then ((gQ K st o 0 0).bind fun x12 => x12.bind fun a13z => (gI K st a13z 1 2).bind fun x14 => some x14) else (if a0 = (1 : Int32) then ((gQ K st o 0 5).bind fun x16 => x16.bind fun a17z => (isO K st a17z 9).bind fun _ => (c_Store_documentCount Zd K a17z st).bind fun x18 => some x18) else (if a0 = (2 : Int32) then ((gQ K st o 0 5).bind fun x22 => x22.bind fun a23z => (isO K st a23z 9).bind fun _ => (c_Store_openReaders Zd K a23z st).bind fun x24 => some x24) else (if a0 = (3 : Int32) then ((gQ K st o 0 5).bind fun x28 => x28.bind fun a29z => (gI K st a29z 9 6).bind fun x30 => some x30) else (if a0 = (4 : Int32) then ((gQ K st o 0 5).bind fun x32 => x32.bind fun a33z => (isO K st a33z 9).bind fun _ => (c_Store_currentMeta Zd K a33z st).bind fun x34 => some x34) else (if a0 = (5 : Int32) then ((gQ K st o 0 5).bind fun x38 => x38.bind fun a39z => (gQ K st a39z 9 1).bind fun x40 => (gQ K st o 0 5).bind fun x41 => x41.bind fun a42z => (isO K st a42z 9).bind fun _ => (c_Store_currentMeta Zd K a42z st).bind fun x43 => x40.bind fun a46z => (rA K st a46z 1 x43).bind fun x47 => some x47) else (if a0 = (6 : Int32) then ((gQ K st o 0 5).bind fun x49 => x49.bind fun a50z => (gI K st a50z 9 8).bind fun x51 => (if x51 = (0 : Int32) then (some (0 : Int32)) else (some (1 : Int32))).bind fun e52 => some e52) else (some ((-1) : Int32))))))))
set_option maxHeartbeats 4000000 in
set_option maxRecDepth 100000 in
theorem cc_PagedValues_size (l : Launch) (G : Gk) (Zd : Nat → Nat) (K : KE) (o : Nat) (a0 : Int32) (st : CS) (r0 : Int32) (hm : c_PagedValues_size Zd K o a0 st = some r0) : CT l y1_16 prog_1_method_16_code 2 (some .int) G Zd K (3) [.ref o, .int a0] st (hI G Zd r0 st) := by
  refine goH (d := 3) (y := y1_16) (cc := prog_1_method_16_code) (maxL := 2) (ret := (some .int)) (av := [.ref o, .int a0]) (Qc := hI G Zd r0 st) "PagedValues" rfl (by decide) (c1_c rfl (c1_c rfl c1_n)) (Nat.le_of_ble_eq_true rfl) ?_
  intro p e s m below meth c ls A args Q hQ hx hb hr hlk hml hown hts hin hl hE hw
  have hl : lw ls 2 [(0, .ref o), (1, .int a0)] := hl
  have hZ := hE.2.2.1
  have h := hm
  clear hm
  refine lv_iload_n hx hb d1_16_0 rfl (lv_at hl.1 1 rfl) ?_
  by_cases n11c : a0 = (0 : Int32)
  ·
    replace h := (if_pos n11c).symm.trans h
    refine W.eq (g2 := F0 m 1 ls [.int 0]) (by rw [n11c]) ?_
    refine lv_tableIn (tgt := 44) (off := 43) hx hb d1_16_1 (by decide) (by decide) rfl rfl ?_
    refine lv_aload_n hx hb d1_16_44 rfl (lv_at hl.1 0 rfl) ?_
    obtain ⟨x12, hr, h⟩ := ob h
    refine xg_q (ci := 0) (C := r_0) (T := f_0) (N := 7) (ref := "PagedValues") hx hb hts (fun w h => List.mem_cons_of_mem _ (ly_0 w h)) hown hE hw rfl 0 (by decide) (hts _ (List.mem_cons_of_mem _ k270)) (fun _ h9 => h9) hr d1_16_45 ?_
    clear hr
    obtain ⟨a13z, hn13, h⟩ := ob h
    have hn13 : x12 = some a13z := hn13
    refine W.eq (g2 := F0 m 48 ls [.ref a13z]) (by rw [hn13]; rfl) ?_
    obtain ⟨x14, hr, h⟩ := ob h
    refine xgN_i (ci := 1) (C := r_1) (T := f_1) (N := 5) (ref := "PagedValues$Text") hx hb hts (fun w h => List.mem_cons_of_mem _ (ly_1 w h)) hown hE hw rfl 2 (by decide) (va_Nw.use rfl (hZ.1.1 _ kn78)) (fun _ h9 => h9) hr d1_16_48 ?_
    clear hr
    cases h
    exact finH_i hQ hx hb hr hlk hE hw d1_16_51
  replace h := (if_neg n11c).symm.trans h
  by_cases n15c : a0 = (1 : Int32)
  ·
    replace h := (if_pos n15c).symm.trans h
    refine W.eq (g2 := F0 m 1 ls [.int 1]) (by rw [n15c]) ?_
    refine lv_tableIn (tgt := 52) (off := 51) hx hb d1_16_1 (by decide) (by decide) rfl rfl ?_
    refine lv_aload_n hx hb d1_16_52 rfl (lv_at hl.1 0 rfl) ?_
    obtain ⟨x16, hr, h⟩ := ob h
    refine xg_q (ci := 0) (C := r_0) (T := f_0) (N := 7) (ref := "PagedValues") hx hb hts (fun w h => List.mem_cons_of_mem _ (ly_0 w h)) hown hE hw rfl 5 (by decide) (hts _ (List.mem_cons_of_mem _ k275)) (fun _ h9 => h9) hr d1_16_53 ?_
    clear hr
    obtain ⟨a17z, hn17, h⟩ := ob h
    have hn17 : x16 = some a17z := hn17
    refine W.eq (g2 := F0 m 56 ls [.ref a17z]) (by rw [hn17]; rfl) ?_
    obtain ⟨u9, ho, h⟩ := ob h
    obtain ⟨x18, hc, h⟩ := ob h
    refine hV_i (ci := 9) (As := []) (rest := []) ⟨hx, hb, hml, hown, hts⟩ (cc_Store_documentCount l G Zd K a17z st x18 hc) (kw_V (n := 0) hts k875 k872 k13 k873 k874 (by decide +kernel) ⟨Nat.le_of_ble_eq_true rfl, Nat.le_of_ble_eq_true rfl⟩) hE hw rfl rfl ho rfl hl.1.1 rfl (c1_8 c1_n (Nat.le_of_ble_eq_true rfl)) d1_16_56 (fun H locs cells slots hw => ?_)
    clear hc ho u9
    refine W.eq (g2 := F0 m 59 ls [.int x18]) rfl ?_
    cases h
    exact finH_i hQ hx hb hr hlk hE hw d1_16_59
  replace h := (if_neg n15c).symm.trans h
  by_cases n21c : a0 = (2 : Int32)
  ·
    replace h := (if_pos n21c).symm.trans h
    refine W.eq (g2 := F0 m 1 ls [.int 2]) (by rw [n21c]) ?_
    refine lv_tableIn (tgt := 60) (off := 59) hx hb d1_16_1 (by decide) (by decide) rfl rfl ?_
    refine lv_aload_n hx hb d1_16_60 rfl (lv_at hl.1 0 rfl) ?_
    obtain ⟨x22, hr, h⟩ := ob h
    refine xg_q (ci := 0) (C := r_0) (T := f_0) (N := 7) (ref := "PagedValues") hx hb hts (fun w h => List.mem_cons_of_mem _ (ly_0 w h)) hown hE hw rfl 5 (by decide) (hts _ (List.mem_cons_of_mem _ k275)) (fun _ h9 => h9) hr d1_16_61 ?_
    clear hr
    obtain ⟨a23z, hn23, h⟩ := ob h
    have hn23 : x22 = some a23z := hn23
    refine W.eq (g2 := F0 m 64 ls [.ref a23z]) (by rw [hn23]; rfl) ?_
    obtain ⟨u9, ho, h⟩ := ob h
    obtain ⟨x24, hc, h⟩ := ob h
    refine hV_i (ci := 9) (As := []) (rest := []) ⟨hx, hb, hml, hown, hts⟩ (cc_Store_openReaders l G Zd K a23z st x24 hc) (kw_V (n := 0) hts k1143 k1140 k13 k1141 k1142 (by decide +kernel) ⟨Nat.le_of_ble_eq_true rfl, Nat.le_of_ble_eq_true rfl⟩) hE hw rfl rfl ho rfl hl.1.1 rfl (c1_8 c1_n (Nat.le_of_ble_eq_true rfl)) d1_16_64 (fun H locs cells slots hw => ?_)
    clear hc ho u9
    refine W.eq (g2 := F0 m 67 ls [.int x24]) rfl ?_
    cases h
    exact finH_i hQ hx hb hr hlk hE hw d1_16_67
  replace h := (if_neg n21c).symm.trans h
  by_cases n27c : a0 = (3 : Int32)
  ·
    replace h := (if_pos n27c).symm.trans h
    refine W.eq (g2 := F0 m 1 ls [.int 3]) (by rw [n27c]) ?_
    refine lv_tableIn (tgt := 68) (off := 67) hx hb d1_16_1 (by decide) (by decide) rfl rfl ?_
    refine lv_aload_n hx hb d1_16_68 rfl (lv_at hl.1 0 rfl) ?_
    obtain ⟨x28, hr, h⟩ := ob h
    refine xg_q (ci := 0) (C := r_0) (T := f_0) (N := 7) (ref := "PagedValues") hx hb hts (fun w h => List.mem_cons_of_mem _ (ly_0 w h)) hown hE hw rfl 5 (by decide) (hts _ (List.mem_cons_of_mem _ k275)) (fun _ h9 => h9) hr d1_16_69 ?_
    clear hr
    obtain ⟨a29z, hn29, h⟩ := ob h
    have hn29 : x28 = some a29z := hn29
    refine W.eq (g2 := F0 m 72 ls [.ref a29z]) (by rw [hn29]; rfl) ?_
    obtain ⟨x30, hr, h⟩ := ob h
    refine xgN_i (ci := 9) (C := r_9) (T := f_9) (N := 9) (ref := "PagedValues$Store") hx hb hts (fun w h => List.mem_cons_of_mem _ (ly_9 w h)) hown hE hw rfl 6 (by decide) (va_Nw.use rfl (hZ.1.1 _ kn243)) (fun _ h9 => h9) hr d1_16_72 ?_
    clear hr
    cases h
    exact finH_i hQ hx hb hr hlk hE hw d1_16_75
  replace h := (if_neg n27c).symm.trans h
  by_cases n31c : a0 = (4 : Int32)
  ·
    replace h := (if_pos n31c).symm.trans h
    refine W.eq (g2 := F0 m 1 ls [.int 4]) (by rw [n31c]) ?_
    refine lv_tableIn (tgt := 76) (off := 75) hx hb d1_16_1 (by decide) (by decide) rfl rfl ?_
    refine lv_aload_n hx hb d1_16_76 rfl (lv_at hl.1 0 rfl) ?_
    obtain ⟨x32, hr, h⟩ := ob h
    refine xg_q (ci := 0) (C := r_0) (T := f_0) (N := 7) (ref := "PagedValues") hx hb hts (fun w h => List.mem_cons_of_mem _ (ly_0 w h)) hown hE hw rfl 5 (by decide) (hts _ (List.mem_cons_of_mem _ k275)) (fun _ h9 => h9) hr d1_16_77 ?_
    clear hr
    obtain ⟨a33z, hn33, h⟩ := ob h
    have hn33 : x32 = some a33z := hn33
    refine W.eq (g2 := F0 m 80 ls [.ref a33z]) (by rw [hn33]; rfl) ?_
    obtain ⟨u9, ho, h⟩ := ob h
    obtain ⟨x34, hc, h⟩ := ob h
    refine hV_i (ci := 9) (As := []) (rest := []) ⟨hx, hb, hml, hown, hts⟩ (cc_Store_currentMeta l G Zd K a33z st x34 hc) (kw_V (n := 0) hts k690 k1144 k13 k688 k689 (by decide +kernel) ⟨Nat.le_of_ble_eq_true rfl, Nat.le_of_ble_eq_true rfl⟩) hE hw rfl rfl ho rfl hl.1.1 rfl (c1_8 c1_n (Nat.le_of_ble_eq_true rfl)) d1_16_80 (fun H locs cells slots hw => ?_)
    clear hc ho u9
    refine W.eq (g2 := F0 m 83 ls [.int x34]) rfl ?_
    cases h
    exact finH_i hQ hx hb hr hlk hE hw d1_16_83
  replace h := (if_neg n31c).symm.trans h
  by_cases n37c : a0 = (5 : Int32)
  ·
    replace h := (if_pos n37c).symm.trans h
    refine W.eq (g2 := F0 m 1 ls [.int 5]) (by rw [n37c]) ?_
    refine lv_tableIn (tgt := 84) (off := 83) hx hb d1_16_1 (by decide) (by decide) rfl rfl ?_
    refine lv_aload_n hx hb d1_16_84 rfl (lv_at hl.1 0 rfl) ?_
    obtain ⟨x38, hr, h⟩ := ob h
    refine xg_q (ci := 0) (C := r_0) (T := f_0) (N := 7) (ref := "PagedValues") hx hb hts (fun w h => List.mem_cons_of_mem _ (ly_0 w h)) hown hE hw rfl 5 (by decide) (hts _ (List.mem_cons_of_mem _ k275)) (fun _ h9 => h9) hr d1_16_85 ?_
    clear hr
    obtain ⟨a39z, hn39, h⟩ := ob h
    have hn39 : x38 = some a39z := hn39
    refine W.eq (g2 := F0 m 88 ls [.ref a39z]) (by rw [hn39]; rfl) ?_
    obtain ⟨x40, hr, h⟩ := ob h
    refine xgN_q (ci := 9) (C := r_9) (T := f_9) (N := 9) (ref := "PagedValues$Store") hx hb hts (fun w h => List.mem_cons_of_mem _ (ly_9 w h)) hown hE hw rfl 1 (by decide) (va_Nw.use rfl (hZ.1.1 _ kn238)) (fun _ h9 => h9) hr d1_16_88 ?_
    clear hr
    refine lv_aload_n hx hb d1_16_91 rfl (lv_at hl.1 0 rfl) ?_
    obtain ⟨x41, hr, h⟩ := ob h
    refine xg_q (ci := 0) (C := r_0) (T := f_0) (N := 7) (ref := "PagedValues") hx hb hts (fun w h => List.mem_cons_of_mem _ (ly_0 w h)) hown hE hw rfl 5 (by decide) (hts _ (List.mem_cons_of_mem _ k275)) (fun _ h9 => h9) hr d1_16_92 ?_
    clear hr
    obtain ⟨a42z, hn42, h⟩ := ob h
    have hn42 : x41 = some a42z := hn42
    refine W.eq (g2 := F0 m 95 ls [.ref a42z, va_rf x40]) (by rw [hn42]; rfl) ?_
    obtain ⟨u9, ho, h⟩ := ob h
    obtain ⟨x43, hc, h⟩ := ob h
    refine hV_i (ci := 9) (As := []) (rest := [va_rf x40]) ⟨hx, hb, hml, hown, hts⟩ (cc_Store_currentMeta l G Zd K a42z st x43 hc) (kw_V (n := 0) hts k690 k1144 k13 k688 k689 (by decide +kernel) ⟨Nat.le_of_ble_eq_true rfl, Nat.le_of_ble_eq_true rfl⟩) hE hw rfl rfl ho rfl hl.1.1 rfl (c1_8 (c1_c (rf_cat _) c1_n) (Nat.le_of_ble_eq_true rfl)) d1_16_95 (fun H locs cells slots hw => ?_)
    clear hc ho u9
    refine W.eq (g2 := F0 m 98 ls [.int x43, va_rf x40]) rfl ?_
    obtain ⟨a46z, hn46, h⟩ := ob h
    have hn46 : x40 = some a46z := hn46
    refine W.eq (g2 := F0 m 98 ls [.int x43, .ref a46z]) (by rw [hn46]; rfl) ?_
    obtain ⟨x47, hr, h⟩ := ob h
    refine xa_i hx hb hE hw (i := x43) hr d1_16_98 ?_
    clear hr
    cases h
    exact finH_i hQ hx hb hr hlk hE hw d1_16_99
  replace h := (if_neg n37c).symm.trans h
  by_cases n48c : a0 = (6 : Int32)
  ·
    replace h := (if_pos n48c).symm.trans h
    refine W.eq (g2 := F0 m 1 ls [.int 6]) (by rw [n48c]) ?_
    refine lv_tableIn (tgt := 100) (off := 99) hx hb d1_16_1 (by decide) (by decide) rfl rfl ?_
    refine lv_aload_n hx hb d1_16_100 rfl (lv_at hl.1 0 rfl) ?_
    obtain ⟨x49, hr, h⟩ := ob h
    refine xg_q (ci := 0) (C := r_0) (T := f_0) (N := 7) (ref := "PagedValues") hx hb hts (fun w h => List.mem_cons_of_mem _ (ly_0 w h)) hown hE hw rfl 5 (by decide) (hts _ (List.mem_cons_of_mem _ k275)) (fun _ h9 => h9) hr d1_16_101 ?_
    clear hr
    obtain ⟨a50z, hn50, h⟩ := ob h
    have hn50 : x49 = some a50z := hn50
    refine W.eq (g2 := F0 m 104 ls [.ref a50z]) (by rw [hn50]; rfl) ?_
    obtain ⟨x51, hr, h⟩ := ob h
    refine xgN_i (ci := 9) (C := r_9) (T := f_9) (N := 9) (ref := "PagedValues$Store") hx hb hts (fun w h => List.mem_cons_of_mem _ (ly_9 w h)) hown hE hw rfl 8 (by decide) (va_Nw.use rfl (hZ.1.1 _ kn247)) (fun _ h9 => h9) hr d1_16_104 ?_
    clear hr
    obtain ⟨e52, hX, h⟩ := ob h
    have hj : ∀ (H : Heap) (locs : List Loc) (cells slots : Nat) (ls : Array Slot), lw ls 2 [(0, .ref o), (1, .int a0)] → wsH G Zd A s st H locs → W p l e (rmH Zd (3) st.1) s m args below meth c H locs cells slots Q (F0 m 115 ls [.int e52]) := by
      intro H locs cells slots ls hl hw
      cases h
      exact finH_i hQ hx hb hr hlk hE hw d1_16_115
    clear h
    refine lv_if_eq (tgt := 114) hx hb d1_16_107 rfl (fun c54 => ?_) (fun c54 => ?_)
    ·
      replace h := (if_pos c54).symm.trans hX
      refine lv_iconst (v := 0) hx hb d1_16_114 (by decide) ?_
      have e9 := Option.some.inj h
      subst e52
      have hl := lw_sub hl (l' := [(0, .ref o), (1, .int a0)]) [0, 1] rfl
      exact hj _ _ _ _ _ hl hw
    ·
      replace h := (if_neg c54).symm.trans hX
      refine lv_iconst (v := 1) hx hb d1_16_110 (by decide) ?_
      refine lv_goto (tgt := 115) hx hb d1_16_111 rfl ?_
      have e9 := Option.some.inj h
      subst e52
      have hl := lw_sub hl (l' := [(0, .ref o), (1, .int a0)]) [0, 1] rfl
      exact hj _ _ _ _ _ hl hw
  replace h := (if_neg n48c).symm.trans h
  refine lv_tableOut (tgt := 116) hx hb d1_16_1 (by have L9 := lits; have fn11c := n11c; simp only [Int32.lt_iff_toInt_lt, Int32.le_iff_toInt_le, ← Int32.toInt_inj, ne_eq, Decidable.not_not] at fn11c; have fn15c := n15c; simp only [Int32.lt_iff_toInt_lt, Int32.le_iff_toInt_le, ← Int32.toInt_inj, ne_eq, Decidable.not_not] at fn15c; have fn21c := n21c; simp only [Int32.lt_iff_toInt_lt, Int32.le_iff_toInt_le, ← Int32.toInt_inj, ne_eq, Decidable.not_not] at fn21c; have fn27c := n27c; simp only [Int32.lt_iff_toInt_lt, Int32.le_iff_toInt_le, ← Int32.toInt_inj, ne_eq, Decidable.not_not] at fn27c; have fn31c := n31c; simp only [Int32.lt_iff_toInt_lt, Int32.le_iff_toInt_le, ← Int32.toInt_inj, ne_eq, Decidable.not_not] at fn31c; have fn37c := n37c; simp only [Int32.lt_iff_toInt_lt, Int32.le_iff_toInt_le, ← Int32.toInt_inj, ne_eq, Decidable.not_not] at fn37c; have fn48c := n48c; simp only [Int32.lt_iff_toInt_lt, Int32.le_iff_toInt_le, ← Int32.toInt_inj, ne_eq, Decidable.not_not] at fn48c; omega) rfl ?_
  refine lv_iconst (v := (-1)) hx hb d1_16_116 (by decide) ?_
  cases h
  exact finH_i hQ hx hb hr hlk hE hw d1_16_117
