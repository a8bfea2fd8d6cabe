def m_put (a0 : Int32) (st : MS) : Option (Int32 × MS) := if (st.1 13) = (0 : Int32) then ((m_within a0 (0 : Int32) (7 : Int32)).bind fun x5 => if x5 = (0 : Int32) then ((if (st.1 13) = (0 : Int32) then (some ((-1) : Int32)) else (some ((-9) : Int32))).bind fun e25 => some (e25, st)) else ((m_readValue st).bind fun st10 => if (st10.1 2) < (0 : Int32) then ((m_change a0 (80 : Int32) (upd st10.1 0 0, st10.2.1, st10.2.2.1, st10.2.2.2)).bind fun r15 => (if r15.1 = (0 : Int32) then ((m_at (80 : Int32)).bind fun x19 => (rd (r15.2.2.2.1 2) 2100 x19).bind fun x22 => some x22) else (some r15.1)).bind fun e17 => some (e17, r15.2)) else ((some ((-100) - (st10.1 2))).bind fun y23 => some (y23, (upd st10.1 0 0, st10.2.1, st10.2.2.1, st10.2.2.2))))) else ((if (st.1 13) = (0 : Int32) then (some ((-1) : Int32)) else (some ((-9) : Int32))).bind fun e3 => some (e3, st))
set_option maxHeartbeats 4000000 in
set_option maxRecDepth 100000 in
theorem cm_put (l : Launch) (G : Gk) (Zd : Nat → Nat) (q : Nat → Nat) (a0 : Int32) (st : MS) (r0 : Int32) (st0 : MS) (hm : m_put a0 st = some (r0, st0)) (sz : Nat) : Met l y15_62 (Cond.code y15_62 prog_15_method_62_code 3 (some .int) :: TB) (rmD 7 0 0) (va_Pc [.ref (q 0), .int a0] (pcW G Zd (wMs q G.2 st) sz)) (qI G (fun rr (_ : Unit) => rr = r0) (fun _ => (wMs q G.2 st0)) (va_A (wMs q G.2 st) sz)) 0 0 (va_A (wMs q G.2 st) sz) := by
  refine go (y := y15_62) (cc := prog_15_method_62_code) (maxL := 3) (ret := (some .int)) (av := [.ref (q 0), .int a0]) (Qc := qI G (fun rr (_ : Unit) => rr = r0) (fun _ => (wMs q G.2 st0))) "PagedValuesModel" rfl (by decide) (Nat.le_of_ble_eq_true rfl) ?_
  intro p e s m below meth c ls A hx hb hr hlk hml hown hts hin hl hP hD hK hS hA hZ
  have hl : lv_has ls 3 [(0, .ref (q 0)), (1, .int a0)] := hl
  have h := hm
  clear hm
  refine lv_aload_n hx hb d15_62_0 rfl (lv_at hl 0 rfl) ?_
  refine va_get (D := G.1) (ci := 13) (v := .int (st.1 13)) (C := r_13) (T := f_13) (N := 42) (ref := "PagedValuesModel") hx hb hts (fun w h => List.mem_cons_of_mem _ (ly_13 w h)) hown hK hP 0 rfl rfl 40 (by decide) (hts _ (List.mem_cons_of_mem _ k1191)) (fun _ h9 => h9) rfl d15_62_1 ?_
  refine lv_if_ne (tgt := 17) hx hb d15_62_4 rfl (fun c1 => ?_) (fun c1 => ?_)
  ·
    replace h := (if_neg c1).symm.trans h
    refine lv_aload_n hx hb d15_62_17 rfl (lv_at hl 0 rfl) ?_
    refine va_get (D := G.1) (ci := 13) (v := .int (st.1 13)) (C := r_13) (T := f_13) (N := 42) (ref := "PagedValuesModel") hx hb hts (fun w h => List.mem_cons_of_mem _ (ly_13 w h)) hown hK hP 0 rfl rfl 40 (by decide) (hts _ (List.mem_cons_of_mem _ k1191)) (fun _ h9 => h9) rfl d15_62_18 ?_
    obtain ⟨e3, hX, h⟩ := ob h
    have hj : ∀ (H : Heap) (locs : List Loc) (ls : Array Slot), lv_has ls 3 [(0, .ref (q 0)), (1, .int a0)] → va_P G.1 vwCl (wMs q G.2 st) H → va_D A (wMs q G.2 st) → va_S A s.heap H locs → W p l e (rmD 7 0 0) s m ([.ref (q 0), .int a0] : List Value).toArray below meth c H locs 0 0 (MQ below (qI G (fun rr (_ : Unit) => rr = r0) (fun _ => (wMs q G.2 st0)) A) ([.ref (q 0), .int a0] : List Value).toArray s 0 0 A) (F0 m 30 ls [.int e3]) := by
      intro H locs ls hl hP hD hS
      cases h
      exact fin_i hx hb hr hlk hS () rfl hP hD (Nat.le_of_ble_eq_true rfl) (Nat.le_of_ble_eq_true rfl) d15_62_30
    clear h
    refine lv_if_eq (tgt := 29) hx hb d15_62_21 rfl (fun c2 => ?_) (fun c2 => ?_)
    ·
      replace h := (if_pos c2).symm.trans hX
      refine lv_iconst (v := (-1)) hx hb d15_62_29 (by decide) ?_
      have e9 := Option.some.inj h
      subst e3
      have hl := lv_sub hl (l' := [(0, .ref (q 0)), (1, .int a0)]) [0, 1] rfl
      exact hj _ _ _ hl hP hD hS
    ·
      replace h := (if_neg c2).symm.trans hX
      refine lv_bipush (v := (-9)) hx hb d15_62_24 (by decide) ?_
      refine lv_goto (tgt := 30) hx hb d15_62_26 rfl ?_
      have e9 := Option.some.inj h
      subst e3
      have hl := lv_sub hl (l' := [(0, .ref (q 0)), (1, .int a0)]) [0, 1] rfl
      exact hj _ _ _ hl hP hD hS
  ·
    replace h := (if_pos c1).symm.trans h
    refine lv_iload_n hx hb d15_62_7 rfl (lv_at hl 1 rfl) ?_
    refine lv_iconst (v := 0) hx hb d15_62_8 (by decide) ?_
    refine lv_bipush (v := 7) hx hb d15_62_9 (by decide) ?_
    obtain ⟨x5, hc, h⟩ := ob h
    refine sS_i (As := [.int a0, .int 0, .int 7]) (rest := []) ⟨hx, hb, hml, hown, hts⟩ (cm_within l G Zd _ a0 (0 : Int32) (7 : Int32) x5 hc _) (kw_S (n := 3) hts k1289 k1287 k15 k1288 (by decide +kernel) ⟨Nat.le_of_ble_eq_true rfl, Nat.le_of_ble_eq_true rfl⟩) hP hD hK hS hA hZ rfl hl.1 rfl (Nat.le_of_ble_eq_true rfl) d15_62_11 ⟨Nat.le_of_ble_eq_true rfl, Nat.le_of_ble_eq_true rfl⟩ (fun rr u9 H locs hp hP hD hS => ?_)
    clear u9
    subst rr
    clear hc
    refine W.eq (g2 := F0 m 14 ls [.int x5]) rfl ?_
    have hP : va_P G.1 vwCl (wMs q G.2 st) H := hP
    have hD : va_D A (wMs q G.2 st) := hD
    refine lv_if_ne (tgt := 31) hx hb d15_62_14 rfl (fun c8 => ?_) (fun c8 => ?_)
    ·
      replace h := (if_neg c8).symm.trans h
      refine lv_aload_n hx hb d15_62_31 rfl (lv_at hl 0 rfl) ?_
      obtain ⟨st10, hc, h⟩ := ob h
      refine sV_v (As := []) (rest := []) ⟨hx, hb, hml, hown, hts⟩ (cm_readValue l G Zd q st st10 hc _) (kw_V (n := 0) hts k1293 k1290 k15 k1292 ks34 (by decide +kernel) ⟨Nat.le_of_ble_eq_true rfl, Nat.le_of_ble_eq_true rfl⟩) hP hD hK hS hA hZ (va_recv (ci := 13) (q0 := 0) hK hP rfl rfl) rfl hl.1 rfl (Nat.le_of_ble_eq_true rfl) d15_62_32 ⟨Nat.le_of_ble_eq_true rfl, Nat.le_of_ble_eq_true rfl⟩ (fun u9 H locs hp hP hD hS => ?_)
      clear u9
      clear hp
      clear hc
      refine W.eq (g2 := F0 m 35 ls []) rfl ?_
      have hP : va_P G.1 vwCl (wMs q G.2 st10) H := hP
      have hD : va_D A (wMs q G.2 st10) := hD
      refine lv_aload_n hx hb d15_62_35 rfl (lv_at hl 0 rfl) ?_
      refine lv_iconst (v := 0) hx hb d15_62_36 (by decide) ?_
      refine va_put (D := G.1) (ci := 13) (v := .int 0) (ty := .int) (C := r_13) (T := f_13) (N := 42) (ref := "PagedValuesModel") hx hb hts (fun w h => List.mem_cons_of_mem _ (ly_13 w h)) ft_13 ft_13_ok nm_13 hown hK hP hD hS 0 rfl rfl 1 (by decide) (hts _ (List.mem_cons_of_mem _ k1152)) (fun _ h9 => h9) rfl (by decide +kernel) rfl rfl (Nat.le_of_ble_eq_true rfl) d15_62_37 (fun H locs hP hD hS => ?_)
      have hP : va_P G.1 vwCl (wMs q G.2 (upd st10.1 0 0, st10.2.1, st10.2.2.1, st10.2.2.2)) H := hP
      have hD : va_D A (wMs q G.2 (upd st10.1 0 0, st10.2.1, st10.2.2.1, st10.2.2.2)) := hD
      refine lv_aload_n hx hb d15_62_40 rfl (lv_at hl 0 rfl) ?_
      refine va_get (D := G.1) (ci := 13) (v := .int (st10.1 2)) (C := r_13) (T := f_13) (N := 42) (ref := "PagedValuesModel") hx hb hts (fun w h => List.mem_cons_of_mem _ (ly_13 w h)) hown hK hP 0 rfl rfl 3 (by decide) (hts _ (List.mem_cons_of_mem _ k1154)) (fun _ h9 => h9) rfl d15_62_41 ?_
      refine lv_if_lt (tgt := 55) hx hb d15_62_44 rfl (fun c12 => ?_) (fun c12 => ?_)
      ·
        replace h := (if_pos c12).symm.trans h
        refine lv_aload_n hx hb d15_62_55 rfl (lv_at hl 0 rfl) ?_
        refine lv_iload_n hx hb d15_62_56 rfl (lv_at hl 1 rfl) ?_
        refine lv_bipush (v := 80) hx hb d15_62_57 (by decide) ?_
        obtain ⟨⟨x13, st14⟩, hc, h⟩ := ob h
        refine sV_i (As := [.int a0, .int 80]) (rest := []) ⟨hx, hb, hml, hown, hts⟩ (cm_change l G Zd q a0 (80 : Int32) (upd st10.1 0 0, st10.2.1, st10.2.2.1, st10.2.2.2) x13 st14 hc _) (kw_V (n := 2) hts k1392 k1389 k15 k1391 ks56 (by decide +kernel) ⟨Nat.le_of_ble_eq_true rfl, Nat.le_of_ble_eq_true rfl⟩) hP hD hK hS hA hZ (va_recv (ci := 13) (q0 := 0) hK hP rfl rfl) rfl hl.1 rfl (Nat.le_of_ble_eq_true rfl) d15_62_59 ⟨Nat.le_of_ble_eq_true rfl, Nat.le_of_ble_eq_true rfl⟩ (fun rr u9 H locs hp hP hD hS => ?_)
        clear u9
        subst rr
        clear hc
        refine W.eq (g2 := F0 m 62 ls [.int x13]) rfl ?_
        have hP : va_P G.1 vwCl (wMs q G.2 st14) H := hP
        have hD : va_D A (wMs q G.2 st14) := hD
        refine lv_istore_n (lv' := [(2, .int x13), (0, .ref (q 0)), (1, .int a0)]) hx hb d15_62_62 rfl hl (by decide) rfl (fun ls hl => ?_)
        refine lv_iload_n hx hb d15_62_63 rfl (lv_at hl 0 rfl) ?_
        obtain ⟨e17, hX, h⟩ := ob h
        have hj : ∀ (H : Heap) (locs : List Loc) (ls : Array Slot), lv_has ls 3 [(0, .ref (q 0)), (1, .int a0), (2, .int x13)] → va_P G.1 vwCl (wMs q G.2 st14) H → va_D A (wMs q G.2 st14) → va_S A s.heap H locs → W p l e (rmD 7 0 0) s m ([.ref (q 0), .int a0] : List Value).toArray below meth c H locs 0 0 (MQ below (qI G (fun rr (_ : Unit) => rr = r0) (fun _ => (wMs q G.2 st0)) A) ([.ref (q 0), .int a0] : List Value).toArray s 0 0 A) (F0 m 81 ls [.int e17]) := by
          intro H locs ls hl hP hD hS
          cases h
          exact fin_i hx hb hr hlk hS () rfl hP hD (Nat.le_of_ble_eq_true rfl) (Nat.le_of_ble_eq_true rfl) d15_62_81
        clear h
        refine lv_if_eq (tgt := 71) hx hb d15_62_64 rfl (fun c16 => ?_) (fun c16 => ?_)
        ·
          replace h := (if_pos c16).symm.trans hX
          refine lv_aload_n hx hb d15_62_71 rfl (lv_at hl 1 rfl) ?_
          refine va_get (D := G.1) (ci := 13) (v := .ref (q 3)) (C := r_13) (T := f_13) (N := 42) (ref := "PagedValuesModel") hx hb hts (fun w h => List.mem_cons_of_mem _ (ly_13 w h)) hown hK hP 0 rfl rfl 5 (by decide) (hts _ (List.mem_cons_of_mem _ k1156)) (fun _ h9 => h9) rfl d15_62_72 ?_
          refine lv_bipush (v := 80) hx hb d15_62_75 (by decide) ?_
          obtain ⟨x19, hc, h⟩ := ob h
          refine sS_i (As := [.int 80]) (rest := [.ref (q 3)]) ⟨hx, hb, hml, hown, hts⟩ (cm_at l G Zd _ (80 : Int32) x19 hc _) (kw_S (n := 1) hts k1312 k1310 k15 k1311 (by decide +kernel) ⟨Nat.le_of_ble_eq_true rfl, Nat.le_of_ble_eq_true rfl⟩) hP hD hK hS hA hZ rfl hl.1 rfl (Nat.le_of_ble_eq_true rfl) d15_62_77 ⟨Nat.le_of_ble_eq_true rfl, Nat.le_of_ble_eq_true rfl⟩ (fun rr u9 H locs hp hP hD hS => ?_)
          clear u9
          subst rr
          clear hc
          refine W.eq (g2 := F0 m 80 ls [.int x19, .ref (q 3)]) rfl ?_
          have hP : va_P G.1 vwCl (wMs q G.2 st14) H := hP
          have hD : va_D A (wMs q G.2 st14) := hD
          obtain ⟨x22, hr, h⟩ := ob h
          obtain ⟨hi, hv⟩ := rd_some hr
          refine va_bald (D := G.1) hx hb hK hP 3 2 rfl rfl (i := x19) hi d15_62_80 ?_
          refine lv_topi (fun y9 ey => ?_)
          have e9 := ey.trans hv
          clear ey
          subst y9
          clear hv hi hr
          have e9 := Option.some.inj h
          subst e17
          have hl := lv_sub hl (l' := [(0, .ref (q 0)), (1, .int a0), (2, .int x13)]) [1, 2, 0] rfl
          exact hj _ _ _ hl hP hD hS
        ·
          replace h := (if_neg c16).symm.trans hX
          refine lv_iload_n hx hb d15_62_67 rfl (lv_at hl 0 rfl) ?_
          refine lv_goto (tgt := 81) hx hb d15_62_68 rfl ?_
          have e9 := Option.some.inj h
          subst e17
          have hl := lv_sub hl (l' := [(0, .ref (q 0)), (1, .int a0), (2, .int x13)]) [1, 2, 0] rfl
          exact hj _ _ _ hl hP hD hS
      ·
        replace h := (if_neg c12).symm.trans h
        refine lv_bipush (v := (-100)) hx hb d15_62_47 (by decide) ?_
        refine lv_aload_n hx hb d15_62_49 rfl (lv_at hl 0 rfl) ?_
        refine va_get (D := G.1) (ci := 13) (v := .int (st10.1 2)) (C := r_13) (T := f_13) (N := 42) (ref := "PagedValuesModel") hx hb hts (fun w h => List.mem_cons_of_mem _ (ly_13 w h)) hown hK hP 0 rfl rfl 3 (by decide) (hts _ (List.mem_cons_of_mem _ k1154)) (fun _ h9 => h9) rfl d15_62_50 ?_
        refine lv_isub hx hb d15_62_53 ?_
        obtain ⟨y23, hr, h⟩ := ob h
        refine lv_topi (fun y9 ey => ?_)
        have e9 := ey.trans (Option.some.inj hr)
        clear ey
        subst y9
        clear hr
        cases h
        exact fin_i hx hb hr hlk hS () rfl hP hD (Nat.le_of_ble_eq_true rfl) (Nat.le_of_ble_eq_true rfl) d15_62_54
    ·
      replace h := (if_pos c8).symm.trans h
      refine lv_aload_n hx hb d15_62_17 rfl (lv_at hl 0 rfl) ?_
      refine va_get (D := G.1) (ci := 13) (v := .int (st.1 13)) (C := r_13) (T := f_13) (N := 42) (ref := "PagedValuesModel") hx hb hts (fun w h => List.mem_cons_of_mem _ (ly_13 w h)) hown hK hP 0 rfl rfl 40 (by decide) (hts _ (List.mem_cons_of_mem _ k1191)) (fun _ h9 => h9) rfl d15_62_18 ?_
      obtain ⟨e25, hX, h⟩ := ob h
      have hj : ∀ (H : Heap) (locs : List Loc) (ls : Array Slot), lv_has ls 3 [(0, .ref (q 0)), (1, .int a0)] → va_P G.1 vwCl (wMs q G.2 st) H → va_D A (wMs q G.2 st) → va_S A s.heap H locs → W p l e (rmD 7 0 0) s m ([.ref (q 0), .int a0] : List Value).toArray below meth c H locs 0 0 (MQ below (qI G (fun rr (_ : Unit) => rr = r0) (fun _ => (wMs q G.2 st0)) A) ([.ref (q 0), .int a0] : List Value).toArray s 0 0 A) (F0 m 30 ls [.int e25]) := by
        intro H locs ls hl hP hD hS
        cases h
        exact fin_i hx hb hr hlk hS () rfl hP hD (Nat.le_of_ble_eq_true rfl) (Nat.le_of_ble_eq_true rfl) d15_62_30
      clear h
      refine lv_if_eq (tgt := 29) hx hb d15_62_21 rfl (fun c24 => ?_) (fun c24 => ?_)
      ·
        replace h := (if_pos c24).symm.trans hX
        refine lv_iconst (v := (-1)) hx hb d15_62_29 (by decide) ?_
        have e9 := Option.some.inj h
        subst e25
        have hl := lv_sub hl (l' := [(0, .ref (q 0)), (1, .int a0)]) [0, 1] rfl
        exact hj _ _ _ hl hP hD hS
      ·
        replace h := (if_neg c24).symm.trans hX
        refine lv_bipush (v := (-9)) hx hb d15_62_24 (by decide) ?_
        refine lv_goto (tgt := 30) hx hb d15_62_26 rfl ?_
        have e9 := Option.some.inj h
        subst e25
        have hl := lv_sub hl (l' := [(0, .ref (q 0)), (1, .int a0)]) [0, 1] rfl
        exact hj _ _ _ hl hP hD hS
theorem d15_63_0 : decode prog_15_method_63_code 0 = .ok (.aload_n 0, 1) := by decide +kernel
theorem d15_63_1 : decode prog_15_method_63_code 1 = .ok (.aload_n 0, 1) := by decide +kernel
theorem d15_63_2 : decode prog_15_method_63_code 2 = .ok (.getfield 77, 3) := by decide +kernel
theorem d15_63_5 : decode prog_15_method_63_code 5 = .ok (.aload_n 0, 1) := by decide +kernel
theorem d15_63_6 : decode prog_15_method_63_code 6 = .ok (.invokevirtual 312, 3) := by decide +kernel
theorem d15_63_9 : decode prog_15_method_63_code 9 = .ok (.iaload, 1) := by decide +kernel
theorem d15_63_10 : decode prog_15_method_63_code 10 = .ok (.iload_n 1, 1) := by decide +kernel
theorem d15_63_11 : decode prog_15_method_63_code 11 = .ok (.invokevirtual 299, 3) := by decide +kernel
theorem d15_63_14 : decode prog_15_method_63_code 14 = .ok (.istore_n 2, 1) := by decide +kernel
theorem d15_63_15 : decode prog_15_method_63_code 15 = .ok (.aload_n 0, 1) := by decide +kernel
theorem d15_63_16 : decode prog_15_method_63_code 16 = .ok (.getfield 308, 3) := by decide +kernel
theorem d15_63_19 : decode prog_15_method_63_code 19 = .ok (.ifCond .ne 7, 3) := by decide +kernel
theorem d15_63_26 : decode prog_15_method_63_code 26 = .ok (.aload_n 0, 1) := by decide +kernel
theorem d15_63_27 : decode prog_15_method_63_code 27 = .ok (.getfield 308, 3) := by decide +kernel
theorem d15_63_30 : decode prog_15_method_63_code 30 = .ok (.ifCond .eq 8, 3) := by decide +kernel
theorem d15_63_38 : decode prog_15_method_63_code 38 = .ok (.iconst (-1), 1) := by decide +kernel
theorem d15_63_33 : decode prog_15_method_63_code 33 = .ok (.bipush (-9), 2) := by decide +kernel
theorem d15_63_35 : decode prog_15_method_63_code 35 = .ok (.goto 4, 3) := by decide +kernel
theorem d15_63_39 : decode prog_15_method_63_code 39 = .ok (.ireturn, 1) := by decide +kernel
theorem d15_63_22 : decode prog_15_method_63_code 22 = .ok (.iload_n 2, 1) := by decide +kernel
theorem d15_63_23 : decode prog_15_method_63_code 23 = .ok (.ifCond .ge 17, 3) := by decide +kernel
theorem d15_63_40 : decode prog_15_method_63_code 40 = .ok (.aload_n 0, 1) := by decide +kernel
theorem d15_63_41 : decode prog_15_method_63_code 41 = .ok (.invokevirtual 329, 3) := by decide +kernel
theorem d15_63_44 : decode prog_15_method_63_code 44 = .ok (.aload_n 0, 1) := by decide +kernel
theorem d15_63_45 : decode prog_15_method_63_code 45 = .ok (.iconst 0, 1) := by decide +kernel
theorem d15_63_46 : decode prog_15_method_63_code 46 = .ok (.putfield 108, 3) := by decide +kernel
theorem d15_63_49 : decode prog_15_method_63_code 49 = .ok (.aload_n 0, 1) := by decide +kernel
theorem d15_63_50 : decode prog_15_method_63_code 50 = .ok (.getfield 111, 3) := by decide +kernel
theorem d15_63_53 : decode prog_15_method_63_code 53 = .ok (.ifCond .lt 11, 3) := by decide +kernel
theorem d15_63_64 : decode prog_15_method_63_code 64 = .ok (.aload_n 0, 1) := by decide +kernel
theorem d15_63_65 : decode prog_15_method_63_code 65 = .ok (.iload_n 2, 1) := by decide +kernel
theorem d15_63_66 : decode prog_15_method_63_code 66 = .ok (.bipush 81, 2) := by decide +kernel
theorem d15_63_68 : decode prog_15_method_63_code 68 = .ok (.invokevirtual 325, 3) := by decide +kernel
theorem d15_63_71 : decode prog_15_method_63_code 71 = .ok (.aload_n 0, 1) := by decide +kernel
theorem d15_51_0 : decode prog_15_method_51_code 0 = .ok (.bipush 80, 2) := by decide +kernel
theorem d15_51_2 : decode prog_15_method_51_code 2 = .ok (.invokestatic 159, 3) := by decide +kernel
theorem d15_51_5 : decode prog_15_method_51_code 5 = .ok (.istore_n 1, 1) := by decide +kernel
theorem d15_51_6 : decode prog_15_method_51_code 6 = .ok (.aload_n 0, 1) := by decide +kernel
theorem d15_51_7 : decode prog_15_method_51_code 7 = .ok (.getfield 13, 3) := by decide +kernel
theorem d15_51_10 : decode prog_15_method_51_code 10 = .ok (.iload_n 1, 1) := by decide +kernel
theorem d15_51_11 : decode prog_15_method_51_code 11 = .ok (.baload, 1) := by decide +kernel
theorem d15_51_12 : decode prog_15_method_51_code 12 = .ok (.iconst 5, 1) := by decide +kernel
theorem d15_51_13 : decode prog_15_method_51_code 13 = .ok (.if_icmp .eq 6, 3) := by decide +kernel
theorem d15_51_19 : decode prog_15_method_51_code 19 = .ok (.iload_n 1, 1) := by decide +kernel
theorem d15_51_20 : decode prog_15_method_51_code 20 = .ok (.iconst 1, 1) := by decide +kernel
theorem d15_51_21 : decode prog_15_method_51_code 21 = .ok (.iadd, 1) := by decide +kernel
theorem d15_51_22 : decode prog_15_method_51_code 22 = .ok (.istore_n 2, 1) := by decide +kernel
theorem d15_51_58 : decode prog_15_method_51_code 58 = .ok (.iconst 0, 1) := by decide +kernel
theorem d15_51_59 : decode prog_15_method_51_code 59 = .ok (.istore_n 2, 1) := by decide +kernel
theorem d15_51_60 : decode prog_15_method_51_code 60 = .ok (.iload_n 1, 1) := by decide +kernel
theorem d15_51_61 : decode prog_15_method_51_code 61 = .ok (.iconst 1, 1) := by decide +kernel
theorem d15_51_62 : decode prog_15_method_51_code 62 = .ok (.iadd, 1) := by decide +kernel
theorem d15_51_63 : decode prog_15_method_51_code 63 = .ok (.istore_n 3, 1) := by decide +kernel
theorem d15_51_114 : decode prog_15_method_51_code 114 = .ok (.iconst 0, 1) := by decide +kernel
theorem d15_51_115 : decode prog_15_method_51_code 115 = .ok (.ireturn, 1) := by decide +kernel
theorem d15_51_64 : decode prog_15_method_51_code 64 = .ok (.iload_n 3, 1) := by decide +kernel
theorem d15_51_65 : decode prog_15_method_51_code 65 = .ok (.iload_n 1, 1) := by decide +kernel
theorem d15_51_66 : decode prog_15_method_51_code 66 = .ok (.aload_n 0, 1) := by decide +kernel
theorem d15_51_67 : decode prog_15_method_51_code 67 = .ok (.getfield 17, 3) := by decide +kernel
theorem d15_51_70 : decode prog_15_method_51_code 70 = .ok (.iload_n 1, 1) := by decide +kernel
theorem d15_51_71 : decode prog_15_method_51_code 71 = .ok (.baload, 1) := by decide +kernel
theorem d15_51_72 : decode prog_15_method_51_code 72 = .ok (.iadd, 1) := by decide +kernel
theorem d15_51_73 : decode prog_15_method_51_code 73 = .ok (.if_icmp .ge 41, 3) := by decide +kernel
theorem d15_51_76 : decode prog_15_method_51_code 76 = .ok (.aload_n 0, 1) := by decide +kernel
theorem d15_51_77 : decode prog_15_method_51_code 77 = .ok (.iload_n 3, 1) := by decide +kernel
theorem d15_50_0 : decode prog_15_method_50_code 0 = .ok (.aload_n 0, 1) := by decide +kernel
theorem d15_50_1 : decode prog_15_method_50_code 1 = .ok (.getfield 20, 3) := by decide +kernel
theorem d15_50_4 : decode prog_15_method_50_code 4 = .ok (.aload_n 0, 1) := by decide +kernel
theorem d15_50_5 : decode prog_15_method_50_code 5 = .ok (.iload_n 1, 1) := by decide +kernel
theorem d15_50_6 : decode prog_15_method_50_code 6 = .ok (.ldc2_w 220, 3) := by decide +kernel
theorem k1441 : (Jvm.Cond.constantLong "PagedValuesModel" (220 : Nat) (144115188075884655 : Int64)) ∈ TB := tk_7 1 rfl rfl
theorem d15_44_0 : decode prog_15_method_44_code 0 = .ok (.aload_n 0, 1) := by decide +kernel
theorem d15_44_1 : decode prog_15_method_44_code 1 = .ok (.iload_n 1, 1) := by decide +kernel
theorem d15_44_2 : decode prog_15_method_44_code 2 = .ok (.lload_n 2, 1) := by decide +kernel
theorem d15_44_3 : decode prog_15_method_44_code 3 = .ok (.lconst 0, 1) := by decide +kernel
theorem d15_44_4 : decode prog_15_method_44_code 4 = .ok (.invokevirtual 168, 3) := by decide +kernel
theorem d15_44_7 : decode prog_15_method_44_code 7 = .ok (.ireturn, 1) := by decide +kernel
def y15_44 : MethodName := { cls := "PagedValuesModel", name := "operand", desc := "(IJ)I" }
theorem k1445 : (Jvm.Cond.code ({ cls := "PagedValuesModel", name := "operand", desc := "(IJ)I" } : Jvm.MethodName) prog_15_method_44_code (4 : Nat) (Option.some Jvm.ClassFile.FieldType.int)) ∈ TB := tk_7 5 rfl rfl
theorem k1442 : (Jvm.Cond.methodLink "PagedValuesModel" (222 : Nat) ({ cls := "PagedValuesModel", name := "operand", desc := "(IJ)I" } : Jvm.MethodName)) ∈ TB := tk_7 2 rfl rfl
theorem k1444 : (Jvm.Cond.instanceMethod ({ cls := "PagedValuesModel", name := "operand", desc := "(IJ)I" } : Jvm.MethodName)) ∈ TB := tk_7 4 rfl rfl
theorem ks68 : Cond.selects y15_44.cls y15_44 y15_44 ∈ TB := List.mem_filter.mpr ⟨List.mem_append_left _ (List.mem_of_getElem? (i := 68) (by decide +kernel)), rfl⟩
theorem d15_50_9 : decode prog_15_method_50_code 9 = .ok (.invokevirtual 222, 3) := by decide +kernel
theorem d15_50_12 : decode prog_15_method_50_code 12 = .ok (.laload, 1) := by decide +kernel
theorem d15_50_13 : decode prog_15_method_50_code 13 = .ok (.lstore_n 2, 1) := by decide +kernel
theorem d15_50_14 : decode prog_15_method_50_code 14 = .ok (.aload_n 0, 1) := by decide +kernel
theorem d15_50_15 : decode prog_15_method_50_code 15 = .ok (.iload_n 1, 1) := by decide +kernel
theorem d15_50_16 : decode prog_15_method_50_code 16 = .ok (.ldc2_w 229, 3) := by decide +kernel
theorem k1450 : (Jvm.Cond.constantLong "PagedValuesModel" (229 : Nat) (288230377904169328 : Int64)) ∈ TB := tk_7 10 rfl rfl
theorem d15_50_19 : decode prog_15_method_50_code 19 = .ok (.invokevirtual 222, 3) := by decide +kernel
theorem d15_50_22 : decode prog_15_method_50_code 22 = .ok (.istore 4, 2) := by decide +kernel
theorem d15_50_24 : decode prog_15_method_50_code 24 = .ok (.aload_n 0, 1) := by decide +kernel
theorem d15_50_25 : decode prog_15_method_50_code 25 = .ok (.getfield 20, 3) := by decide +kernel
theorem d15_50_28 : decode prog_15_method_50_code 28 = .ok (.iload 4, 2) := by decide +kernel
theorem d15_50_30 : decode prog_15_method_50_code 30 = .ok (.laload, 1) := by decide +kernel
theorem d15_50_31 : decode prog_15_method_50_code 31 = .ok (.lstore 5, 2) := by decide +kernel
theorem d15_50_33 : decode prog_15_method_50_code 33 = .ok (.aload_n 0, 1) := by decide +kernel
theorem d15_50_34 : decode prog_15_method_50_code 34 = .ok (.getfield 24, 3) := by decide +kernel
theorem d15_50_37 : decode prog_15_method_50_code 37 = .ok (.iload 4, 2) := by decide +kernel
theorem d15_50_39 : decode prog_15_method_50_code 39 = .ok (.laload, 1) := by decide +kernel
theorem d15_50_40 : decode prog_15_method_50_code 40 = .ok (.lstore 7, 2) := by decide +kernel
theorem d15_50_42 : decode prog_15_method_50_code 42 = .ok (.lload 5, 2) := by decide +kernel
theorem d15_50_44 : decode prog_15_method_50_code 44 = .ok (.lload 7, 2) := by decide +kernel
theorem d15_39_0 : decode prog_15_method_39_code 0 = .ok (.lload_n 0, 1) := by decide +kernel
theorem d15_39_1 : decode prog_15_method_39_code 1 = .ok (.invokestatic 95, 3) := by decide +kernel
theorem d15_39_4 : decode prog_15_method_39_code 4 = .ok (.ifCond .eq 14, 3) := by decide +kernel
theorem d15_39_18 : decode prog_15_method_39_code 18 = .ok (.iconst 1, 1) := by decide +kernel
theorem d15_39_19 : decode prog_15_method_39_code 19 = .ok (.goto 4, 3) := by decide +kernel
theorem d15_39_7 : decode prog_15_method_39_code 7 = .ok (.lload_n 0, 1) := by decide +kernel
theorem d15_39_8 : decode prog_15_method_39_code 8 = .ok (.lload_n 2, 1) := by decide +kernel
theorem d15_39_9 : decode prog_15_method_39_code 9 = .ok (.iconst 0, 1) := by decide +kernel
theorem d15_4_0 : decode prog_15_method_4_code 0 = .ok (.iload 4, 2) := by decide +kernel
theorem d15_4_2 : decode prog_15_method_4_code 2 = .ok (.bipush 7, 2) := by decide +kernel
theorem d15_4_4 : decode prog_15_method_4_code 4 = .ok (.if_icmp .ge 17, 3) := by decide +kernel
theorem d15_4_21 : decode prog_15_method_4_code 21 = .ok (.lload_n 2, 1) := by decide +kernel
theorem d15_4_22 : decode prog_15_method_4_code 22 = .ok (.bipush 8, 2) := by decide +kernel
theorem d15_4_24 : decode prog_15_method_4_code 24 = .ok (.iload 4, 2) := by decide +kernel
theorem d15_4_26 : decode prog_15_method_4_code 26 = .ok (.bipush 7, 2) := by decide +kernel
theorem d15_4_28 : decode prog_15_method_4_code 28 = .ok (.isub, 1) := by decide +kernel
theorem d15_4_29 : decode prog_15_method_4_code 29 = .ok (.imul, 1) := by decide +kernel
theorem d15_4_30 : decode prog_15_method_4_code 30 = .ok (.lshr, 1) := by decide +kernel
theorem d15_4_31 : decode prog_15_method_4_code 31 = .ok (.ldc2_w 89, 3) := by decide +kernel
theorem k1467 : (Jvm.Cond.constantLong "PagedValuesModel" (89 : Nat) (255 : Int64)) ∈ TB := tk_7 27 rfl rfl
theorem d15_4_34 : decode prog_15_method_4_code 34 = .ok (.land, 1) := by decide +kernel
theorem d15_4_7 : decode prog_15_method_4_code 7 = .ok (.lload_n 0, 1) := by decide +kernel
theorem d15_4_8 : decode prog_15_method_4_code 8 = .ok (.bipush 8, 2) := by decide +kernel
theorem d15_4_10 : decode prog_15_method_4_code 10 = .ok (.iload 4, 2) := by decide +kernel
theorem d15_4_12 : decode prog_15_method_4_code 12 = .ok (.imul, 1) := by decide +kernel
theorem d15_4_13 : decode prog_15_method_4_code 13 = .ok (.lshr, 1) := by decide +kernel
theorem d15_4_14 : decode prog_15_method_4_code 14 = .ok (.ldc2_w 89, 3) := by decide +kernel
theorem d15_4_17 : decode prog_15_method_4_code 17 = .ok (.land, 1) := by decide +kernel
theorem d15_4_18 : decode prog_15_method_4_code 18 = .ok (.goto 17, 3) := by decide +kernel
theorem d15_4_35 : decode prog_15_method_4_code 35 = .ok (.l2i, 1) := by decide +kernel
theorem d15_4_36 : decode prog_15_method_4_code 36 = .ok (.ireturn, 1) := by decide +kernel
def y15_4 : MethodName := { cls := "PagedValuesModel", name := "charOf", desc := "(JJI)I" }
theorem k1466 : (Jvm.Cond.code ({ cls := "PagedValuesModel", name := "charOf", desc := "(JJI)I" } : Jvm.MethodName) prog_15_method_4_code (5 : Nat) (Option.some Jvm.ClassFile.FieldType.int)) ∈ TB := tk_7 26 rfl rfl
theorem k1464 : (Jvm.Cond.methodLink "PagedValuesModel" (206 : Nat) ({ cls := "PagedValuesModel", name := "charOf", desc := "(JJI)I" } : Jvm.MethodName)) ∈ TB := tk_7 24 rfl rfl
theorem k1465 : (Jvm.Cond.static ({ cls := "PagedValuesModel", name := "charOf", desc := "(JJI)I" } : Jvm.MethodName)) ∈ TB := tk_7 25 rfl rfl
theorem d15_39_10 : decode prog_15_method_39_code 10 = .ok (.invokestatic 206, 3) := by decide +kernel
theorem d15_39_13 : decode prog_15_method_39_code 13 = .ok (.bipush 47, 2) := by decide +kernel
theorem d15_39_15 : decode prog_15_method_39_code 15 = .ok (.if_icmp .ne 7, 3) := by decide +kernel
theorem d15_39_22 : decode prog_15_method_39_code 22 = .ok (.iconst 0, 1) := by decide +kernel
theorem d15_39_23 : decode prog_15_method_39_code 23 = .ok (.istore 4, 2) := by decide +kernel
theorem d15_39_25 : decode prog_15_method_39_code 25 = .ok (.iconst 0, 1) := by decide +kernel
theorem d15_39_26 : decode prog_15_method_39_code 26 = .ok (.istore 5, 2) := by decide +kernel
theorem d15_39_107 : decode prog_15_method_39_code 107 = .ok (.iload 4, 2) := by decide +kernel
theorem d15_39_109 : decode prog_15_method_39_code 109 = .ok (.ireturn, 1) := by decide +kernel
theorem d15_39_28 : decode prog_15_method_39_code 28 = .ok (.iload 5, 2) := by decide +kernel
theorem d15_39_30 : decode prog_15_method_39_code 30 = .ok (.lload_n 0, 1) := by decide +kernel
theorem d15_39_31 : decode prog_15_method_39_code 31 = .ok (.invokestatic 95, 3) := by decide +kernel
theorem d15_39_34 : decode prog_15_method_39_code 34 = .ok (.if_icmp .ge 73, 3) := by decide +kernel
theorem d15_39_37 : decode prog_15_method_39_code 37 = .ok (.iload 5, 2) := by decide +kernel
theorem d15_39_39 : decode prog_15_method_39_code 39 = .ok (.iconst 1, 1) := by decide +kernel
theorem d15_39_40 : decode prog_15_method_39_code 40 = .ok (.iadd, 1) := by decide +kernel
theorem d15_39_41 : decode prog_15_method_39_code 41 = .ok (.lload_n 0, 1) := by decide +kernel
theorem d15_39_42 : decode prog_15_method_39_code 42 = .ok (.invokestatic 95, 3) := by decide +kernel
theorem d15_39_45 : decode prog_15_method_39_code 45 = .ok (.if_icmp .ge 15, 3) := by decide +kernel
theorem d15_39_60 : decode prog_15_method_39_code 60 = .ok (.iconst 0, 1) := by decide +kernel
theorem d15_39_48 : decode prog_15_method_39_code 48 = .ok (.lload_n 0, 1) := by decide +kernel
theorem d15_39_49 : decode prog_15_method_39_code 49 = .ok (.lload_n 2, 1) := by decide +kernel
theorem d15_39_50 : decode prog_15_method_39_code 50 = .ok (.iload 5, 2) := by decide +kernel
theorem d15_39_52 : decode prog_15_method_39_code 52 = .ok (.iconst 1, 1) := by decide +kernel
theorem d15_39_53 : decode prog_15_method_39_code 53 = .ok (.iadd, 1) := by decide +kernel
theorem d15_39_54 : decode prog_15_method_39_code 54 = .ok (.invokestatic 206, 3) := by decide +kernel
theorem d15_39_57 : decode prog_15_method_39_code 57 = .ok (.goto 4, 3) := by decide +kernel
theorem d15_39_61 : decode prog_15_method_39_code 61 = .ok (.istore 6, 2) := by decide +kernel
theorem d15_39_63 : decode prog_15_method_39_code 63 = .ok (.iload 4, 2) := by decide +kernel
theorem d15_39_65 : decode prog_15_method_39_code 65 = .ok (.ifCond .eq 33, 3) := by decide +kernel
theorem d15_39_98 : decode prog_15_method_39_code 98 = .ok (.iconst 0, 1) := by decide +kernel
theorem d15_39_68 : decode prog_15_method_39_code 68 = .ok (.lload_n 0, 1) := by decide +kernel
theorem d15_39_69 : decode prog_15_method_39_code 69 = .ok (.lload_n 2, 1) := by decide +kernel
theorem d15_39_70 : decode prog_15_method_39_code 70 = .ok (.iload 5, 2) := by decide +kernel
theorem d15_39_72 : decode prog_15_method_39_code 72 = .ok (.invokestatic 206, 3) := by decide +kernel
theorem d15_39_75 : decode prog_15_method_39_code 75 = .ok (.bipush 126, 2) := by decide +kernel
theorem d15_39_77 : decode prog_15_method_39_code 77 = .ok (.if_icmp .ne 17, 3) := by decide +kernel
theorem d15_39_94 : decode prog_15_method_39_code 94 = .ok (.iconst 1, 1) := by decide +kernel
theorem d15_39_95 : decode prog_15_method_39_code 95 = .ok (.goto 4, 3) := by decide +kernel
theorem d15_39_80 : decode prog_15_method_39_code 80 = .ok (.iload 6, 2) := by decide +kernel
theorem d15_39_82 : decode prog_15_method_39_code 82 = .ok (.bipush 48, 2) := by decide +kernel
theorem d15_39_84 : decode prog_15_method_39_code 84 = .ok (.if_icmp .eq 10, 3) := by decide +kernel
theorem d15_39_87 : decode prog_15_method_39_code 87 = .ok (.iload 6, 2) := by decide +kernel
theorem d15_39_89 : decode prog_15_method_39_code 89 = .ok (.bipush 49, 2) := by decide +kernel
theorem d15_39_91 : decode prog_15_method_39_code 91 = .ok (.if_icmp .ne 7, 3) := by decide +kernel
theorem d15_39_99 : decode prog_15_method_39_code 99 = .ok (.istore 4, 2) := by decide +kernel
theorem d15_39_101 : decode prog_15_method_39_code 101 = .ok (.iinc 5 1, 3) := by decide +kernel
theorem d15_39_104 : decode prog_15_method_39_code 104 = .ok (.goto (-76), 3) := by decide +kernel
def y15_39 : MethodName := { cls := "PagedValuesModel", name := "isPointer", desc := "(JJ)Z" }
theorem k1463 : (Jvm.Cond.code ({ cls := "PagedValuesModel", name := "isPointer", desc := "(JJ)Z" } : Jvm.MethodName) prog_15_method_39_code (7 : Nat) (Option.some Jvm.ClassFile.FieldType.boolean)) ∈ TB := tk_7 23 rfl rfl
theorem k1461 : (Jvm.Cond.methodLink "PagedValuesModel" (271 : Nat) ({ cls := "PagedValuesModel", name := "isPointer", desc := "(JJ)Z" } : Jvm.MethodName)) ∈ TB := tk_7 21 rfl rfl
theorem k1462 : (Jvm.Cond.static ({ cls := "PagedValuesModel", name := "isPointer", desc := "(JJ)Z" } : Jvm.MethodName)) ∈ TB := tk_7 22 rfl rfl
theorem d15_50_46 : decode prog_15_method_50_code 46 = .ok (.invokestatic 271, 3) := by decide +kernel
theorem d15_50_49 : decode prog_15_method_50_code 49 = .ok (.ifCond .ne 5, 3) := by decide +kernel
theorem d15_50_54 : decode prog_15_method_50_code 54 = .ok (.lload_n 2, 1) := by decide +kernel
theorem d15_50_55 : decode prog_15_method_50_code 55 = .ok (.ldc2_w 237, 3) := by decide +kernel
theorem k1454 : (Jvm.Cond.constantLong "PagedValuesModel" (237 : Nat) (288230378189123427 : Int64)) ∈ TB := tk_7 14 rfl rfl
theorem d15_50_58 : decode prog_15_method_50_code 58 = .ok (.lcmp, 1) := by decide +kernel
theorem d15_50_59 : decode prog_15_method_50_code 59 = .ok (.ifCond .ne 100, 3) := by decide +kernel
theorem d15_50_159 : decode prog_15_method_50_code 159 = .ok (.aload_n 0, 1) := by decide +kernel
theorem d15_50_160 : decode prog_15_method_50_code 160 = .ok (.lload 5, 2) := by decide +kernel
theorem d15_50_162 : decode prog_15_method_50_code 162 = .ok (.lload 7, 2) := by decide +kernel
theorem d15_50_164 : decode prog_15_method_50_code 164 = .ok (.lload 5, 2) := by decide +kernel
theorem d15_50_166 : decode prog_15_method_50_code 166 = .ok (.invokestatic 95, 3) := by decide +kernel
theorem d15_43_0 : decode prog_15_method_43_code 0 = .ok (.bipush 81, 2) := by decide +kernel
theorem d15_43_2 : decode prog_15_method_43_code 2 = .ok (.invokestatic 159, 3) := by decide +kernel
theorem d15_43_5 : decode prog_15_method_43_code 5 = .ok (.istore 6, 2) := by decide +kernel
theorem d15_43_7 : decode prog_15_method_43_code 7 = .ok (.iconst 0, 1) := by decide +kernel
theorem d15_43_8 : decode prog_15_method_43_code 8 = .ok (.istore 7, 2) := by decide +kernel
theorem d15_43_104 : decode prog_15_method_43_code 104 = .ok (.iload 6, 2) := by decide +kernel
theorem d15_43_106 : decode prog_15_method_43_code 106 = .ok (.ireturn, 1) := by decide +kernel
theorem d15_43_10 : decode prog_15_method_43_code 10 = .ok (.iload 7, 2) := by decide +kernel
theorem d15_43_12 : decode prog_15_method_43_code 12 = .ok (.iload 5, 2) := by decide +kernel
theorem d15_43_14 : decode prog_15_method_43_code 14 = .ok (.if_icmp .ge 90, 3) := by decide +kernel
theorem d15_43_17 : decode prog_15_method_43_code 17 = .ok (.iload 6, 2) := by decide +kernel
theorem d15_43_19 : decode prog_15_method_43_code 19 = .ok (.ifCond .lt 85, 3) := by decide +kernel
theorem d15_43_22 : decode prog_15_method_43_code 22 = .ok (.aload_n 0, 1) := by decide +kernel
theorem d15_43_23 : decode prog_15_method_43_code 23 = .ok (.lload_n 1, 1) := by decide +kernel
theorem d15_43_24 : decode prog_15_method_43_code 24 = .ok (.lload_n 3, 1) := by decide +kernel
theorem d15_43_25 : decode prog_15_method_43_code 25 = .ok (.iload 7, 2) := by decide +kernel
theorem d15_41_0 : decode prog_15_method_41_code 0 = .ok (.aload_n 0, 1) := by decide +kernel
theorem d15_41_1 : decode prog_15_method_41_code 1 = .ok (.invokevirtual 129, 3) := by decide +kernel
theorem d15_41_4 : decode prog_15_method_41_code 4 = .ok (.iload 5, 2) := by decide +kernel
theorem d15_41_6 : decode prog_15_method_41_code 6 = .ok (.iconst 1, 1) := by decide +kernel
theorem d15_41_7 : decode prog_15_method_41_code 7 = .ok (.iadd, 1) := by decide +kernel
theorem d15_41_8 : decode prog_15_method_41_code 8 = .ok (.istore 6, 2) := by decide +kernel
theorem d15_41_123 : decode prog_15_method_41_code 123 = .ok (.iload 6, 2) := by decide +kernel
theorem d15_41_125 : decode prog_15_method_41_code 125 = .ok (.ireturn, 1) := by decide +kernel
theorem d15_41_10 : decode prog_15_method_41_code 10 = .ok (.iload 6, 2) := by decide +kernel
theorem d15_41_12 : decode prog_15_method_41_code 12 = .ok (.lload_n 1, 1) := by decide +kernel
theorem d15_41_13 : decode prog_15_method_41_code 13 = .ok (.invokestatic 95, 3) := by decide +kernel
theorem d15_41_16 : decode prog_15_method_41_code 16 = .ok (.if_icmp .ge 107, 3) := by decide +kernel
theorem d15_41_19 : decode prog_15_method_41_code 19 = .ok (.lload_n 1, 1) := by decide +kernel
theorem d15_41_20 : decode prog_15_method_41_code 20 = .ok (.lload_n 3, 1) := by decide +kernel
theorem d15_41_21 : decode prog_15_method_41_code 21 = .ok (.iload 6, 2) := by decide +kernel
theorem d15_41_23 : decode prog_15_method_41_code 23 = .ok (.invokestatic 206, 3) := by decide +kernel
theorem d15_41_26 : decode prog_15_method_41_code 26 = .ok (.bipush 47, 2) := by decide +kernel
theorem d15_41_28 : decode prog_15_method_41_code 28 = .ok (.if_icmp .eq 95, 3) := by decide +kernel
theorem d15_41_31 : decode prog_15_method_41_code 31 = .ok (.lload_n 1, 1) := by decide +kernel
theorem d15_41_32 : decode prog_15_method_41_code 32 = .ok (.lload_n 3, 1) := by decide +kernel
theorem d15_41_33 : decode prog_15_method_41_code 33 = .ok (.iload 6, 2) := by decide +kernel
theorem d15_41_35 : decode prog_15_method_41_code 35 = .ok (.invokestatic 206, 3) := by decide +kernel
theorem d15_41_38 : decode prog_15_method_41_code 38 = .ok (.istore 7, 2) := by decide +kernel
theorem d15_41_40 : decode prog_15_method_41_code 40 = .ok (.iload 7, 2) := by decide +kernel
theorem d15_41_42 : decode prog_15_method_41_code 42 = .ok (.bipush 126, 2) := by decide +kernel
theorem d15_41_44 : decode prog_15_method_41_code 44 = .ok (.if_icmp .ne 7, 3) := by decide +kernel
theorem d15_41_51 : decode prog_15_method_41_code 51 = .ok (.iconst 0, 1) := by decide +kernel
theorem d15_41_47 : decode prog_15_method_41_code 47 = .ok (.iconst 1, 1) := by decide +kernel
theorem d15_41_48 : decode prog_15_method_41_code 48 = .ok (.goto 4, 3) := by decide +kernel
theorem d15_41_52 : decode prog_15_method_41_code 52 = .ok (.istore 8, 2) := by decide +kernel
theorem d15_41_54 : decode prog_15_method_41_code 54 = .ok (.iload 8, 2) := by decide +kernel
theorem d15_41_56 : decode prog_15_method_41_code 56 = .ok (.ifCond .eq 15, 3) := by decide +kernel
theorem d15_41_71 : decode prog_15_method_41_code 71 = .ok (.iconst 0, 1) := by decide +kernel
theorem d15_41_59 : decode prog_15_method_41_code 59 = .ok (.lload_n 1, 1) := by decide +kernel
theorem d15_41_60 : decode prog_15_method_41_code 60 = .ok (.lload_n 3, 1) := by decide +kernel
theorem d15_41_61 : decode prog_15_method_41_code 61 = .ok (.iload 6, 2) := by decide +kernel
theorem d15_41_63 : decode prog_15_method_41_code 63 = .ok (.iconst 1, 1) := by decide +kernel
theorem d15_41_64 : decode prog_15_method_41_code 64 = .ok (.iadd, 1) := by decide +kernel
theorem d15_41_65 : decode prog_15_method_41_code 65 = .ok (.invokestatic 206, 3) := by decide +kernel
theorem d15_41_68 : decode prog_15_method_41_code 68 = .ok (.goto 4, 3) := by decide +kernel
theorem d15_41_72 : decode prog_15_method_41_code 72 = .ok (.istore 9, 2) := by decide +kernel
theorem d15_41_74 : decode prog_15_method_41_code 74 = .ok (.aload_n 0, 1) := by decide +kernel
theorem d15_41_75 : decode prog_15_method_41_code 75 = .ok (.iload 8, 2) := by decide +kernel
theorem d15_41_77 : decode prog_15_method_41_code 77 = .ok (.ifCond .eq 20, 3) := by decide +kernel
theorem d15_41_97 : decode prog_15_method_41_code 97 = .ok (.iload 7, 2) := by decide +kernel
theorem d15_41_80 : decode prog_15_method_41_code 80 = .ok (.iload 9, 2) := by decide +kernel
theorem d15_41_82 : decode prog_15_method_41_code 82 = .ok (.bipush 48, 2) := by decide +kernel
theorem d15_41_84 : decode prog_15_method_41_code 84 = .ok (.if_icmp .ne 8, 3) := by decide +kernel
theorem d15_41_92 : decode prog_15_method_41_code 92 = .ok (.bipush 47, 2) := by decide +kernel
theorem d15_41_94 : decode prog_15_method_41_code 94 = .ok (.goto 5, 3) := by decide +kernel
theorem d15_41_87 : decode prog_15_method_41_code 87 = .ok (.bipush 126, 2) := by decide +kernel
theorem d15_41_89 : decode prog_15_method_41_code 89 = .ok (.goto 10, 3) := by decide +kernel
theorem d15_41_99 : decode prog_15_method_41_code 99 = .ok (.invokevirtual 125, 3) := by decide +kernel
theorem d15_41_102 : decode prog_15_method_41_code 102 = .ok (.iload 8, 2) := by decide +kernel
theorem d15_41_104 : decode prog_15_method_41_code 104 = .ok (.ifCond .eq 10, 3) := by decide +kernel
theorem d15_41_114 : decode prog_15_method_41_code 114 = .ok (.iload 6, 2) := by decide +kernel
theorem d15_41_116 : decode prog_15_method_41_code 116 = .ok (.iconst 1, 1) := by decide +kernel
theorem d15_41_117 : decode prog_15_method_41_code 117 = .ok (.iadd, 1) := by decide +kernel
theorem d15_41_107 : decode prog_15_method_41_code 107 = .ok (.iload 6, 2) := by decide +kernel
theorem d15_41_109 : decode prog_15_method_41_code 109 = .ok (.iconst 2, 1) := by decide +kernel
theorem d15_41_110 : decode prog_15_method_41_code 110 = .ok (.iadd, 1) := by decide +kernel
theorem d15_41_111 : decode prog_15_method_41_code 111 = .ok (.goto 7, 3) := by decide +kernel
theorem d15_41_118 : decode prog_15_method_41_code 118 = .ok (.istore 6, 2) := by decide +kernel
theorem d15_41_120 : decode prog_15_method_41_code 120 = .ok (.goto (-110), 3) := by decide +kernel
def y15_41 : MethodName := { cls := "PagedValuesModel", name := "token", desc := "(JJI)I" }
theorem k1475 : (Jvm.Cond.code ({ cls := "PagedValuesModel", name := "token", desc := "(JJI)I" } : Jvm.MethodName) prog_15_method_41_code (10 : Nat) (Option.some Jvm.ClassFile.FieldType.int)) ∈ TB := tk_7 35 rfl rfl
theorem k1472 : (Jvm.Cond.methodLink "PagedValuesModel" (210 : Nat) ({ cls := "PagedValuesModel", name := "token", desc := "(JJI)I" } : Jvm.MethodName)) ∈ TB := tk_7 32 rfl rfl
theorem k1474 : (Jvm.Cond.instanceMethod ({ cls := "PagedValuesModel", name := "token", desc := "(JJI)I" } : Jvm.MethodName)) ∈ TB := tk_7 34 rfl rfl
theorem ks72 : Cond.selects y15_41.cls y15_41 y15_41 ∈ TB := List.mem_filter.mpr ⟨List.mem_append_left _ (List.mem_of_getElem? (i := 72) (by decide +kernel)), rfl⟩
theorem d15_43_27 : decode prog_15_method_43_code 27 = .ok (.invokevirtual 210, 3) := by decide +kernel
theorem d15_43_30 : decode prog_15_method_43_code 30 = .ok (.istore 7, 2) := by decide +kernel
theorem d15_43_32 : decode prog_15_method_43_code 32 = .ok (.aload_n 0, 1) := by decide +kernel
theorem d15_43_33 : decode prog_15_method_43_code 33 = .ok (.getfield 13, 3) := by decide +kernel
theorem d15_43_36 : decode prog_15_method_43_code 36 = .ok (.iload 6, 2) := by decide +kernel
theorem d15_43_38 : decode prog_15_method_43_code 38 = .ok (.baload, 1) := by decide +kernel
theorem d15_43_39 : decode prog_15_method_43_code 39 = .ok (.iconst 5, 1) := by decide +kernel
theorem d15_43_40 : decode prog_15_method_43_code 40 = .ok (.if_icmp .ne 10, 3) := by decide +kernel
theorem d15_43_50 : decode prog_15_method_43_code 50 = .ok (.iconst (-1), 1) := by decide +kernel
theorem d15_43_43 : decode prog_15_method_43_code 43 = .ok (.aload_n 0, 1) := by decide +kernel
theorem d15_42_0 : decode prog_15_method_42_code 0 = .ok (.aload_n 0, 1) := by decide +kernel
theorem d15_42_1 : decode prog_15_method_42_code 1 = .ok (.getfield 91, 3) := by decide +kernel
theorem d15_42_4 : decode prog_15_method_42_code 4 = .ok (.invokestatic 95, 3) := by decide +kernel
theorem d15_42_7 : decode prog_15_method_42_code 7 = .ok (.istore_n 1, 1) := by decide +kernel
theorem d15_42_8 : decode prog_15_method_42_code 8 = .ok (.iconst 0, 1) := by decide +kernel
theorem d15_42_9 : decode prog_15_method_42_code 9 = .ok (.istore_n 2, 1) := by decide +kernel
theorem d15_42_10 : decode prog_15_method_42_code 10 = .ok (.iconst 0, 1) := by decide +kernel
theorem d15_42_11 : decode prog_15_method_42_code 11 = .ok (.istore_n 3, 1) := by decide +kernel
theorem d15_42_79 : decode prog_15_method_42_code 79 = .ok (.iload_n 1, 1) := by decide +kernel
theorem d15_42_80 : decode prog_15_method_42_code 80 = .ok (.ifCond .ne 7, 3) := by decide +kernel
theorem d15_42_87 : decode prog_15_method_42_code 87 = .ok (.iload_n 2, 1) := by decide +kernel
theorem d15_42_83 : decode prog_15_method_42_code 83 = .ok (.iconst (-1), 1) := by decide +kernel
theorem d15_42_84 : decode prog_15_method_42_code 84 = .ok (.goto 4, 3) := by decide +kernel
theorem d15_42_88 : decode prog_15_method_42_code 88 = .ok (.ireturn, 1) := by decide +kernel
theorem d15_42_12 : decode prog_15_method_42_code 12 = .ok (.iload_n 3, 1) := by decide +kernel
theorem d15_42_13 : decode prog_15_method_42_code 13 = .ok (.iload_n 1, 1) := by decide +kernel
theorem d15_42_14 : decode prog_15_method_42_code 14 = .ok (.if_icmp .ge 65, 3) := by decide +kernel
theorem d15_42_17 : decode prog_15_method_42_code 17 = .ok (.aload_n 0, 1) := by decide +kernel
theorem d15_42_18 : decode prog_15_method_42_code 18 = .ok (.getfield 91, 3) := by decide +kernel
theorem d15_42_21 : decode prog_15_method_42_code 21 = .ok (.aload_n 0, 1) := by decide +kernel
theorem d15_42_22 : decode prog_15_method_42_code 22 = .ok (.getfield 99, 3) := by decide +kernel
theorem d15_42_25 : decode prog_15_method_42_code 25 = .ok (.iload_n 3, 1) := by decide +kernel
theorem d15_42_26 : decode prog_15_method_42_code 26 = .ok (.invokestatic 206, 3) := by decide +kernel
theorem d15_42_29 : decode prog_15_method_42_code 29 = .ok (.istore 4, 2) := by decide +kernel
theorem d15_42_31 : decode prog_15_method_42_code 31 = .ok (.iload 4, 2) := by decide +kernel
theorem d15_42_33 : decode prog_15_method_42_code 33 = .ok (.invokestatic 141, 3) := by decide +kernel
theorem d15_42_36 : decode prog_15_method_42_code 36 = .ok (.ifCond .eq 12, 3) := by decide +kernel
theorem d15_42_48 : decode prog_15_method_42_code 48 = .ok (.iconst (-1), 1) := by decide +kernel
theorem d15_42_49 : decode prog_15_method_42_code 49 = .ok (.ireturn, 1) := by decide +kernel
theorem d15_42_39 : decode prog_15_method_42_code 39 = .ok (.iload_n 3, 1) := by decide +kernel
theorem d15_42_40 : decode prog_15_method_42_code 40 = .ok (.iconst 1, 1) := by decide +kernel
theorem d15_42_41 : decode prog_15_method_42_code 41 = .ok (.if_icmp .ne 9, 3) := by decide +kernel
theorem d15_42_50 : decode prog_15_method_42_code 50 = .ok (.iload_n 2, 1) := by decide +kernel
theorem d15_42_51 : decode prog_15_method_42_code 51 = .ok (.bipush 99, 2) := by decide +kernel
theorem d15_42_53 : decode prog_15_method_42_code 53 = .ok (.if_icmp .le 9, 3) := by decide +kernel
theorem d15_42_62 : decode prog_15_method_42_code 62 = .ok (.bipush 10, 2) := by decide +kernel
theorem d15_42_64 : decode prog_15_method_42_code 64 = .ok (.iload_n 2, 1) := by decide +kernel
theorem d15_42_65 : decode prog_15_method_42_code 65 = .ok (.imul, 1) := by decide +kernel
theorem d15_42_66 : decode prog_15_method_42_code 66 = .ok (.iload 4, 2) := by decide +kernel
theorem d15_42_68 : decode prog_15_method_42_code 68 = .ok (.iadd, 1) := by decide +kernel
theorem d15_42_69 : decode prog_15_method_42_code 69 = .ok (.bipush 48, 2) := by decide +kernel
theorem d15_42_71 : decode prog_15_method_42_code 71 = .ok (.isub, 1) := by decide +kernel
theorem d15_42_56 : decode prog_15_method_42_code 56 = .ok (.sipush 999, 3) := by decide +kernel
theorem d15_42_59 : decode prog_15_method_42_code 59 = .ok (.goto 13, 3) := by decide +kernel
theorem d15_42_72 : decode prog_15_method_42_code 72 = .ok (.istore_n 2, 1) := by decide +kernel
theorem d15_42_73 : decode prog_15_method_42_code 73 = .ok (.iinc 3 1, 3) := by decide +kernel
theorem d15_42_76 : decode prog_15_method_42_code 76 = .ok (.goto (-64), 3) := by decide +kernel
theorem d15_42_44 : decode prog_15_method_42_code 44 = .ok (.iload_n 2, 1) := by decide +kernel
theorem d15_42_45 : decode prog_15_method_42_code 45 = .ok (.ifCond .ne 5, 3) := by decide +kernel
def y15_42 : MethodName := { cls := "PagedValuesModel", name := "tokenNumber", desc := "()I" }
theorem k1479 : (Jvm.Cond.code ({ cls := "PagedValuesModel", name := "tokenNumber", desc := "()I" } : Jvm.MethodName) prog_15_method_42_code (5 : Nat) (Option.some Jvm.ClassFile.FieldType.int)) ∈ TB := tk_7 39 rfl rfl
theorem k1476 : (Jvm.Cond.methodLink "PagedValuesModel" (213 : Nat) ({ cls := "PagedValuesModel", name := "tokenNumber", desc := "()I" } : Jvm.MethodName)) ∈ TB := tk_7 36 rfl rfl
theorem k1478 : (Jvm.Cond.instanceMethod ({ cls := "PagedValuesModel", name := "tokenNumber", desc := "()I" } : Jvm.MethodName)) ∈ TB := tk_7 38 rfl rfl
theorem ks73 : Cond.selects y15_42.cls y15_42 y15_42 ∈ TB := List.mem_filter.mpr ⟨List.mem_append_left _ (List.mem_of_getElem? (i := 73) (by decide +kernel)), rfl⟩
theorem d15_43_44 : decode prog_15_method_43_code 44 = .ok (.invokevirtual 213, 3) := by decide +kernel
theorem d15_43_47 : decode prog_15_method_43_code 47 = .ok (.goto 4, 3) := by decide +kernel
theorem d15_43_51 : decode prog_15_method_43_code 51 = .ok (.istore 8, 2) := by decide +kernel
theorem d15_43_53 : decode prog_15_method_43_code 53 = .ok (.aload_n 0, 1) := by decide +kernel
theorem d15_43_54 : decode prog_15_method_43_code 54 = .ok (.getfield 13, 3) := by decide +kernel
theorem d15_43_57 : decode prog_15_method_43_code 57 = .ok (.iload 6, 2) := by decide +kernel
theorem d15_43_59 : decode prog_15_method_43_code 59 = .ok (.baload, 1) := by decide +kernel
theorem d15_43_60 : decode prog_15_method_43_code 60 = .ok (.bipush 6, 2) := by decide +kernel
theorem d15_43_62 : decode prog_15_method_43_code 62 = .ok (.if_icmp .ne 20, 3) := by decide +kernel
theorem d15_43_82 : decode prog_15_method_43_code 82 = .ok (.iload 8, 2) := by decide +kernel
theorem d15_43_84 : decode prog_15_method_43_code 84 = .ok (.ifCond .lt 14, 3) := by decide +kernel
theorem d15_43_98 : decode prog_15_method_43_code 98 = .ok (.iconst (-1), 1) := by decide +kernel
theorem d15_43_87 : decode prog_15_method_43_code 87 = .ok (.aload_n 0, 1) := by decide +kernel
theorem d15_43_88 : decode prog_15_method_43_code 88 = .ok (.iload 6, 2) := by decide +kernel
theorem d15_43_90 : decode prog_15_method_43_code 90 = .ok (.iload 8, 2) := by decide +kernel
theorem d15_37_0 : decode prog_15_method_37_code 0 = .ok (.iload_n 2, 1) := by decide +kernel
theorem d15_37_1 : decode prog_15_method_37_code 1 = .ok (.istore_n 3, 1) := by decide +kernel
theorem d15_37_2 : decode prog_15_method_37_code 2 = .ok (.iconst (-1), 1) := by decide +kernel
theorem d15_37_3 : decode prog_15_method_37_code 3 = .ok (.istore 4, 2) := by decide +kernel
theorem d15_37_5 : decode prog_15_method_37_code 5 = .ok (.iload_n 1, 1) := by decide +kernel
theorem d15_37_6 : decode prog_15_method_37_code 6 = .ok (.iconst 1, 1) := by decide +kernel
theorem d15_37_7 : decode prog_15_method_37_code 7 = .ok (.iadd, 1) := by decide +kernel
theorem d15_37_8 : decode prog_15_method_37_code 8 = .ok (.istore 5, 2) := by decide +kernel
theorem d15_37_54 : decode prog_15_method_37_code 54 = .ok (.iload 4, 2) := by decide +kernel
theorem d15_37_56 : decode prog_15_method_37_code 56 = .ok (.ireturn, 1) := by decide +kernel
theorem d15_37_10 : decode prog_15_method_37_code 10 = .ok (.iload 5, 2) := by decide +kernel
theorem d15_37_12 : decode prog_15_method_37_code 12 = .ok (.iload_n 1, 1) := by decide +kernel
theorem d15_37_13 : decode prog_15_method_37_code 13 = .ok (.aload_n 0, 1) := by decide +kernel
theorem d15_37_14 : decode prog_15_method_37_code 14 = .ok (.getfield 17, 3) := by decide +kernel
theorem d15_37_17 : decode prog_15_method_37_code 17 = .ok (.iload_n 1, 1) := by decide +kernel
theorem d15_37_18 : decode prog_15_method_37_code 18 = .ok (.baload, 1) := by decide +kernel
theorem d15_37_19 : decode prog_15_method_37_code 19 = .ok (.iadd, 1) := by decide +kernel
theorem d15_37_20 : decode prog_15_method_37_code 20 = .ok (.if_icmp .ge 34, 3) := by decide +kernel
theorem d15_37_23 : decode prog_15_method_37_code 23 = .ok (.iload_n 3, 1) := by decide +kernel
theorem d15_37_24 : decode prog_15_method_37_code 24 = .ok (.ifCond .ne 8, 3) := by decide +kernel
theorem d15_37_32 : decode prog_15_method_37_code 32 = .ok (.iload 4, 2) := by decide +kernel
theorem d15_37_27 : decode prog_15_method_37_code 27 = .ok (.iload 5, 2) := by decide +kernel
theorem d15_37_29 : decode prog_15_method_37_code 29 = .ok (.goto 5, 3) := by decide +kernel
theorem d15_37_34 : decode prog_15_method_37_code 34 = .ok (.istore 4, 2) := by decide +kernel
theorem d15_37_36 : decode prog_15_method_37_code 36 = .ok (.iinc 3 (-1), 3) := by decide +kernel
theorem d15_37_39 : decode prog_15_method_37_code 39 = .ok (.iload 5, 2) := by decide +kernel
theorem d15_37_41 : decode prog_15_method_37_code 41 = .ok (.aload_n 0, 1) := by decide +kernel
theorem d15_37_42 : decode prog_15_method_37_code 42 = .ok (.getfield 17, 3) := by decide +kernel
theorem d15_37_45 : decode prog_15_method_37_code 45 = .ok (.iload 5, 2) := by decide +kernel
theorem d15_37_47 : decode prog_15_method_37_code 47 = .ok (.baload, 1) := by decide +kernel
theorem d15_37_48 : decode prog_15_method_37_code 48 = .ok (.iadd, 1) := by decide +kernel
theorem d15_37_49 : decode prog_15_method_37_code 49 = .ok (.istore 5, 2) := by decide +kernel
theorem d15_37_51 : decode prog_15_method_37_code 51 = .ok (.goto (-41), 3) := by decide +kernel
def y15_37 : MethodName := { cls := "PagedValuesModel", name := "element", desc := "(II)I" }
theorem k1483 : (Jvm.Cond.code ({ cls := "PagedValuesModel", name := "element", desc := "(II)I" } : Jvm.MethodName) prog_15_method_37_code (6 : Nat) (Option.some Jvm.ClassFile.FieldType.int)) ∈ TB := tk_7 43 rfl rfl
theorem k1480 : (Jvm.Cond.methodLink "PagedValuesModel" (216 : Nat) ({ cls := "PagedValuesModel", name := "element", desc := "(II)I" } : Jvm.MethodName)) ∈ TB := tk_7 40 rfl rfl
theorem k1482 : (Jvm.Cond.instanceMethod ({ cls := "PagedValuesModel", name := "element", desc := "(II)I" } : Jvm.MethodName)) ∈ TB := tk_7 42 rfl rfl
theorem ks74 : Cond.selects y15_37.cls y15_37 y15_37 ∈ TB := List.mem_filter.mpr ⟨List.mem_append_left _ (List.mem_of_getElem? (i := 74) (by decide +kernel)), rfl⟩
theorem d15_43_92 : decode prog_15_method_43_code 92 = .ok (.invokevirtual 216, 3) := by decide +kernel
theorem d15_43_95 : decode prog_15_method_43_code 95 = .ok (.goto 4, 3) := by decide +kernel
theorem d15_43_65 : decode prog_15_method_43_code 65 = .ok (.aload_n 0, 1) := by decide +kernel
theorem d15_43_66 : decode prog_15_method_43_code 66 = .ok (.iload 6, 2) := by decide +kernel
theorem d15_43_68 : decode prog_15_method_43_code 68 = .ok (.aload_n 0, 1) := by decide +kernel
theorem d15_43_69 : decode prog_15_method_43_code 69 = .ok (.getfield 91, 3) := by decide +kernel
theorem d15_43_72 : decode prog_15_method_43_code 72 = .ok (.aload_n 0, 1) := by decide +kernel
theorem d15_43_73 : decode prog_15_method_43_code 73 = .ok (.getfield 99, 3) := by decide +kernel
theorem d15_43_76 : decode prog_15_method_43_code 76 = .ok (.invokevirtual 168, 3) := by decide +kernel
theorem d15_43_79 : decode prog_15_method_43_code 79 = .ok (.goto 20, 3) := by decide +kernel
theorem d15_43_99 : decode prog_15_method_43_code 99 = .ok (.istore 6, 2) := by decide +kernel
theorem d15_43_101 : decode prog_15_method_43_code 101 = .ok (.goto (-91), 3) := by decide +kernel
def y15_43 : MethodName := { cls := "PagedValuesModel", name := "walk", desc := "(JJI)I" }
theorem k1471 : (Jvm.Cond.code ({ cls := "PagedValuesModel", name := "walk", desc := "(JJI)I" } : Jvm.MethodName) prog_15_method_43_code (9 : Nat) (Option.some Jvm.ClassFile.FieldType.int)) ∈ TB := tk_7 31 rfl rfl
theorem k1468 : (Jvm.Cond.methodLink "PagedValuesModel" (250 : Nat) ({ cls := "PagedValuesModel", name := "walk", desc := "(JJI)I" } : Jvm.MethodName)) ∈ TB := tk_7 28 rfl rfl
theorem k1470 : (Jvm.Cond.instanceMethod ({ cls := "PagedValuesModel", name := "walk", desc := "(JJI)I" } : Jvm.MethodName)) ∈ TB := tk_7 30 rfl rfl
theorem ks71 : Cond.selects y15_43.cls y15_43 y15_43 ∈ TB := List.mem_filter.mpr ⟨List.mem_append_left _ (List.mem_of_getElem? (i := 71) (by decide +kernel)), rfl⟩
theorem d15_50_169 : decode prog_15_method_50_code 169 = .ok (.invokevirtual 250, 3) := by decide +kernel
theorem d15_50_172 : decode prog_15_method_50_code 172 = .ok (.istore 9, 2) := by decide +kernel
theorem d15_50_174 : decode prog_15_method_50_code 174 = .ok (.lload_n 2, 1) := by decide +kernel
theorem d15_50_175 : decode prog_15_method_50_code 175 = .ok (.ldc2_w 241, 3) := by decide +kernel
theorem k1456 : (Jvm.Cond.constantLong "PagedValuesModel" (241 : Nat) (432457123577554290 : Int64)) ∈ TB := tk_7 16 rfl rfl
theorem d15_50_178 : decode prog_15_method_50_code 178 = .ok (.lcmp, 1) := by decide +kernel
theorem d15_50_179 : decode prog_15_method_50_code 179 = .ok (.ifCond .ne 10, 3) := by decide +kernel
theorem d15_50_189 : decode prog_15_method_50_code 189 = .ok (.aload_n 0, 1) := by decide +kernel
theorem d15_50_190 : decode prog_15_method_50_code 190 = .ok (.iload_n 1, 1) := by decide +kernel
theorem d15_50_191 : decode prog_15_method_50_code 191 = .ok (.ldc2_w 235, 3) := by decide +kernel
theorem k1453 : (Jvm.Cond.constantLong "PagedValuesModel" (235 : Nat) (360288405951373686 : Int64)) ∈ TB := tk_7 13 rfl rfl
theorem d15_50_194 : decode prog_15_method_50_code 194 = .ok (.invokevirtual 222, 3) := by decide +kernel
theorem d15_50_197 : decode prog_15_method_50_code 197 = .ok (.istore 10, 2) := by decide +kernel
theorem d15_50_199 : decode prog_15_method_50_code 199 = .ok (.aload_n 0, 1) := by decide +kernel
theorem d15_50_200 : decode prog_15_method_50_code 200 = .ok (.iload 10, 2) := by decide +kernel
theorem d15_34_0 : decode prog_15_method_34_code 0 = .ok (.aload_n 0, 1) := by decide +kernel
theorem d15_34_1 : decode prog_15_method_34_code 1 = .ok (.iload_n 1, 1) := by decide +kernel
theorem d15_34_2 : decode prog_15_method_34_code 2 = .ok (.bipush 82, 2) := by decide +kernel
theorem d15_34_4 : decode prog_15_method_34_code 4 = .ok (.invokestatic 159, 3) := by decide +kernel
theorem d15_34_7 : decode prog_15_method_34_code 7 = .ok (.aload_n 0, 1) := by decide +kernel
theorem d15_34_8 : decode prog_15_method_34_code 8 = .ok (.getfield 17, 3) := by decide +kernel
theorem d15_34_11 : decode prog_15_method_34_code 11 = .ok (.iload_n 1, 1) := by decide +kernel
theorem d15_34_12 : decode prog_15_method_34_code 12 = .ok (.baload, 1) := by decide +kernel
theorem d15_34_13 : decode prog_15_method_34_code 13 = .ok (.invokevirtual 199, 3) := by decide +kernel
theorem d15_34_16 : decode prog_15_method_34_code 16 = .ok (.return_, 1) := by decide +kernel
def y15_34 : MethodName := { cls := "PagedValuesModel", name := "part", desc := "(I)V" }
theorem k1487 : (Jvm.Cond.code ({ cls := "PagedValuesModel", name := "part", desc := "(I)V" } : Jvm.MethodName) prog_15_method_34_code (2 : Nat) (Option.none : Option Jvm.ClassFile.FieldType)) ∈ TB := tk_7 47 rfl rfl
theorem k1484 : (Jvm.Cond.methodLink "PagedValuesModel" (274 : Nat) ({ cls := "PagedValuesModel", name := "part", desc := "(I)V" } : Jvm.MethodName)) ∈ TB := tk_7 44 rfl rfl
theorem k1486 : (Jvm.Cond.instanceMethod ({ cls := "PagedValuesModel", name := "part", desc := "(I)V" } : Jvm.MethodName)) ∈ TB := tk_7 46 rfl rfl
theorem ks75 : Cond.selects y15_34.cls y15_34 y15_34 ∈ TB := List.mem_filter.mpr ⟨List.mem_append_left _ (List.mem_of_getElem? (i := 75) (by decide +kernel)), rfl⟩
theorem d15_50_202 : decode prog_15_method_50_code 202 = .ok (.invokevirtual 274, 3) := by decide +kernel
theorem d15_50_205 : decode prog_15_method_50_code 205 = .ok (.lload_n 2, 1) := by decide +kernel
theorem d15_50_206 : decode prog_15_method_50_code 206 = .ok (.ldc2_w 231, 3) := by decide +kernel
theorem k1451 : (Jvm.Cond.constantLong "PagedValuesModel" (231 : Nat) (216172782120363105 : Int64)) ∈ TB := tk_7 11 rfl rfl
theorem d15_50_209 : decode prog_15_method_50_code 209 = .ok (.lcmp, 1) := by decide +kernel
theorem d15_50_210 : decode prog_15_method_50_code 210 = .ok (.ifCond .ne 14, 3) := by decide +kernel
theorem d15_50_224 : decode prog_15_method_50_code 224 = .ok (.aload_n 0, 1) := by decide +kernel
theorem d15_50_225 : decode prog_15_method_50_code 225 = .ok (.iload 9, 2) := by decide +kernel
theorem d15_49_0 : decode prog_15_method_49_code 0 = .ok (.iload_n 1, 1) := by decide +kernel
theorem d15_49_1 : decode prog_15_method_49_code 1 = .ok (.ifCond .ge 5, 3) := by decide +kernel
theorem d15_49_6 : decode prog_15_method_49_code 6 = .ok (.iload_n 1, 1) := by decide +kernel
theorem d15_49_7 : decode prog_15_method_49_code 7 = .ok (.bipush 81, 2) := by decide +kernel
theorem d15_49_9 : decode prog_15_method_49_code 9 = .ok (.invokestatic 159, 3) := by decide +kernel
theorem d15_49_12 : decode prog_15_method_49_code 12 = .ok (.if_icmp .ne 10, 3) := by decide +kernel
theorem d15_49_22 : decode prog_15_method_49_code 22 = .ok (.aload_n 0, 1) := by decide +kernel
theorem d15_49_23 : decode prog_15_method_49_code 23 = .ok (.aload_n 0, 1) := by decide +kernel
theorem d15_49_24 : decode prog_15_method_49_code 24 = .ok (.getfield 27, 3) := by decide +kernel
theorem d15_49_27 : decode prog_15_method_49_code 27 = .ok (.iload_n 1, 1) := by decide +kernel
theorem d15_49_28 : decode prog_15_method_49_code 28 = .ok (.laload, 1) := by decide +kernel
theorem d15_49_29 : decode prog_15_method_49_code 29 = .ok (.aload_n 0, 1) := by decide +kernel
theorem d15_49_30 : decode prog_15_method_49_code 30 = .ok (.getfield 30, 3) := by decide +kernel
theorem d15_49_33 : decode prog_15_method_49_code 33 = .ok (.iload_n 1, 1) := by decide +kernel
theorem d15_49_34 : decode prog_15_method_49_code 34 = .ok (.laload, 1) := by decide +kernel
theorem d15_35_0 : decode prog_15_method_35_code 0 = .ok (.aload_n 0, 1) := by decide +kernel
theorem d15_35_1 : decode prog_15_method_35_code 1 = .ok (.getfield 27, 3) := by decide +kernel
theorem d15_35_4 : decode prog_15_method_35_code 4 = .ok (.bipush 82, 2) := by decide +kernel
theorem d15_35_6 : decode prog_15_method_35_code 6 = .ok (.invokestatic 159, 3) := by decide +kernel
theorem d15_35_9 : decode prog_15_method_35_code 9 = .ok (.lload_n 1, 1) := by decide +kernel
theorem d15_35_10 : decode prog_15_method_35_code 10 = .ok (.lastore, 1) := by decide +kernel
theorem d15_35_11 : decode prog_15_method_35_code 11 = .ok (.aload_n 0, 1) := by decide +kernel
theorem d15_35_12 : decode prog_15_method_35_code 12 = .ok (.getfield 30, 3) := by decide +kernel
theorem d15_35_15 : decode prog_15_method_35_code 15 = .ok (.bipush 82, 2) := by decide +kernel
theorem d15_35_17 : decode prog_15_method_35_code 17 = .ok (.invokestatic 159, 3) := by decide +kernel
theorem d15_35_20 : decode prog_15_method_35_code 20 = .ok (.lload_n 3, 1) := by decide +kernel
theorem d15_35_21 : decode prog_15_method_35_code 21 = .ok (.lastore, 1) := by decide +kernel
theorem d15_35_22 : decode prog_15_method_35_code 22 = .ok (.return_, 1) := by decide +kernel
def y15_35 : MethodName := { cls := "PagedValuesModel", name := "partName", desc := "(JJ)V" }
theorem k1495 : (Jvm.Cond.code ({ cls := "PagedValuesModel", name := "partName", desc := "(JJ)V" } : Jvm.MethodName) prog_15_method_35_code (5 : Nat) (Option.none : Option Jvm.ClassFile.FieldType)) ∈ TB := tk_7 55 rfl rfl
theorem k1492 : (Jvm.Cond.methodLink "PagedValuesModel" (243 : Nat) ({ cls := "PagedValuesModel", name := "partName", desc := "(JJ)V" } : Jvm.MethodName)) ∈ TB := tk_7 52 rfl rfl
theorem k1494 : (Jvm.Cond.instanceMethod ({ cls := "PagedValuesModel", name := "partName", desc := "(JJ)V" } : Jvm.MethodName)) ∈ TB := tk_7 54 rfl rfl
theorem ks77 : Cond.selects y15_35.cls y15_35 y15_35 ∈ TB := List.mem_filter.mpr ⟨List.mem_append_left _ (List.mem_of_getElem? (i := 77) (by decide +kernel)), rfl⟩
theorem d15_49_35 : decode prog_15_method_49_code 35 = .ok (.invokevirtual 243, 3) := by decide +kernel
theorem d15_49_38 : decode prog_15_method_49_code 38 = .ok (.aload_n 0, 1) := by decide +kernel
theorem d15_49_39 : decode prog_15_method_49_code 39 = .ok (.iload_n 1, 1) := by decide +kernel
theorem d15_32_0 : decode prog_15_method_32_code 0 = .ok (.iconst (-1), 1) := by decide +kernel
theorem d15_32_1 : decode prog_15_method_32_code 1 = .ok (.istore_n 2, 1) := by decide +kernel
theorem d15_32_2 : decode prog_15_method_32_code 2 = .ok (.bipush 81, 2) := by decide +kernel
theorem d15_32_4 : decode prog_15_method_32_code 4 = .ok (.invokestatic 159, 3) := by decide +kernel
theorem d15_32_7 : decode prog_15_method_32_code 7 = .ok (.istore_n 3, 1) := by decide +kernel
theorem d15_32_37 : decode prog_15_method_32_code 37 = .ok (.iload_n 2, 1) := by decide +kernel
theorem d15_32_38 : decode prog_15_method_32_code 38 = .ok (.ireturn, 1) := by decide +kernel
theorem d15_32_8 : decode prog_15_method_32_code 8 = .ok (.iload_n 3, 1) := by decide +kernel
theorem d15_32_9 : decode prog_15_method_32_code 9 = .ok (.iload_n 1, 1) := by decide +kernel
theorem d15_32_10 : decode prog_15_method_32_code 10 = .ok (.if_icmp .ge 27, 3) := by decide +kernel
theorem d15_32_13 : decode prog_15_method_32_code 13 = .ok (.iload_n 3, 1) := by decide +kernel
theorem d15_32_14 : decode prog_15_method_32_code 14 = .ok (.aload_n 0, 1) := by decide +kernel
theorem d15_32_15 : decode prog_15_method_32_code 15 = .ok (.getfield 17, 3) := by decide +kernel
theorem d15_32_18 : decode prog_15_method_32_code 18 = .ok (.iload_n 3, 1) := by decide +kernel
theorem d15_32_19 : decode prog_15_method_32_code 19 = .ok (.baload, 1) := by decide +kernel
theorem d15_32_20 : decode prog_15_method_32_code 20 = .ok (.iadd, 1) := by decide +kernel
theorem d15_32_21 : decode prog_15_method_32_code 21 = .ok (.iload_n 1, 1) := by decide +kernel
theorem d15_32_22 : decode prog_15_method_32_code 22 = .ok (.if_icmp .le 7, 3) := by decide +kernel
theorem d15_32_29 : decode prog_15_method_32_code 29 = .ok (.iload_n 2, 1) := by decide +kernel
theorem d15_32_25 : decode prog_15_method_32_code 25 = .ok (.iload_n 3, 1) := by decide +kernel
theorem d15_32_26 : decode prog_15_method_32_code 26 = .ok (.goto 4, 3) := by decide +kernel
theorem d15_32_30 : decode prog_15_method_32_code 30 = .ok (.istore_n 2, 1) := by decide +kernel
theorem d15_32_31 : decode prog_15_method_32_code 31 = .ok (.iinc 3 1, 3) := by decide +kernel
theorem d15_32_34 : decode prog_15_method_32_code 34 = .ok (.goto (-26), 3) := by decide +kernel
def y15_32 : MethodName := { cls := "PagedValuesModel", name := "above", desc := "(I)I" }
theorem k1518 : (Jvm.Cond.code ({ cls := "PagedValuesModel", name := "above", desc := "(I)I" } : Jvm.MethodName) prog_15_method_32_code (4 : Nat) (Option.some Jvm.ClassFile.FieldType.int)) ∈ TB := tk_7 78 rfl rfl
theorem k1515 : (Jvm.Cond.methodLink "PagedValuesModel" (264 : Nat) ({ cls := "PagedValuesModel", name := "above", desc := "(I)I" } : Jvm.MethodName)) ∈ TB := tk_7 75 rfl rfl
theorem k1517 : (Jvm.Cond.instanceMethod ({ cls := "PagedValuesModel", name := "above", desc := "(I)I" } : Jvm.MethodName)) ∈ TB := tk_7 77 rfl rfl
theorem ks82 : Cond.selects y15_32.cls y15_32 y15_32 ∈ TB := List.mem_filter.mpr ⟨List.mem_append_left _ (List.mem_of_getElem? (i := 82) (by decide +kernel)), rfl⟩
theorem d15_49_40 : decode prog_15_method_49_code 40 = .ok (.invokevirtual 264, 3) := by decide +kernel
theorem d15_49_43 : decode prog_15_method_49_code 43 = .ok (.istore_n 2, 1) := by decide +kernel
theorem d15_49_44 : decode prog_15_method_49_code 44 = .ok (.aload_n 0, 1) := by decide +kernel
theorem d15_49_45 : decode prog_15_method_49_code 45 = .ok (.iload_n 1, 1) := by decide +kernel
theorem d15_49_46 : decode prog_15_method_49_code 46 = .ok (.aload_n 0, 1) := by decide +kernel
theorem d15_49_47 : decode prog_15_method_49_code 47 = .ok (.getfield 17, 3) := by decide +kernel
theorem d15_49_50 : decode prog_15_method_49_code 50 = .ok (.iload_n 1, 1) := by decide +kernel
theorem d15_49_51 : decode prog_15_method_49_code 51 = .ok (.baload, 1) := by decide +kernel
theorem d15_49_52 : decode prog_15_method_49_code 52 = .ok (.iload_n 2, 1) := by decide +kernel
theorem d15_49_53 : decode prog_15_method_49_code 53 = .ok (.iconst 1, 1) := by decide +kernel
theorem d15_33_0 : decode prog_15_method_33_code 0 = .ok (.bipush 81, 2) := by decide +kernel
theorem d15_33_2 : decode prog_15_method_33_code 2 = .ok (.invokestatic 159, 3) := by decide +kernel
theorem d15_33_5 : decode prog_15_method_33_code 5 = .ok (.istore 5, 2) := by decide +kernel
theorem d15_33_7 : decode prog_15_method_33_code 7 = .ok (.iload 5, 2) := by decide +kernel
theorem d15_33_9 : decode prog_15_method_33_code 9 = .ok (.aload_n 0, 1) := by decide +kernel
theorem d15_33_10 : decode prog_15_method_33_code 10 = .ok (.getfield 17, 3) := by decide +kernel
theorem d15_33_13 : decode prog_15_method_33_code 13 = .ok (.iload 5, 2) := by decide +kernel
theorem d15_33_15 : decode prog_15_method_33_code 15 = .ok (.baload, 1) := by decide +kernel
theorem d15_33_16 : decode prog_15_method_33_code 16 = .ok (.iadd, 1) := by decide +kernel
theorem d15_33_17 : decode prog_15_method_33_code 17 = .ok (.istore 6, 2) := by decide +kernel
theorem d15_33_19 : decode prog_15_method_33_code 19 = .ok (.iload 4, 2) := by decide +kernel
theorem d15_33_21 : decode prog_15_method_33_code 21 = .ok (.ifCond .eq 16, 3) := by decide +kernel
theorem d15_33_37 : decode prog_15_method_33_code 37 = .ok (.iconst 0, 1) := by decide +kernel
theorem d15_33_24 : decode prog_15_method_33_code 24 = .ok (.aload_n 0, 1) := by decide +kernel
theorem d15_33_25 : decode prog_15_method_33_code 25 = .ok (.getfield 17, 3) := by decide +kernel
theorem d15_33_28 : decode prog_15_method_33_code 28 = .ok (.bipush 82, 2) := by decide +kernel
theorem d15_33_30 : decode prog_15_method_33_code 30 = .ok (.invokestatic 159, 3) := by decide +kernel
theorem d15_33_33 : decode prog_15_method_33_code 33 = .ok (.baload, 1) := by decide +kernel
theorem d15_33_34 : decode prog_15_method_33_code 34 = .ok (.goto 4, 3) := by decide +kernel
theorem d15_33_38 : decode prog_15_method_33_code 38 = .ok (.istore 7, 2) := by decide +kernel
theorem d15_33_40 : decode prog_15_method_33_code 40 = .ok (.iload 5, 2) := by decide +kernel
theorem d15_33_42 : decode prog_15_method_33_code 42 = .ok (.istore 8, 2) := by decide +kernel
theorem d15_33_100 : decode prog_15_method_33_code 100 = .ok (.aload_n 0, 1) := by decide +kernel
theorem d15_33_101 : decode prog_15_method_33_code 101 = .ok (.iload_n 1, 1) := by decide +kernel
theorem d15_33_102 : decode prog_15_method_33_code 102 = .ok (.iload_n 2, 1) := by decide +kernel
theorem d15_33_103 : decode prog_15_method_33_code 103 = .ok (.iadd, 1) := by decide +kernel
theorem d15_33_104 : decode prog_15_method_33_code 104 = .ok (.iload 6, 2) := by decide +kernel
theorem d15_33_106 : decode prog_15_method_33_code 106 = .ok (.iload 7, 2) := by decide +kernel
theorem d15_33_108 : decode prog_15_method_33_code 108 = .ok (.iload_n 2, 1) := by decide +kernel
theorem d15_33_109 : decode prog_15_method_33_code 109 = .ok (.isub, 1) := by decide +kernel
theorem d15_31_0 : decode prog_15_method_31_code 0 = .ok (.iconst 0, 1) := by decide +kernel
theorem d15_31_1 : decode prog_15_method_31_code 1 = .ok (.istore 4, 2) := by decide +kernel
theorem d15_31_47 : decode prog_15_method_31_code 47 = .ok (.return_, 1) := by decide +kernel
theorem d15_31_3 : decode prog_15_method_31_code 3 = .ok (.iload 4, 2) := by decide +kernel
theorem d15_31_5 : decode prog_15_method_31_code 5 = .ok (.iload_n 2, 1) := by decide +kernel
theorem d15_31_6 : decode prog_15_method_31_code 6 = .ok (.iload_n 1, 1) := by decide +kernel
theorem d15_31_7 : decode prog_15_method_31_code 7 = .ok (.isub, 1) := by decide +kernel
theorem d15_31_8 : decode prog_15_method_31_code 8 = .ok (.if_icmp .ge 39, 3) := by decide +kernel
theorem d15_31_11 : decode prog_15_method_31_code 11 = .ok (.iload_n 3, 1) := by decide +kernel
theorem d15_31_12 : decode prog_15_method_31_code 12 = .ok (.ifCond .le 12, 3) := by decide +kernel
theorem d15_31_24 : decode prog_15_method_31_code 24 = .ok (.iload_n 1, 1) := by decide +kernel
theorem d15_31_25 : decode prog_15_method_31_code 25 = .ok (.iload 4, 2) := by decide +kernel
theorem d15_31_27 : decode prog_15_method_31_code 27 = .ok (.iadd, 1) := by decide +kernel
theorem d15_31_15 : decode prog_15_method_31_code 15 = .ok (.iload_n 2, 1) := by decide +kernel
theorem d15_31_16 : decode prog_15_method_31_code 16 = .ok (.iconst 1, 1) := by decide +kernel
theorem d15_31_17 : decode prog_15_method_31_code 17 = .ok (.isub, 1) := by decide +kernel
theorem d15_31_18 : decode prog_15_method_31_code 18 = .ok (.iload 4, 2) := by decide +kernel
theorem d15_31_20 : decode prog_15_method_31_code 20 = .ok (.isub, 1) := by decide +kernel
theorem d15_31_21 : decode prog_15_method_31_code 21 = .ok (.goto 7, 3) := by decide +kernel
theorem d15_31_28 : decode prog_15_method_31_code 28 = .ok (.istore 5, 2) := by decide +kernel
theorem d15_31_30 : decode prog_15_method_31_code 30 = .ok (.aload_n 0, 1) := by decide +kernel
theorem d15_31_31 : decode prog_15_method_31_code 31 = .ok (.iload 5, 2) := by decide +kernel
theorem d15_31_33 : decode prog_15_method_31_code 33 = .ok (.iload 5, 2) := by decide +kernel
theorem d15_31_35 : decode prog_15_method_31_code 35 = .ok (.iload_n 3, 1) := by decide +kernel
theorem d15_31_36 : decode prog_15_method_31_code 36 = .ok (.iadd, 1) := by decide +kernel
theorem d15_31_37 : decode prog_15_method_31_code 37 = .ok (.iconst 1, 1) := by decide +kernel
theorem d15_31_38 : decode prog_15_method_31_code 38 = .ok (.invokevirtual 199, 3) := by decide +kernel
theorem d15_31_41 : decode prog_15_method_31_code 41 = .ok (.iinc 4 1, 3) := by decide +kernel
theorem d15_31_44 : decode prog_15_method_31_code 44 = .ok (.goto (-41), 3) := by decide +kernel
def y15_31 : MethodName := { cls := "PagedValuesModel", name := "shift", desc := "(III)V" }
theorem k1506 : (Jvm.Cond.code ({ cls := "PagedValuesModel", name := "shift", desc := "(III)V" } : Jvm.MethodName) prog_15_method_31_code (6 : Nat) (Option.none : Option Jvm.ClassFile.FieldType)) ∈ TB := tk_7 66 rfl rfl
theorem k1503 : (Jvm.Cond.methodLink "PagedValuesModel" (203 : Nat) ({ cls := "PagedValuesModel", name := "shift", desc := "(III)V" } : Jvm.MethodName)) ∈ TB := tk_7 63 rfl rfl
theorem k1505 : (Jvm.Cond.instanceMethod ({ cls := "PagedValuesModel", name := "shift", desc := "(III)V" } : Jvm.MethodName)) ∈ TB := tk_7 65 rfl rfl
theorem ks79 : Cond.selects y15_31.cls y15_31 y15_31 ∈ TB := List.mem_filter.mpr ⟨List.mem_append_left _ (List.mem_of_getElem? (i := 79) (by decide +kernel)), rfl⟩
theorem d15_33_110 : decode prog_15_method_33_code 110 = .ok (.invokevirtual 203, 3) := by decide +kernel
theorem d15_33_113 : decode prog_15_method_33_code 113 = .ok (.iload 4, 2) := by decide +kernel
theorem d15_33_115 : decode prog_15_method_33_code 115 = .ok (.ifCond .eq 15, 3) := by decide +kernel
theorem d15_33_118 : decode prog_15_method_33_code 118 = .ok (.aload_n 0, 1) := by decide +kernel
theorem d15_33_119 : decode prog_15_method_33_code 119 = .ok (.bipush 82, 2) := by decide +kernel
theorem d15_33_121 : decode prog_15_method_33_code 121 = .ok (.invokestatic 159, 3) := by decide +kernel
theorem d15_33_124 : decode prog_15_method_33_code 124 = .ok (.iload_n 1, 1) := by decide +kernel
theorem d15_33_125 : decode prog_15_method_33_code 125 = .ok (.iload 7, 2) := by decide +kernel
theorem d15_33_127 : decode prog_15_method_33_code 127 = .ok (.invokevirtual 199, 3) := by decide +kernel
theorem d15_33_130 : decode prog_15_method_33_code 130 = .ok (.return_, 1) := by decide +kernel
theorem d15_33_44 : decode prog_15_method_33_code 44 = .ok (.iload 8, 2) := by decide +kernel
theorem d15_33_46 : decode prog_15_method_33_code 46 = .ok (.iload_n 3, 1) := by decide +kernel
theorem d15_33_47 : decode prog_15_method_33_code 47 = .ok (.if_icmp .gt 53, 3) := by decide +kernel
theorem d15_33_50 : decode prog_15_method_33_code 50 = .ok (.aload_n 0, 1) := by decide +kernel
theorem d15_33_51 : decode prog_15_method_33_code 51 = .ok (.getfield 17, 3) := by decide +kernel
theorem d15_33_54 : decode prog_15_method_33_code 54 = .ok (.iload 8, 2) := by decide +kernel
theorem d15_33_56 : decode prog_15_method_33_code 56 = .ok (.iload 8, 2) := by decide +kernel
theorem d15_33_58 : decode prog_15_method_33_code 58 = .ok (.aload_n 0, 1) := by decide +kernel
theorem d15_33_59 : decode prog_15_method_33_code 59 = .ok (.getfield 17, 3) := by decide +kernel
theorem d15_33_62 : decode prog_15_method_33_code 62 = .ok (.iload 8, 2) := by decide +kernel
theorem d15_33_64 : decode prog_15_method_33_code 64 = .ok (.baload, 1) := by decide +kernel
theorem d15_33_65 : decode prog_15_method_33_code 65 = .ok (.iadd, 1) := by decide +kernel
theorem d15_33_66 : decode prog_15_method_33_code 66 = .ok (.iload_n 3, 1) := by decide +kernel
theorem d15_33_67 : decode prog_15_method_33_code 67 = .ok (.if_icmp .le 18, 3) := by decide +kernel
theorem d15_33_85 : decode prog_15_method_33_code 85 = .ok (.aload_n 0, 1) := by decide +kernel
theorem d15_33_86 : decode prog_15_method_33_code 86 = .ok (.getfield 17, 3) := by decide +kernel
theorem d15_33_89 : decode prog_15_method_33_code 89 = .ok (.iload 8, 2) := by decide +kernel
theorem d15_33_91 : decode prog_15_method_33_code 91 = .ok (.baload, 1) := by decide +kernel
theorem d15_33_70 : decode prog_15_method_33_code 70 = .ok (.aload_n 0, 1) := by decide +kernel
theorem d15_33_71 : decode prog_15_method_33_code 71 = .ok (.getfield 17, 3) := by decide +kernel
theorem d15_33_74 : decode prog_15_method_33_code 74 = .ok (.iload 8, 2) := by decide +kernel
theorem d15_33_76 : decode prog_15_method_33_code 76 = .ok (.baload, 1) := by decide +kernel
theorem d15_33_77 : decode prog_15_method_33_code 77 = .ok (.iload 7, 2) := by decide +kernel
theorem d15_33_79 : decode prog_15_method_33_code 79 = .ok (.iadd, 1) := by decide +kernel
theorem d15_33_80 : decode prog_15_method_33_code 80 = .ok (.iload_n 2, 1) := by decide +kernel
theorem d15_33_81 : decode prog_15_method_33_code 81 = .ok (.isub, 1) := by decide +kernel
theorem d15_33_82 : decode prog_15_method_33_code 82 = .ok (.goto 10, 3) := by decide +kernel
theorem d15_33_92 : decode prog_15_method_33_code 92 = .ok (.i2b, 1) := by decide +kernel
theorem d15_33_93 : decode prog_15_method_33_code 93 = .ok (.bastore, 1) := by decide +kernel
theorem d15_33_94 : decode prog_15_method_33_code 94 = .ok (.iinc 8 1, 3) := by decide +kernel
theorem d15_33_97 : decode prog_15_method_33_code 97 = .ok (.goto (-53), 3) := by decide +kernel
def y15_33 : MethodName := { cls := "PagedValuesModel", name := "splice", desc := "(IIIZ)V" }
theorem k1502 : (Jvm.Cond.code ({ cls := "PagedValuesModel", name := "splice", desc := "(IIIZ)V" } : Jvm.MethodName) prog_15_method_33_code (9 : Nat) (Option.none : Option Jvm.ClassFile.FieldType)) ∈ TB := tk_7 62 rfl rfl
theorem k1499 : (Jvm.Cond.methodLink "PagedValuesModel" (253 : Nat) ({ cls := "PagedValuesModel", name := "splice", desc := "(IIIZ)V" } : Jvm.MethodName)) ∈ TB := tk_7 59 rfl rfl
theorem k1501 : (Jvm.Cond.instanceMethod ({ cls := "PagedValuesModel", name := "splice", desc := "(IIIZ)V" } : Jvm.MethodName)) ∈ TB := tk_7 61 rfl rfl
theorem ks78 : Cond.selects y15_33.cls y15_33 y15_33 ∈ TB := List.mem_filter.mpr ⟨List.mem_append_left _ (List.mem_of_getElem? (i := 78) (by decide +kernel)), rfl⟩
theorem d15_49_54 : decode prog_15_method_49_code 54 = .ok (.invokevirtual 253, 3) := by decide +kernel
theorem d15_49_57 : decode prog_15_method_49_code 57 = .ok (.iconst 1, 1) := by decide +kernel
theorem d15_49_58 : decode prog_15_method_49_code 58 = .ok (.ireturn, 1) := by decide +kernel
theorem d15_49_15 : decode prog_15_method_49_code 15 = .ok (.aload_n 0, 1) := by decide +kernel
theorem d15_49_16 : decode prog_15_method_49_code 16 = .ok (.lconst 0, 1) := by decide +kernel
theorem d15_49_17 : decode prog_15_method_49_code 17 = .ok (.lconst 0, 1) := by decide +kernel
theorem d15_47_0 : decode prog_15_method_47_code 0 = .ok (.lload_n 1, 1) := by decide +kernel
theorem d15_47_1 : decode prog_15_method_47_code 1 = .ok (.invokestatic 95, 3) := by decide +kernel
theorem d15_47_4 : decode prog_15_method_47_code 4 = .ok (.ifCond .ne 35, 3) := by decide +kernel
theorem d15_47_39 : decode prog_15_method_47_code 39 = .ok (.lload_n 1, 1) := by decide +kernel
theorem d15_47_40 : decode prog_15_method_47_code 40 = .ok (.lload_n 3, 1) := by decide +kernel
theorem d15_40_0 : decode prog_15_method_40_code 0 = .ok (.iconst 0, 1) := by decide +kernel
theorem d15_40_1 : decode prog_15_method_40_code 1 = .ok (.istore 4, 2) := by decide +kernel
theorem d15_40_3 : decode prog_15_method_40_code 3 = .ok (.iconst 0, 1) := by decide +kernel
theorem d15_40_4 : decode prog_15_method_40_code 4 = .ok (.istore 5, 2) := by decide +kernel
theorem d15_40_42 : decode prog_15_method_40_code 42 = .ok (.iload 4, 2) := by decide +kernel
theorem d15_40_44 : decode prog_15_method_40_code 44 = .ok (.ireturn, 1) := by decide +kernel
theorem d15_40_6 : decode prog_15_method_40_code 6 = .ok (.iload 5, 2) := by decide +kernel
theorem d15_40_8 : decode prog_15_method_40_code 8 = .ok (.lload_n 0, 1) := by decide +kernel
theorem d15_40_9 : decode prog_15_method_40_code 9 = .ok (.invokestatic 95, 3) := by decide +kernel
theorem d15_40_12 : decode prog_15_method_40_code 12 = .ok (.if_icmp .ge 30, 3) := by decide +kernel
theorem d15_40_15 : decode prog_15_method_40_code 15 = .ok (.lload_n 0, 1) := by decide +kernel
theorem d15_40_16 : decode prog_15_method_40_code 16 = .ok (.lload_n 2, 1) := by decide +kernel
theorem d15_40_17 : decode prog_15_method_40_code 17 = .ok (.iload 5, 2) := by decide +kernel
theorem d15_40_19 : decode prog_15_method_40_code 19 = .ok (.invokestatic 206, 3) := by decide +kernel
theorem d15_40_22 : decode prog_15_method_40_code 22 = .ok (.bipush 47, 2) := by decide +kernel
theorem d15_40_24 : decode prog_15_method_40_code 24 = .ok (.if_icmp .ne 8, 3) := by decide +kernel
theorem d15_40_32 : decode prog_15_method_40_code 32 = .ok (.iload 4, 2) := by decide +kernel
theorem d15_40_27 : decode prog_15_method_40_code 27 = .ok (.iload 5, 2) := by decide +kernel
theorem d15_40_29 : decode prog_15_method_40_code 29 = .ok (.goto 5, 3) := by decide +kernel
theorem d15_40_34 : decode prog_15_method_40_code 34 = .ok (.istore 4, 2) := by decide +kernel
theorem d15_40_36 : decode prog_15_method_40_code 36 = .ok (.iinc 5 1, 3) := by decide +kernel
theorem d15_40_39 : decode prog_15_method_40_code 39 = .ok (.goto (-33), 3) := by decide +kernel
def y15_40 : MethodName := { cls := "PagedValuesModel", name := "lastSlash", desc := "(JJ)I" }
theorem k1498 : (Jvm.Cond.code ({ cls := "PagedValuesModel", name := "lastSlash", desc := "(JJ)I" } : Jvm.MethodName) prog_15_method_40_code (6 : Nat) (Option.some Jvm.ClassFile.FieldType.int)) ∈ TB := tk_7 58 rfl rfl
theorem k1496 : (Jvm.Cond.methodLink "PagedValuesModel" (246 : Nat) ({ cls := "PagedValuesModel", name := "lastSlash", desc := "(JJ)I" } : Jvm.MethodName)) ∈ TB := tk_7 56 rfl rfl
theorem k1497 : (Jvm.Cond.static ({ cls := "PagedValuesModel", name := "lastSlash", desc := "(JJ)I" } : Jvm.MethodName)) ∈ TB := tk_7 57 rfl rfl
theorem d15_47_41 : decode prog_15_method_47_code 41 = .ok (.invokestatic 246, 3) := by decide +kernel
theorem d15_47_44 : decode prog_15_method_47_code 44 = .ok (.istore 5, 2) := by decide +kernel
theorem d15_47_46 : decode prog_15_method_47_code 46 = .ok (.aload_n 0, 1) := by decide +kernel
theorem d15_47_47 : decode prog_15_method_47_code 47 = .ok (.lload_n 1, 1) := by decide +kernel
theorem d15_47_48 : decode prog_15_method_47_code 48 = .ok (.lload_n 3, 1) := by decide +kernel
theorem d15_47_49 : decode prog_15_method_47_code 49 = .ok (.iload 5, 2) := by decide +kernel
theorem d15_47_51 : decode prog_15_method_47_code 51 = .ok (.invokevirtual 250, 3) := by decide +kernel
theorem d15_47_54 : decode prog_15_method_47_code 54 = .ok (.istore 6, 2) := by decide +kernel
theorem d15_47_56 : decode prog_15_method_47_code 56 = .ok (.iload 6, 2) := by decide +kernel
theorem d15_47_58 : decode prog_15_method_47_code 58 = .ok (.ifCond .lt 14, 3) := by decide +kernel
theorem d15_47_72 : decode prog_15_method_47_code 72 = .ok (.iconst 0, 1) := by decide +kernel
theorem d15_47_73 : decode prog_15_method_47_code 73 = .ok (.ireturn, 1) := by decide +kernel
theorem d15_47_61 : decode prog_15_method_47_code 61 = .ok (.aload_n 0, 1) := by decide +kernel
theorem d15_47_62 : decode prog_15_method_47_code 62 = .ok (.getfield 13, 3) := by decide +kernel
theorem d15_47_65 : decode prog_15_method_47_code 65 = .ok (.iload 6, 2) := by decide +kernel
theorem d15_47_67 : decode prog_15_method_47_code 67 = .ok (.baload, 1) := by decide +kernel
theorem d15_47_68 : decode prog_15_method_47_code 68 = .ok (.iconst 5, 1) := by decide +kernel
theorem d15_47_69 : decode prog_15_method_47_code 69 = .ok (.if_icmp .ge 5, 3) := by decide +kernel
theorem d15_47_74 : decode prog_15_method_47_code 74 = .ok (.aload_n 0, 1) := by decide +kernel
theorem d15_47_75 : decode prog_15_method_47_code 75 = .ok (.lload_n 1, 1) := by decide +kernel
theorem d15_47_76 : decode prog_15_method_47_code 76 = .ok (.lload_n 3, 1) := by decide +kernel
theorem d15_47_77 : decode prog_15_method_47_code 77 = .ok (.iload 5, 2) := by decide +kernel
theorem d15_47_79 : decode prog_15_method_47_code 79 = .ok (.invokevirtual 210, 3) := by decide +kernel
theorem d15_47_82 : decode prog_15_method_47_code 82 = .ok (.pop, 1) := by decide +kernel
theorem d15_47_83 : decode prog_15_method_47_code 83 = .ok (.aload_n 0, 1) := by decide +kernel
theorem d15_47_84 : decode prog_15_method_47_code 84 = .ok (.getfield 13, 3) := by decide +kernel
theorem d15_47_87 : decode prog_15_method_47_code 87 = .ok (.iload 6, 2) := by decide +kernel
theorem d15_47_89 : decode prog_15_method_47_code 89 = .ok (.baload, 1) := by decide +kernel
theorem d15_47_90 : decode prog_15_method_47_code 90 = .ok (.bipush 6, 2) := by decide +kernel
theorem d15_47_92 : decode prog_15_method_47_code 92 = .ok (.if_icmp .ne 76, 3) := by decide +kernel
theorem d15_47_168 : decode prog_15_method_47_code 168 = .ok (.aload_n 0, 1) := by decide +kernel
theorem d15_47_169 : decode prog_15_method_47_code 169 = .ok (.iload 6, 2) := by decide +kernel
theorem d15_36_0 : decode prog_15_method_36_code 0 = .ok (.iconst 0, 1) := by decide +kernel
theorem d15_36_1 : decode prog_15_method_36_code 1 = .ok (.istore_n 2, 1) := by decide +kernel
theorem d15_36_2 : decode prog_15_method_36_code 2 = .ok (.iload_n 1, 1) := by decide +kernel
theorem d15_36_3 : decode prog_15_method_36_code 3 = .ok (.iconst 1, 1) := by decide +kernel
theorem d15_36_4 : decode prog_15_method_36_code 4 = .ok (.iadd, 1) := by decide +kernel
theorem d15_36_5 : decode prog_15_method_36_code 5 = .ok (.istore_n 3, 1) := by decide +kernel
theorem d15_36_33 : decode prog_15_method_36_code 33 = .ok (.iload_n 2, 1) := by decide +kernel
theorem d15_36_34 : decode prog_15_method_36_code 34 = .ok (.ireturn, 1) := by decide +kernel
theorem d15_36_6 : decode prog_15_method_36_code 6 = .ok (.iload_n 3, 1) := by decide +kernel
theorem d15_36_7 : decode prog_15_method_36_code 7 = .ok (.iload_n 1, 1) := by decide +kernel
theorem d15_36_8 : decode prog_15_method_36_code 8 = .ok (.aload_n 0, 1) := by decide +kernel
theorem d15_36_9 : decode prog_15_method_36_code 9 = .ok (.getfield 17, 3) := by decide +kernel
theorem d15_36_12 : decode prog_15_method_36_code 12 = .ok (.iload_n 1, 1) := by decide +kernel
theorem d15_36_13 : decode prog_15_method_36_code 13 = .ok (.baload, 1) := by decide +kernel
theorem d15_36_14 : decode prog_15_method_36_code 14 = .ok (.iadd, 1) := by decide +kernel
theorem d15_36_15 : decode prog_15_method_36_code 15 = .ok (.if_icmp .ge 18, 3) := by decide +kernel
theorem d15_36_18 : decode prog_15_method_36_code 18 = .ok (.iinc 2 1, 3) := by decide +kernel
theorem d15_36_21 : decode prog_15_method_36_code 21 = .ok (.iload_n 3, 1) := by decide +kernel
theorem d15_36_22 : decode prog_15_method_36_code 22 = .ok (.aload_n 0, 1) := by decide +kernel
theorem d15_36_23 : decode prog_15_method_36_code 23 = .ok (.getfield 17, 3) := by decide +kernel
theorem d15_36_26 : decode prog_15_method_36_code 26 = .ok (.iload_n 3, 1) := by decide +kernel
theorem d15_36_27 : decode prog_15_method_36_code 27 = .ok (.baload, 1) := by decide +kernel
theorem d15_36_28 : decode prog_15_method_36_code 28 = .ok (.iadd, 1) := by decide +kernel
theorem d15_36_29 : decode prog_15_method_36_code 29 = .ok (.istore_n 3, 1) := by decide +kernel
theorem d15_36_30 : decode prog_15_method_36_code 30 = .ok (.goto (-24), 3) := by decide +kernel
def y15_36 : MethodName := { cls := "PagedValuesModel", name := "count", desc := "(I)I" }
theorem k1510 : (Jvm.Cond.code ({ cls := "PagedValuesModel", name := "count", desc := "(I)I" } : Jvm.MethodName) prog_15_method_36_code (4 : Nat) (Option.some Jvm.ClassFile.FieldType.int)) ∈ TB := tk_7 70 rfl rfl
theorem k1507 : (Jvm.Cond.methodLink "PagedValuesModel" (257 : Nat) ({ cls := "PagedValuesModel", name := "count", desc := "(I)I" } : Jvm.MethodName)) ∈ TB := tk_7 67 rfl rfl
theorem k1509 : (Jvm.Cond.instanceMethod ({ cls := "PagedValuesModel", name := "count", desc := "(I)I" } : Jvm.MethodName)) ∈ TB := tk_7 69 rfl rfl
theorem ks80 : Cond.selects y15_36.cls y15_36 y15_36 ∈ TB := List.mem_filter.mpr ⟨List.mem_append_left _ (List.mem_of_getElem? (i := 80) (by decide +kernel)), rfl⟩
theorem d15_47_171 : decode prog_15_method_47_code 171 = .ok (.invokevirtual 257, 3) := by decide +kernel
theorem d15_47_174 : decode prog_15_method_47_code 174 = .ok (.istore 7, 2) := by decide +kernel
theorem d15_47_176 : decode prog_15_method_47_code 176 = .ok (.aload_n 0, 1) := by decide +kernel
theorem d15_47_177 : decode prog_15_method_47_code 177 = .ok (.getfield 91, 3) := by decide +kernel
theorem d15_47_180 : decode prog_15_method_47_code 180 = .ok (.invokestatic 95, 3) := by decide +kernel
theorem d15_47_183 : decode prog_15_method_47_code 183 = .ok (.iconst 1, 1) := by decide +kernel
theorem d15_47_184 : decode prog_15_method_47_code 184 = .ok (.if_icmp .ne 25, 3) := by decide +kernel
theorem d15_47_209 : decode prog_15_method_47_code 209 = .ok (.aload_n 0, 1) := by decide +kernel
theorem d15_47_210 : decode prog_15_method_47_code 210 = .ok (.invokevirtual 213, 3) := by decide +kernel
theorem d15_47_187 : decode prog_15_method_47_code 187 = .ok (.aload_n 0, 1) := by decide +kernel
theorem d15_47_188 : decode prog_15_method_47_code 188 = .ok (.getfield 91, 3) := by decide +kernel
theorem d15_47_191 : decode prog_15_method_47_code 191 = .ok (.aload_n 0, 1) := by decide +kernel
theorem d15_47_192 : decode prog_15_method_47_code 192 = .ok (.getfield 99, 3) := by decide +kernel
theorem d15_47_195 : decode prog_15_method_47_code 195 = .ok (.iconst 0, 1) := by decide +kernel
theorem d15_47_196 : decode prog_15_method_47_code 196 = .ok (.invokestatic 206, 3) := by decide +kernel
theorem d15_47_199 : decode prog_15_method_47_code 199 = .ok (.bipush 45, 2) := by decide +kernel
theorem d15_47_201 : decode prog_15_method_47_code 201 = .ok (.if_icmp .ne 8, 3) := by decide +kernel
theorem d15_47_204 : decode prog_15_method_47_code 204 = .ok (.iload 7, 2) := by decide +kernel
theorem d15_47_206 : decode prog_15_method_47_code 206 = .ok (.goto 7, 3) := by decide +kernel
theorem d15_47_213 : decode prog_15_method_47_code 213 = .ok (.istore 8, 2) := by decide +kernel
theorem d15_47_215 : decode prog_15_method_47_code 215 = .ok (.iload 8, 2) := by decide +kernel
theorem d15_47_217 : decode prog_15_method_47_code 217 = .ok (.iconst 0, 1) := by decide +kernel
theorem d15_47_218 : decode prog_15_method_47_code 218 = .ok (.iload 7, 2) := by decide +kernel
theorem d15_47_220 : decode prog_15_method_47_code 220 = .ok (.invokestatic 260, 3) := by decide +kernel
theorem d15_47_223 : decode prog_15_method_47_code 223 = .ok (.ifCond .ne 5, 3) := by decide +kernel
theorem d15_47_228 : decode prog_15_method_47_code 228 = .ok (.aload_n 0, 1) := by decide +kernel
theorem d15_47_229 : decode prog_15_method_47_code 229 = .ok (.lconst 0, 1) := by decide +kernel
theorem d15_47_230 : decode prog_15_method_47_code 230 = .ok (.lconst 0, 1) := by decide +kernel
theorem d15_47_231 : decode prog_15_method_47_code 231 = .ok (.invokevirtual 243, 3) := by decide +kernel
theorem d15_47_234 : decode prog_15_method_47_code 234 = .ok (.aload_n 0, 1) := by decide +kernel
theorem d15_47_235 : decode prog_15_method_47_code 235 = .ok (.iload 8, 2) := by decide +kernel
theorem d15_47_237 : decode prog_15_method_47_code 237 = .ok (.iload 7, 2) := by decide +kernel
theorem d15_47_239 : decode prog_15_method_47_code 239 = .ok (.if_icmp .ne 16, 3) := by decide +kernel
theorem d15_47_255 : decode prog_15_method_47_code 255 = .ok (.aload_n 0, 1) := by decide +kernel
theorem d15_47_256 : decode prog_15_method_47_code 256 = .ok (.iload 6, 2) := by decide +kernel
theorem d15_47_258 : decode prog_15_method_47_code 258 = .ok (.iload 8, 2) := by decide +kernel
theorem d15_47_260 : decode prog_15_method_47_code 260 = .ok (.invokevirtual 216, 3) := by decide +kernel
theorem d15_47_242 : decode prog_15_method_47_code 242 = .ok (.iload 6, 2) := by decide +kernel
theorem d15_47_244 : decode prog_15_method_47_code 244 = .ok (.aload_n 0, 1) := by decide +kernel
theorem d15_47_245 : decode prog_15_method_47_code 245 = .ok (.getfield 17, 3) := by decide +kernel
theorem d15_47_248 : decode prog_15_method_47_code 248 = .ok (.iload 6, 2) := by decide +kernel
theorem d15_47_250 : decode prog_15_method_47_code 250 = .ok (.baload, 1) := by decide +kernel
theorem d15_47_251 : decode prog_15_method_47_code 251 = .ok (.iadd, 1) := by decide +kernel
theorem d15_47_252 : decode prog_15_method_47_code 252 = .ok (.goto 11, 3) := by decide +kernel
theorem d15_47_263 : decode prog_15_method_47_code 263 = .ok (.iconst 0, 1) := by decide +kernel
theorem d15_47_264 : decode prog_15_method_47_code 264 = .ok (.iload 6, 2) := by decide +kernel
theorem d15_47_266 : decode prog_15_method_47_code 266 = .ok (.iconst 1, 1) := by decide +kernel
theorem d15_47_267 : decode prog_15_method_47_code 267 = .ok (.invokevirtual 253, 3) := by decide +kernel
theorem d15_47_270 : decode prog_15_method_47_code 270 = .ok (.iconst 1, 1) := by decide +kernel
theorem d15_47_271 : decode prog_15_method_47_code 271 = .ok (.ireturn, 1) := by decide +kernel
theorem d15_47_226 : decode prog_15_method_47_code 226 = .ok (.iconst 0, 1) := by decide +kernel
theorem d15_47_227 : decode prog_15_method_47_code 227 = .ok (.ireturn, 1) := by decide +kernel
theorem d15_47_95 : decode prog_15_method_47_code 95 = .ok (.aload_n 0, 1) := by decide +kernel
theorem d15_47_96 : decode prog_15_method_47_code 96 = .ok (.iload 6, 2) := by decide +kernel
theorem d15_47_98 : decode prog_15_method_47_code 98 = .ok (.aload_n 0, 1) := by decide +kernel
theorem d15_47_99 : decode prog_15_method_47_code 99 = .ok (.getfield 91, 3) := by decide +kernel
theorem d15_47_102 : decode prog_15_method_47_code 102 = .ok (.aload_n 0, 1) := by decide +kernel
theorem d15_47_103 : decode prog_15_method_47_code 103 = .ok (.getfield 99, 3) := by decide +kernel
theorem d15_47_106 : decode prog_15_method_47_code 106 = .ok (.invokevirtual 168, 3) := by decide +kernel
theorem d15_47_109 : decode prog_15_method_47_code 109 = .ok (.istore 7, 2) := by decide +kernel
theorem d15_47_111 : decode prog_15_method_47_code 111 = .ok (.aload_n 0, 1) := by decide +kernel
theorem d15_47_112 : decode prog_15_method_47_code 112 = .ok (.aload_n 0, 1) := by decide +kernel
theorem d15_47_113 : decode prog_15_method_47_code 113 = .ok (.getfield 91, 3) := by decide +kernel
theorem d15_47_116 : decode prog_15_method_47_code 116 = .ok (.aload_n 0, 1) := by decide +kernel
theorem d15_47_117 : decode prog_15_method_47_code 117 = .ok (.getfield 99, 3) := by decide +kernel
theorem d15_47_120 : decode prog_15_method_47_code 120 = .ok (.invokevirtual 243, 3) := by decide +kernel
theorem d15_47_123 : decode prog_15_method_47_code 123 = .ok (.aload_n 0, 1) := by decide +kernel
theorem d15_47_124 : decode prog_15_method_47_code 124 = .ok (.iload 7, 2) := by decide +kernel
theorem d15_47_126 : decode prog_15_method_47_code 126 = .ok (.ifCond .ge 16, 3) := by decide +kernel
theorem d15_47_142 : decode prog_15_method_47_code 142 = .ok (.iload 7, 2) := by decide +kernel
theorem d15_47_129 : decode prog_15_method_47_code 129 = .ok (.iload 6, 2) := by decide +kernel
theorem d15_47_131 : decode prog_15_method_47_code 131 = .ok (.aload_n 0, 1) := by decide +kernel
theorem d15_47_132 : decode prog_15_method_47_code 132 = .ok (.getfield 17, 3) := by decide +kernel
theorem d15_47_135 : decode prog_15_method_47_code 135 = .ok (.iload 6, 2) := by decide +kernel
theorem d15_47_137 : decode prog_15_method_47_code 137 = .ok (.baload, 1) := by decide +kernel
theorem d15_47_138 : decode prog_15_method_47_code 138 = .ok (.iadd, 1) := by decide +kernel
theorem d15_47_139 : decode prog_15_method_47_code 139 = .ok (.goto 5, 3) := by decide +kernel
theorem d15_47_144 : decode prog_15_method_47_code 144 = .ok (.iload 7, 2) := by decide +kernel
theorem d15_47_146 : decode prog_15_method_47_code 146 = .ok (.ifCond .ge 7, 3) := by decide +kernel
theorem d15_47_153 : decode prog_15_method_47_code 153 = .ok (.aload_n 0, 1) := by decide +kernel
theorem d15_47_154 : decode prog_15_method_47_code 154 = .ok (.getfield 17, 3) := by decide +kernel
theorem d15_47_157 : decode prog_15_method_47_code 157 = .ok (.iload 7, 2) := by decide +kernel
theorem d15_47_159 : decode prog_15_method_47_code 159 = .ok (.baload, 1) := by decide +kernel
theorem d15_47_149 : decode prog_15_method_47_code 149 = .ok (.iconst 0, 1) := by decide +kernel
theorem d15_47_150 : decode prog_15_method_47_code 150 = .ok (.goto 10, 3) := by decide +kernel
theorem d15_47_160 : decode prog_15_method_47_code 160 = .ok (.iload 6, 2) := by decide +kernel
theorem d15_47_162 : decode prog_15_method_47_code 162 = .ok (.iconst 1, 1) := by decide +kernel
theorem d15_47_163 : decode prog_15_method_47_code 163 = .ok (.invokevirtual 253, 3) := by decide +kernel
theorem d15_47_166 : decode prog_15_method_47_code 166 = .ok (.iconst 1, 1) := by decide +kernel
theorem d15_47_167 : decode prog_15_method_47_code 167 = .ok (.ireturn, 1) := by decide +kernel
theorem d15_47_7 : decode prog_15_method_47_code 7 = .ok (.aload_n 0, 1) := by decide +kernel
theorem d15_47_8 : decode prog_15_method_47_code 8 = .ok (.lconst 0, 1) := by decide +kernel
theorem d15_47_9 : decode prog_15_method_47_code 9 = .ok (.lconst 0, 1) := by decide +kernel
theorem d15_47_10 : decode prog_15_method_47_code 10 = .ok (.invokevirtual 243, 3) := by decide +kernel
theorem d15_47_13 : decode prog_15_method_47_code 13 = .ok (.aload_n 0, 1) := by decide +kernel
theorem d15_47_14 : decode prog_15_method_47_code 14 = .ok (.bipush 82, 2) := by decide +kernel
theorem d15_47_16 : decode prog_15_method_47_code 16 = .ok (.invokestatic 159, 3) := by decide +kernel
theorem d15_47_19 : decode prog_15_method_47_code 19 = .ok (.bipush 81, 2) := by decide +kernel
theorem d15_47_21 : decode prog_15_method_47_code 21 = .ok (.invokestatic 159, 3) := by decide +kernel
theorem d15_47_24 : decode prog_15_method_47_code 24 = .ok (.aload_n 0, 1) := by decide +kernel
theorem d15_47_25 : decode prog_15_method_47_code 25 = .ok (.getfield 17, 3) := by decide +kernel
theorem d15_47_28 : decode prog_15_method_47_code 28 = .ok (.bipush 82, 2) := by decide +kernel
theorem d15_47_30 : decode prog_15_method_47_code 30 = .ok (.invokestatic 159, 3) := by decide +kernel
theorem d15_47_33 : decode prog_15_method_47_code 33 = .ok (.baload, 1) := by decide +kernel
theorem d15_47_34 : decode prog_15_method_47_code 34 = .ok (.invokevirtual 199, 3) := by decide +kernel
theorem d15_47_37 : decode prog_15_method_47_code 37 = .ok (.iconst 1, 1) := by decide +kernel
theorem d15_47_38 : decode prog_15_method_47_code 38 = .ok (.ireturn, 1) := by decide +kernel
def y15_47 : MethodName := { cls := "PagedValuesModel", name := "putPart", desc := "(JJ)Z" }
theorem k1491 : (Jvm.Cond.code ({ cls := "PagedValuesModel", name := "putPart", desc := "(JJ)Z" } : Jvm.MethodName) prog_15_method_47_code (9 : Nat) (Option.some Jvm.ClassFile.FieldType.boolean)) ∈ TB := tk_7 51 rfl rfl
theorem k1488 : (Jvm.Cond.methodLink "PagedValuesModel" (267 : Nat) ({ cls := "PagedValuesModel", name := "putPart", desc := "(JJ)Z" } : Jvm.MethodName)) ∈ TB := tk_7 48 rfl rfl
theorem k1490 : (Jvm.Cond.instanceMethod ({ cls := "PagedValuesModel", name := "putPart", desc := "(JJ)Z" } : Jvm.MethodName)) ∈ TB := tk_7 50 rfl rfl
theorem ks76 : Cond.selects y15_47.cls y15_47 y15_47 ∈ TB := List.mem_filter.mpr ⟨List.mem_append_left _ (List.mem_of_getElem? (i := 76) (by decide +kernel)), rfl⟩
theorem d15_49_18 : decode prog_15_method_49_code 18 = .ok (.invokevirtual 267, 3) := by decide +kernel
theorem d15_49_21 : decode prog_15_method_49_code 21 = .ok (.ireturn, 1) := by decide +kernel
theorem d15_49_4 : decode prog_15_method_49_code 4 = .ok (.iconst 0, 1) := by decide +kernel
theorem d15_49_5 : decode prog_15_method_49_code 5 = .ok (.ireturn, 1) := by decide +kernel
def y15_49 : MethodName := { cls := "PagedValuesModel", name := "replaced", desc := "(I)Z" }
theorem k1522 : (Jvm.Cond.code ({ cls := "PagedValuesModel", name := "replaced", desc := "(I)Z" } : Jvm.MethodName) prog_15_method_49_code (3 : Nat) (Option.some Jvm.ClassFile.FieldType.boolean)) ∈ TB := tk_7 82 rfl rfl
theorem k1519 : (Jvm.Cond.methodLink "PagedValuesModel" (280 : Nat) ({ cls := "PagedValuesModel", name := "replaced", desc := "(I)Z" } : Jvm.MethodName)) ∈ TB := tk_7 79 rfl rfl
theorem k1521 : (Jvm.Cond.instanceMethod ({ cls := "PagedValuesModel", name := "replaced", desc := "(I)Z" } : Jvm.MethodName)) ∈ TB := tk_7 81 rfl rfl
theorem ks83 : Cond.selects y15_49.cls y15_49 y15_49 ∈ TB := List.mem_filter.mpr ⟨List.mem_append_left _ (List.mem_of_getElem? (i := 83) (by decide +kernel)), rfl⟩
theorem d15_50_227 : decode prog_15_method_50_code 227 = .ok (.invokevirtual 280, 3) := by decide +kernel
theorem d15_50_213 : decode prog_15_method_50_code 213 = .ok (.aload_n 0, 1) := by decide +kernel
theorem d15_50_214 : decode prog_15_method_50_code 214 = .ok (.lload 5, 2) := by decide +kernel
theorem d15_50_216 : decode prog_15_method_50_code 216 = .ok (.lload 7, 2) := by decide +kernel
theorem d15_50_218 : decode prog_15_method_50_code 218 = .ok (.invokevirtual 267, 3) := by decide +kernel
theorem d15_50_221 : decode prog_15_method_50_code 221 = .ok (.goto 9, 3) := by decide +kernel
theorem d15_50_230 : decode prog_15_method_50_code 230 = .ok (.ireturn, 1) := by decide +kernel
theorem d15_50_182 : decode prog_15_method_50_code 182 = .ok (.aload_n 0, 1) := by decide +kernel
theorem d15_50_183 : decode prog_15_method_50_code 183 = .ok (.iload 9, 2) := by decide +kernel
theorem d15_48_0 : decode prog_15_method_48_code 0 = .ok (.iload_n 1, 1) := by decide +kernel
theorem d15_48_1 : decode prog_15_method_48_code 1 = .ok (.bipush 81, 2) := by decide +kernel
theorem d15_48_3 : decode prog_15_method_48_code 3 = .ok (.invokestatic 159, 3) := by decide +kernel
theorem d15_48_6 : decode prog_15_method_48_code 6 = .ok (.if_icmp .gt 5, 3) := by decide +kernel
theorem d15_48_11 : decode prog_15_method_48_code 11 = .ok (.aload_n 0, 1) := by decide +kernel
theorem d15_48_12 : decode prog_15_method_48_code 12 = .ok (.iload_n 1, 1) := by decide +kernel
theorem d15_48_13 : decode prog_15_method_48_code 13 = .ok (.invokevirtual 264, 3) := by decide +kernel
theorem d15_48_16 : decode prog_15_method_48_code 16 = .ok (.istore_n 2, 1) := by decide +kernel
theorem d15_48_17 : decode prog_15_method_48_code 17 = .ok (.aload_n 0, 1) := by decide +kernel
theorem d15_48_18 : decode prog_15_method_48_code 18 = .ok (.iload_n 1, 1) := by decide +kernel
theorem d15_48_19 : decode prog_15_method_48_code 19 = .ok (.aload_n 0, 1) := by decide +kernel
theorem d15_48_20 : decode prog_15_method_48_code 20 = .ok (.getfield 17, 3) := by decide +kernel
theorem d15_48_23 : decode prog_15_method_48_code 23 = .ok (.iload_n 1, 1) := by decide +kernel
theorem d15_48_24 : decode prog_15_method_48_code 24 = .ok (.baload, 1) := by decide +kernel
theorem d15_48_25 : decode prog_15_method_48_code 25 = .ok (.iload_n 2, 1) := by decide +kernel
theorem d15_48_26 : decode prog_15_method_48_code 26 = .ok (.iconst 0, 1) := by decide +kernel
theorem d15_48_27 : decode prog_15_method_48_code 27 = .ok (.invokevirtual 253, 3) := by decide +kernel
theorem d15_48_30 : decode prog_15_method_48_code 30 = .ok (.iconst 1, 1) := by decide +kernel
theorem d15_48_31 : decode prog_15_method_48_code 31 = .ok (.ireturn, 1) := by decide +kernel
theorem d15_48_9 : decode prog_15_method_48_code 9 = .ok (.iconst 0, 1) := by decide +kernel
theorem d15_48_10 : decode prog_15_method_48_code 10 = .ok (.ireturn, 1) := by decide +kernel
def y15_48 : MethodName := { cls := "PagedValuesModel", name := "removed", desc := "(I)Z" }
theorem k1514 : (Jvm.Cond.code ({ cls := "PagedValuesModel", name := "removed", desc := "(I)Z" } : Jvm.MethodName) prog_15_method_48_code (3 : Nat) (Option.some Jvm.ClassFile.FieldType.boolean)) ∈ TB := tk_7 74 rfl rfl
theorem k1511 : (Jvm.Cond.methodLink "PagedValuesModel" (277 : Nat) ({ cls := "PagedValuesModel", name := "removed", desc := "(I)Z" } : Jvm.MethodName)) ∈ TB := tk_7 71 rfl rfl
theorem k1513 : (Jvm.Cond.instanceMethod ({ cls := "PagedValuesModel", name := "removed", desc := "(I)Z" } : Jvm.MethodName)) ∈ TB := tk_7 73 rfl rfl
theorem ks81 : Cond.selects y15_48.cls y15_48 y15_48 ∈ TB := List.mem_filter.mpr ⟨List.mem_append_left _ (List.mem_of_getElem? (i := 81) (by decide +kernel)), rfl⟩
theorem d15_50_185 : decode prog_15_method_50_code 185 = .ok (.invokevirtual 277, 3) := by decide +kernel
theorem d15_50_188 : decode prog_15_method_50_code 188 = .ok (.ireturn, 1) := by decide +kernel
theorem d15_50_62 : decode prog_15_method_50_code 62 = .ok (.aload_n 0, 1) := by decide +kernel
theorem d15_50_63 : decode prog_15_method_50_code 63 = .ok (.iload_n 1, 1) := by decide +kernel
theorem d15_50_64 : decode prog_15_method_50_code 64 = .ok (.ldc2_w 239, 3) := by decide +kernel
theorem k1455 : (Jvm.Cond.constantLong "PagedValuesModel" (239 : Nat) (288230377987732070 : Int64)) ∈ TB := tk_7 15 rfl rfl
theorem d15_50_67 : decode prog_15_method_50_code 67 = .ok (.invokevirtual 222, 3) := by decide +kernel
theorem d15_50_70 : decode prog_15_method_50_code 70 = .ok (.istore 9, 2) := by decide +kernel
theorem d15_50_72 : decode prog_15_method_50_code 72 = .ok (.aload_n 0, 1) := by decide +kernel
theorem d15_50_73 : decode prog_15_method_50_code 73 = .ok (.getfield 20, 3) := by decide +kernel
theorem d15_50_76 : decode prog_15_method_50_code 76 = .ok (.iload 9, 2) := by decide +kernel
theorem d15_50_78 : decode prog_15_method_50_code 78 = .ok (.laload, 1) := by decide +kernel
theorem d15_50_79 : decode prog_15_method_50_code 79 = .ok (.aload_n 0, 1) := by decide +kernel
theorem d15_50_80 : decode prog_15_method_50_code 80 = .ok (.getfield 24, 3) := by decide +kernel
theorem d15_50_83 : decode prog_15_method_50_code 83 = .ok (.iload 9, 2) := by decide +kernel
theorem d15_50_85 : decode prog_15_method_50_code 85 = .ok (.laload, 1) := by decide +kernel
theorem d15_50_86 : decode prog_15_method_50_code 86 = .ok (.invokestatic 271, 3) := by decide +kernel
theorem d15_50_89 : decode prog_15_method_50_code 89 = .ok (.ifCond .eq 34, 3) := by decide +kernel
theorem d15_50_123 : decode prog_15_method_50_code 123 = .ok (.iconst (-1), 1) := by decide +kernel
theorem d15_50_92 : decode prog_15_method_50_code 92 = .ok (.aload_n 0, 1) := by decide +kernel
theorem d15_50_93 : decode prog_15_method_50_code 93 = .ok (.aload_n 0, 1) := by decide +kernel
theorem d15_50_94 : decode prog_15_method_50_code 94 = .ok (.getfield 20, 3) := by decide +kernel
theorem d15_50_97 : decode prog_15_method_50_code 97 = .ok (.iload 9, 2) := by decide +kernel
theorem d15_50_99 : decode prog_15_method_50_code 99 = .ok (.laload, 1) := by decide +kernel
theorem d15_50_100 : decode prog_15_method_50_code 100 = .ok (.aload_n 0, 1) := by decide +kernel
theorem d15_50_101 : decode prog_15_method_50_code 101 = .ok (.getfield 24, 3) := by decide +kernel
theorem d15_50_104 : decode prog_15_method_50_code 104 = .ok (.iload 9, 2) := by decide +kernel
theorem d15_50_106 : decode prog_15_method_50_code 106 = .ok (.laload, 1) := by decide +kernel
theorem d15_50_107 : decode prog_15_method_50_code 107 = .ok (.aload_n 0, 1) := by decide +kernel
theorem d15_50_108 : decode prog_15_method_50_code 108 = .ok (.getfield 20, 3) := by decide +kernel
theorem d15_50_111 : decode prog_15_method_50_code 111 = .ok (.iload 9, 2) := by decide +kernel
theorem d15_50_113 : decode prog_15_method_50_code 113 = .ok (.laload, 1) := by decide +kernel
theorem d15_50_114 : decode prog_15_method_50_code 114 = .ok (.invokestatic 95, 3) := by decide +kernel
theorem d15_50_117 : decode prog_15_method_50_code 117 = .ok (.invokevirtual 250, 3) := by decide +kernel
theorem d15_50_120 : decode prog_15_method_50_code 120 = .ok (.goto 4, 3) := by decide +kernel
theorem d15_50_124 : decode prog_15_method_50_code 124 = .ok (.istore 10, 2) := by decide +kernel
theorem d15_50_126 : decode prog_15_method_50_code 126 = .ok (.iload 10, 2) := by decide +kernel
theorem d15_50_128 : decode prog_15_method_50_code 128 = .ok (.ifCond .lt 9, 3) := by decide +kernel
theorem d15_50_131 : decode prog_15_method_50_code 131 = .ok (.aload_n 0, 1) := by decide +kernel
theorem d15_50_132 : decode prog_15_method_50_code 132 = .ok (.iload 10, 2) := by decide +kernel
theorem d15_50_134 : decode prog_15_method_50_code 134 = .ok (.invokevirtual 274, 3) := by decide +kernel
theorem d15_50_137 : decode prog_15_method_50_code 137 = .ok (.iload 10, 2) := by decide +kernel
theorem d15_50_139 : decode prog_15_method_50_code 139 = .ok (.ifCond .lt 18, 3) := by decide +kernel
theorem d15_50_157 : decode prog_15_method_50_code 157 = .ok (.iconst 0, 1) := by decide +kernel
theorem d15_50_142 : decode prog_15_method_50_code 142 = .ok (.aload_n 0, 1) := by decide +kernel
theorem d15_50_143 : decode prog_15_method_50_code 143 = .ok (.lload 5, 2) := by decide +kernel
theorem d15_50_145 : decode prog_15_method_50_code 145 = .ok (.lload 7, 2) := by decide +kernel
theorem d15_50_147 : decode prog_15_method_50_code 147 = .ok (.invokevirtual 267, 3) := by decide +kernel
theorem d15_50_150 : decode prog_15_method_50_code 150 = .ok (.ifCond .eq 7, 3) := by decide +kernel
theorem d15_50_153 : decode prog_15_method_50_code 153 = .ok (.iconst 1, 1) := by decide +kernel
theorem d15_50_154 : decode prog_15_method_50_code 154 = .ok (.goto 4, 3) := by decide +kernel
theorem d15_50_158 : decode prog_15_method_50_code 158 = .ok (.ireturn, 1) := by decide +kernel
theorem d15_50_52 : decode prog_15_method_50_code 52 = .ok (.iconst 0, 1) := by decide +kernel
theorem d15_50_53 : decode prog_15_method_50_code 53 = .ok (.ireturn, 1) := by decide +kernel
def y15_50 : MethodName := { cls := "PagedValuesModel", name := "done", desc := "(I)Z" }
theorem k1460 : (Jvm.Cond.code ({ cls := "PagedValuesModel", name := "done", desc := "(I)Z" } : Jvm.MethodName) prog_15_method_50_code (11 : Nat) (Option.some Jvm.ClassFile.FieldType.boolean)) ∈ TB := tk_7 20 rfl rfl
theorem k1457 : (Jvm.Cond.methodLink "PagedValuesModel" (286 : Nat) ({ cls := "PagedValuesModel", name := "done", desc := "(I)Z" } : Jvm.MethodName)) ∈ TB := tk_7 17 rfl rfl
theorem k1459 : (Jvm.Cond.instanceMethod ({ cls := "PagedValuesModel", name := "done", desc := "(I)Z" } : Jvm.MethodName)) ∈ TB := tk_7 19 rfl rfl
theorem ks70 : Cond.selects y15_50.cls y15_50 y15_50 ∈ TB := List.mem_filter.mpr ⟨List.mem_append_left _ (List.mem_of_getElem? (i := 70) (by decide +kernel)), rfl⟩
theorem d15_51_78 : decode prog_15_method_51_code 78 = .ok (.invokevirtual 286, 3) := by decide +kernel
theorem d15_51_81 : decode prog_15_method_51_code 81 = .ok (.ifCond .ne 8, 3) := by decide +kernel
theorem d15_51_89 : decode prog_15_method_51_code 89 = .ok (.aload_n 0, 1) := by decide +kernel
theorem d15_38_0 : decode prog_15_method_38_code 0 = .ok (.bipush 81, 2) := by decide +kernel
theorem d15_38_2 : decode prog_15_method_38_code 2 = .ok (.invokestatic 159, 3) := by decide +kernel
theorem d15_38_5 : decode prog_15_method_38_code 5 = .ok (.istore_n 1, 1) := by decide +kernel
theorem d15_38_6 : decode prog_15_method_38_code 6 = .ok (.aload_n 0, 1) := by decide +kernel
theorem d15_38_7 : decode prog_15_method_38_code 7 = .ok (.getfield 17, 3) := by decide +kernel
theorem d15_38_10 : decode prog_15_method_38_code 10 = .ok (.iload_n 1, 1) := by decide +kernel
theorem d15_38_11 : decode prog_15_method_38_code 11 = .ok (.baload, 1) := by decide +kernel
theorem d15_38_12 : decode prog_15_method_38_code 12 = .ok (.bipush 24, 2) := by decide +kernel
theorem d15_38_14 : decode prog_15_method_38_code 14 = .ok (.if_icmp .gt 7, 3) := by decide +kernel
theorem d15_38_21 : decode prog_15_method_38_code 21 = .ok (.iconst 0, 1) := by decide +kernel
theorem d15_38_17 : decode prog_15_method_38_code 17 = .ok (.iconst 1, 1) := by decide +kernel
theorem d15_38_18 : decode prog_15_method_38_code 18 = .ok (.goto 4, 3) := by decide +kernel
theorem d15_38_22 : decode prog_15_method_38_code 22 = .ok (.istore_n 2, 1) := by decide +kernel
theorem d15_38_23 : decode prog_15_method_38_code 23 = .ok (.iload_n 1, 1) := by decide +kernel
theorem d15_38_24 : decode prog_15_method_38_code 24 = .ok (.istore_n 3, 1) := by decide +kernel
theorem d15_38_121 : decode prog_15_method_38_code 121 = .ok (.iload_n 2, 1) := by decide +kernel
theorem d15_38_122 : decode prog_15_method_38_code 122 = .ok (.ireturn, 1) := by decide +kernel
theorem d15_38_25 : decode prog_15_method_38_code 25 = .ok (.iload_n 3, 1) := by decide +kernel
theorem d15_38_26 : decode prog_15_method_38_code 26 = .ok (.iload_n 1, 1) := by decide +kernel
theorem d15_38_27 : decode prog_15_method_38_code 27 = .ok (.aload_n 0, 1) := by decide +kernel
theorem d15_38_28 : decode prog_15_method_38_code 28 = .ok (.getfield 17, 3) := by decide +kernel
theorem d15_38_31 : decode prog_15_method_38_code 31 = .ok (.iload_n 1, 1) := by decide +kernel
theorem d15_38_32 : decode prog_15_method_38_code 32 = .ok (.baload, 1) := by decide +kernel
theorem d15_38_33 : decode prog_15_method_38_code 33 = .ok (.iadd, 1) := by decide +kernel
theorem d15_38_34 : decode prog_15_method_38_code 34 = .ok (.if_icmp .ge 87, 3) := by decide +kernel
theorem d15_38_37 : decode prog_15_method_38_code 37 = .ok (.aload_n 0, 1) := by decide +kernel
theorem d15_38_38 : decode prog_15_method_38_code 38 = .ok (.getfield 13, 3) := by decide +kernel
theorem d15_38_41 : decode prog_15_method_38_code 41 = .ok (.iload_n 3, 1) := by decide +kernel
theorem d15_38_42 : decode prog_15_method_38_code 42 = .ok (.baload, 1) := by decide +kernel
theorem d15_38_43 : decode prog_15_method_38_code 43 = .ok (.iconst 5, 1) := by decide +kernel
theorem d15_38_44 : decode prog_15_method_38_code 44 = .ok (.if_icmp .lt 7, 3) := by decide +kernel
theorem d15_38_51 : decode prog_15_method_38_code 51 = .ok (.iconst 0, 1) := by decide +kernel
theorem d15_38_47 : decode prog_15_method_38_code 47 = .ok (.iconst 1, 1) := by decide +kernel
theorem d15_38_48 : decode prog_15_method_38_code 48 = .ok (.goto 4, 3) := by decide +kernel
theorem d15_38_52 : decode prog_15_method_38_code 52 = .ok (.istore 4, 2) := by decide +kernel
theorem d15_38_54 : decode prog_15_method_38_code 54 = .ok (.iload_n 1, 1) := by decide +kernel
theorem d15_38_55 : decode prog_15_method_38_code 55 = .ok (.istore 5, 2) := by decide +kernel
theorem d15_38_99 : decode prog_15_method_38_code 99 = .ok (.iload_n 2, 1) := by decide +kernel
theorem d15_38_100 : decode prog_15_method_38_code 100 = .ok (.ifCond .eq 13, 3) := by decide +kernel
theorem d15_38_113 : decode prog_15_method_38_code 113 = .ok (.iconst 0, 1) := by decide +kernel
theorem d15_38_103 : decode prog_15_method_38_code 103 = .ok (.iload 4, 2) := by decide +kernel
theorem d15_38_105 : decode prog_15_method_38_code 105 = .ok (.iconst 4, 1) := by decide +kernel
theorem d15_38_106 : decode prog_15_method_38_code 106 = .ok (.if_icmp .gt 7, 3) := by decide +kernel
theorem d15_38_109 : decode prog_15_method_38_code 109 = .ok (.iconst 1, 1) := by decide +kernel
theorem d15_38_110 : decode prog_15_method_38_code 110 = .ok (.goto 4, 3) := by decide +kernel
theorem d15_38_114 : decode prog_15_method_38_code 114 = .ok (.istore_n 2, 1) := by decide +kernel
theorem d15_38_115 : decode prog_15_method_38_code 115 = .ok (.iinc 3 1, 3) := by decide +kernel
theorem d15_38_118 : decode prog_15_method_38_code 118 = .ok (.goto (-93), 3) := by decide +kernel
theorem d15_38_57 : decode prog_15_method_38_code 57 = .ok (.iload 5, 2) := by decide +kernel
theorem d15_38_59 : decode prog_15_method_38_code 59 = .ok (.iload_n 3, 1) := by decide +kernel
theorem d15_38_60 : decode prog_15_method_38_code 60 = .ok (.if_icmp .ge 39, 3) := by decide +kernel
theorem d15_38_63 : decode prog_15_method_38_code 63 = .ok (.iload 4, 2) := by decide +kernel
theorem d15_38_65 : decode prog_15_method_38_code 65 = .ok (.ifCond .le 34, 3) := by decide +kernel
theorem d15_38_68 : decode prog_15_method_38_code 68 = .ok (.iload 5, 2) := by decide +kernel
theorem d15_38_70 : decode prog_15_method_38_code 70 = .ok (.aload_n 0, 1) := by decide +kernel
theorem d15_38_71 : decode prog_15_method_38_code 71 = .ok (.getfield 17, 3) := by decide +kernel
theorem d15_38_74 : decode prog_15_method_38_code 74 = .ok (.iload 5, 2) := by decide +kernel
theorem d15_38_76 : decode prog_15_method_38_code 76 = .ok (.baload, 1) := by decide +kernel
theorem d15_38_77 : decode prog_15_method_38_code 77 = .ok (.iadd, 1) := by decide +kernel
theorem d15_38_78 : decode prog_15_method_38_code 78 = .ok (.iload_n 3, 1) := by decide +kernel
theorem d15_38_79 : decode prog_15_method_38_code 79 = .ok (.if_icmp .le 10, 3) := by decide +kernel
theorem d15_38_89 : decode prog_15_method_38_code 89 = .ok (.iload 4, 2) := by decide +kernel
theorem d15_38_82 : decode prog_15_method_38_code 82 = .ok (.iload 4, 2) := by decide +kernel
theorem d15_38_84 : decode prog_15_method_38_code 84 = .ok (.iconst 1, 1) := by decide +kernel
theorem d15_38_85 : decode prog_15_method_38_code 85 = .ok (.iadd, 1) := by decide +kernel
theorem d15_38_86 : decode prog_15_method_38_code 86 = .ok (.goto 5, 3) := by decide +kernel
theorem d15_38_91 : decode prog_15_method_38_code 91 = .ok (.istore 4, 2) := by decide +kernel
theorem d15_38_93 : decode prog_15_method_38_code 93 = .ok (.iinc 5 1, 3) := by decide +kernel
theorem d15_38_96 : decode prog_15_method_38_code 96 = .ok (.goto (-39), 3) := by decide +kernel
def y15_38 : MethodName := { cls := "PagedValuesModel", name := "fits", desc := "()Z" }
theorem k1526 : (Jvm.Cond.code ({ cls := "PagedValuesModel", name := "fits", desc := "()Z" } : Jvm.MethodName) prog_15_method_38_code (6 : Nat) (Option.some Jvm.ClassFile.FieldType.boolean)) ∈ TB := tk_7 86 rfl rfl
theorem k1523 : (Jvm.Cond.methodLink "PagedValuesModel" (289 : Nat) ({ cls := "PagedValuesModel", name := "fits", desc := "()Z" } : Jvm.MethodName)) ∈ TB := tk_7 83 rfl rfl
theorem k1525 : (Jvm.Cond.instanceMethod ({ cls := "PagedValuesModel", name := "fits", desc := "()Z" } : Jvm.MethodName)) ∈ TB := tk_7 85 rfl rfl
theorem ks84 : Cond.selects y15_38.cls y15_38 y15_38 ∈ TB := List.mem_filter.mpr ⟨List.mem_append_left _ (List.mem_of_getElem? (i := 84) (by decide +kernel)), rfl⟩
theorem d15_51_90 : decode prog_15_method_51_code 90 = .ok (.invokevirtual 289, 3) := by decide +kernel
theorem d15_51_93 : decode prog_15_method_51_code 93 = .ok (.ifCond .ne 6, 3) := by decide +kernel
theorem d15_51_99 : decode prog_15_method_51_code 99 = .ok (.iinc 2 1, 3) := by decide +kernel
theorem d15_51_102 : decode prog_15_method_51_code 102 = .ok (.iload_n 3, 1) := by decide +kernel
theorem d15_51_103 : decode prog_15_method_51_code 103 = .ok (.aload_n 0, 1) := by decide +kernel
theorem d15_51_104 : decode prog_15_method_51_code 104 = .ok (.getfield 17, 3) := by decide +kernel
theorem d15_51_107 : decode prog_15_method_51_code 107 = .ok (.iload_n 3, 1) := by decide +kernel
theorem d15_51_108 : decode prog_15_method_51_code 108 = .ok (.baload, 1) := by decide +kernel
theorem d15_51_109 : decode prog_15_method_51_code 109 = .ok (.iadd, 1) := by decide +kernel
theorem d15_51_110 : decode prog_15_method_51_code 110 = .ok (.istore_n 3, 1) := by decide +kernel
theorem d15_51_111 : decode prog_15_method_51_code 111 = .ok (.goto (-47), 3) := by decide +kernel
theorem d15_51_96 : decode prog_15_method_51_code 96 = .ok (.bipush (-5), 2) := by decide +kernel
theorem d15_51_98 : decode prog_15_method_51_code 98 = .ok (.ireturn, 1) := by decide +kernel
theorem d15_51_84 : decode prog_15_method_51_code 84 = .ok (.bipush (-10), 2) := by decide +kernel
theorem d15_51_86 : decode prog_15_method_51_code 86 = .ok (.iload_n 2, 1) := by decide +kernel
theorem d15_51_87 : decode prog_15_method_51_code 87 = .ok (.isub, 1) := by decide +kernel
theorem d15_51_88 : decode prog_15_method_51_code 88 = .ok (.ireturn, 1) := by decide +kernel
theorem d15_51_23 : decode prog_15_method_51_code 23 = .ok (.iload_n 2, 1) := by decide +kernel
theorem d15_51_24 : decode prog_15_method_51_code 24 = .ok (.iload_n 1, 1) := by decide +kernel
theorem d15_51_25 : decode prog_15_method_51_code 25 = .ok (.aload_n 0, 1) := by decide +kernel
theorem d15_51_26 : decode prog_15_method_51_code 26 = .ok (.getfield 17, 3) := by decide +kernel
theorem d15_51_29 : decode prog_15_method_51_code 29 = .ok (.iload_n 1, 1) := by decide +kernel
theorem d15_51_30 : decode prog_15_method_51_code 30 = .ok (.baload, 1) := by decide +kernel
theorem d15_51_31 : decode prog_15_method_51_code 31 = .ok (.iadd, 1) := by decide +kernel
theorem d15_51_32 : decode prog_15_method_51_code 32 = .ok (.if_icmp .ge 26, 3) := by decide +kernel
theorem d15_51_35 : decode prog_15_method_51_code 35 = .ok (.aload_n 0, 1) := by decide +kernel
theorem d15_51_36 : decode prog_15_method_51_code 36 = .ok (.iload_n 2, 1) := by decide +kernel
theorem d15_46_0 : decode prog_15_method_46_code 0 = .ok (.aload_n 0, 1) := by decide +kernel
theorem d15_46_1 : decode prog_15_method_46_code 1 = .ok (.getfield 13, 3) := by decide +kernel
theorem d15_46_4 : decode prog_15_method_46_code 4 = .ok (.iload_n 1, 1) := by decide +kernel
theorem d15_46_5 : decode prog_15_method_46_code 5 = .ok (.baload, 1) := by decide +kernel
theorem d15_46_6 : decode prog_15_method_46_code 6 = .ok (.bipush 6, 2) := by decide +kernel
theorem d15_46_8 : decode prog_15_method_46_code 8 = .ok (.if_icmp .ne 14, 3) := by decide +kernel
theorem d15_46_22 : decode prog_15_method_46_code 22 = .ok (.iconst (-1), 1) := by decide +kernel
theorem d15_46_11 : decode prog_15_method_46_code 11 = .ok (.aload_n 0, 1) := by decide +kernel
theorem d15_46_12 : decode prog_15_method_46_code 12 = .ok (.iload_n 1, 1) := by decide +kernel
theorem d15_46_13 : decode prog_15_method_46_code 13 = .ok (.ldc2_w 220, 3) := by decide +kernel
theorem d15_46_16 : decode prog_15_method_46_code 16 = .ok (.invokevirtual 222, 3) := by decide +kernel
theorem d15_46_19 : decode prog_15_method_46_code 19 = .ok (.goto 4, 3) := by decide +kernel
theorem d15_46_23 : decode prog_15_method_46_code 23 = .ok (.istore_n 2, 1) := by decide +kernel
theorem d15_46_24 : decode prog_15_method_46_code 24 = .ok (.aload_n 0, 1) := by decide +kernel
theorem d15_46_25 : decode prog_15_method_46_code 25 = .ok (.iload_n 2, 1) := by decide +kernel
theorem d15_45_0 : decode prog_15_method_45_code 0 = .ok (.iload_n 1, 1) := by decide +kernel
theorem d15_45_1 : decode prog_15_method_45_code 1 = .ok (.ifCond .lt 17, 3) := by decide +kernel
theorem d15_45_18 : decode prog_15_method_45_code 18 = .ok (.iconst 0, 1) := by decide +kernel
theorem d15_45_4 : decode prog_15_method_45_code 4 = .ok (.aload_n 0, 1) := by decide +kernel
theorem d15_45_5 : decode prog_15_method_45_code 5 = .ok (.getfield 13, 3) := by decide +kernel
theorem d15_45_8 : decode prog_15_method_45_code 8 = .ok (.iload_n 1, 1) := by decide +kernel
theorem d15_45_9 : decode prog_15_method_45_code 9 = .ok (.baload, 1) := by decide +kernel
theorem d15_45_10 : decode prog_15_method_45_code 10 = .ok (.iconst 4, 1) := by decide +kernel
theorem d15_45_11 : decode prog_15_method_45_code 11 = .ok (.if_icmp .ne 7, 3) := by decide +kernel
theorem d15_45_14 : decode prog_15_method_45_code 14 = .ok (.iconst 1, 1) := by decide +kernel
theorem d15_45_15 : decode prog_15_method_45_code 15 = .ok (.goto 4, 3) := by decide +kernel
theorem d15_45_19 : decode prog_15_method_45_code 19 = .ok (.ireturn, 1) := by decide +kernel
def y15_45 : MethodName := { cls := "PagedValuesModel", name := "isString", desc := "(I)Z" }
theorem k1449 : (Jvm.Cond.code ({ cls := "PagedValuesModel", name := "isString", desc := "(I)Z" } : Jvm.MethodName) prog_15_method_45_code (2 : Nat) (Option.some Jvm.ClassFile.FieldType.boolean)) ∈ TB := tk_7 9 rfl rfl
theorem k1446 : (Jvm.Cond.methodLink "PagedValuesModel" (226 : Nat) ({ cls := "PagedValuesModel", name := "isString", desc := "(I)Z" } : Jvm.MethodName)) ∈ TB := tk_7 6 rfl rfl
theorem k1448 : (Jvm.Cond.instanceMethod ({ cls := "PagedValuesModel", name := "isString", desc := "(I)Z" } : Jvm.MethodName)) ∈ TB := tk_7 8 rfl rfl
theorem ks69 : Cond.selects y15_45.cls y15_45 y15_45 ∈ TB := List.mem_filter.mpr ⟨List.mem_append_left _ (List.mem_of_getElem? (i := 69) (by decide +kernel)), rfl⟩
theorem d15_46_26 : decode prog_15_method_46_code 26 = .ok (.invokevirtual 226, 3) := by decide +kernel
theorem d15_46_29 : decode prog_15_method_46_code 29 = .ok (.ifCond .eq 18, 3) := by decide +kernel
theorem d15_46_47 : decode prog_15_method_46_code 47 = .ok (.iconst 0, 1) := by decide +kernel
theorem d15_46_48 : decode prog_15_method_46_code 48 = .ok (.ireturn, 1) := by decide +kernel
theorem d15_46_32 : decode prog_15_method_46_code 32 = .ok (.aload_n 0, 1) := by decide +kernel
theorem d15_46_33 : decode prog_15_method_46_code 33 = .ok (.aload_n 0, 1) := by decide +kernel
theorem d15_46_34 : decode prog_15_method_46_code 34 = .ok (.iload_n 1, 1) := by decide +kernel
theorem d15_46_35 : decode prog_15_method_46_code 35 = .ok (.ldc2_w 229, 3) := by decide +kernel
theorem d15_46_38 : decode prog_15_method_46_code 38 = .ok (.invokevirtual 222, 3) := by decide +kernel
theorem d15_46_41 : decode prog_15_method_46_code 41 = .ok (.invokevirtual 226, 3) := by decide +kernel
theorem d15_46_44 : decode prog_15_method_46_code 44 = .ok (.ifCond .ne 5, 3) := by decide +kernel
theorem d15_46_49 : decode prog_15_method_46_code 49 = .ok (.aload_n 0, 1) := by decide +kernel
theorem d15_46_50 : decode prog_15_method_46_code 50 = .ok (.getfield 20, 3) := by decide +kernel
theorem d15_46_53 : decode prog_15_method_46_code 53 = .ok (.iload_n 2, 1) := by decide +kernel
theorem d15_46_54 : decode prog_15_method_46_code 54 = .ok (.laload, 1) := by decide +kernel
theorem d15_46_55 : decode prog_15_method_46_code 55 = .ok (.lstore_n 3, 1) := by decide +kernel
theorem d15_46_56 : decode prog_15_method_46_code 56 = .ok (.lload_n 3, 1) := by decide +kernel
theorem d15_46_57 : decode prog_15_method_46_code 57 = .ok (.ldc2_w 231, 3) := by decide +kernel
theorem d15_46_60 : decode prog_15_method_46_code 60 = .ok (.lcmp, 1) := by decide +kernel
theorem d15_46_61 : decode prog_15_method_46_code 61 = .ok (.ifCond .eq 11, 3) := by decide +kernel
theorem d15_46_72 : decode prog_15_method_46_code 72 = .ok (.aload_n 0, 1) := by decide +kernel
theorem d15_46_73 : decode prog_15_method_46_code 73 = .ok (.iload_n 1, 1) := by decide +kernel
theorem d15_46_74 : decode prog_15_method_46_code 74 = .ok (.ldc2_w 235, 3) := by decide +kernel
theorem d15_46_77 : decode prog_15_method_46_code 77 = .ok (.invokevirtual 222, 3) := by decide +kernel
theorem d15_46_80 : decode prog_15_method_46_code 80 = .ok (.ifCond .lt 7, 3) := by decide +kernel
theorem d15_46_87 : decode prog_15_method_46_code 87 = .ok (.iconst 0, 1) := by decide +kernel
theorem d15_46_83 : decode prog_15_method_46_code 83 = .ok (.iconst 1, 1) := by decide +kernel
theorem d15_46_84 : decode prog_15_method_46_code 84 = .ok (.goto 4, 3) := by decide +kernel
theorem d15_46_88 : decode prog_15_method_46_code 88 = .ok (.ireturn, 1) := by decide +kernel
theorem d15_46_64 : decode prog_15_method_46_code 64 = .ok (.lload_n 3, 1) := by decide +kernel
theorem d15_46_65 : decode prog_15_method_46_code 65 = .ok (.ldc2_w 233, 3) := by decide +kernel
theorem k1452 : (Jvm.Cond.constantLong "PagedValuesModel" (233 : Nat) (532941400995554674 : Int64)) ∈ TB := tk_7 12 rfl rfl
theorem d15_46_68 : decode prog_15_method_46_code 68 = .ok (.lcmp, 1) := by decide +kernel
theorem d15_46_69 : decode prog_15_method_46_code 69 = .ok (.ifCond .ne 20, 3) := by decide +kernel
theorem d15_46_89 : decode prog_15_method_46_code 89 = .ok (.lload_n 3, 1) := by decide +kernel
theorem d15_46_90 : decode prog_15_method_46_code 90 = .ok (.ldc2_w 237, 3) := by decide +kernel
theorem d15_46_93 : decode prog_15_method_46_code 93 = .ok (.lcmp, 1) := by decide +kernel
theorem d15_46_94 : decode prog_15_method_46_code 94 = .ok (.ifCond .ne 18, 3) := by decide +kernel
theorem d15_46_112 : decode prog_15_method_46_code 112 = .ok (.lload_n 3, 1) := by decide +kernel
theorem d15_46_113 : decode prog_15_method_46_code 113 = .ok (.ldc2_w 241, 3) := by decide +kernel
theorem d15_46_116 : decode prog_15_method_46_code 116 = .ok (.lcmp, 1) := by decide +kernel
theorem d15_46_117 : decode prog_15_method_46_code 117 = .ok (.ifCond .ne 7, 3) := by decide +kernel
theorem d15_46_124 : decode prog_15_method_46_code 124 = .ok (.iconst 0, 1) := by decide +kernel
theorem d15_46_120 : decode prog_15_method_46_code 120 = .ok (.iconst 1, 1) := by decide +kernel
theorem d15_46_121 : decode prog_15_method_46_code 121 = .ok (.goto 4, 3) := by decide +kernel
theorem d15_46_97 : decode prog_15_method_46_code 97 = .ok (.aload_n 0, 1) := by decide +kernel
theorem d15_46_98 : decode prog_15_method_46_code 98 = .ok (.aload_n 0, 1) := by decide +kernel
theorem d15_46_99 : decode prog_15_method_46_code 99 = .ok (.iload_n 1, 1) := by decide +kernel
theorem d15_46_100 : decode prog_15_method_46_code 100 = .ok (.ldc2_w 239, 3) := by decide +kernel
theorem d15_46_103 : decode prog_15_method_46_code 103 = .ok (.invokevirtual 222, 3) := by decide +kernel
theorem d15_46_106 : decode prog_15_method_46_code 106 = .ok (.invokevirtual 226, 3) := by decide +kernel
theorem d15_46_109 : decode prog_15_method_46_code 109 = .ok (.goto 16, 3) := by decide +kernel
theorem d15_46_125 : decode prog_15_method_46_code 125 = .ok (.ireturn, 1) := by decide +kernel
def y15_46 : MethodName := { cls := "PagedValuesModel", name := "formed", desc := "(I)Z" }
theorem k1440 : (Jvm.Cond.code ({ cls := "PagedValuesModel", name := "formed", desc := "(I)Z" } : Jvm.MethodName) prog_15_method_46_code (5 : Nat) (Option.some Jvm.ClassFile.FieldType.boolean)) ∈ TB := tk_7 0 rfl rfl
theorem k1437 : (Jvm.Cond.methodLink "PagedValuesModel" (283 : Nat) ({ cls := "PagedValuesModel", name := "formed", desc := "(I)Z" } : Jvm.MethodName)) ∈ TB := tk_6 237 rfl rfl
theorem k1439 : (Jvm.Cond.instanceMethod ({ cls := "PagedValuesModel", name := "formed", desc := "(I)Z" } : Jvm.MethodName)) ∈ TB := tk_6 239 rfl rfl
theorem ks67 : Cond.selects y15_46.cls y15_46 y15_46 ∈ TB := List.mem_filter.mpr ⟨List.mem_append_left _ (List.mem_of_getElem? (i := 67) (by decide +kernel)), rfl⟩
theorem d15_51_37 : decode prog_15_method_51_code 37 = .ok (.invokevirtual 283, 3) := by decide +kernel
theorem d15_51_40 : decode prog_15_method_51_code 40 = .ok (.ifCond .ne 6, 3) := by decide +kernel
theorem d15_51_46 : decode prog_15_method_51_code 46 = .ok (.iload_n 2, 1) := by decide +kernel
theorem d15_51_47 : decode prog_15_method_51_code 47 = .ok (.aload_n 0, 1) := by decide +kernel
theorem d15_51_48 : decode prog_15_method_51_code 48 = .ok (.getfield 17, 3) := by decide +kernel
theorem d15_51_51 : decode prog_15_method_51_code 51 = .ok (.iload_n 2, 1) := by decide +kernel
theorem d15_51_52 : decode prog_15_method_51_code 52 = .ok (.baload, 1) := by decide +kernel
theorem d15_51_53 : decode prog_15_method_51_code 53 = .ok (.iadd, 1) := by decide +kernel
theorem d15_51_54 : decode prog_15_method_51_code 54 = .ok (.istore_n 2, 1) := by decide +kernel
theorem d15_51_55 : decode prog_15_method_51_code 55 = .ok (.goto (-32), 3) := by decide +kernel
theorem d15_51_43 : decode prog_15_method_51_code 43 = .ok (.bipush (-3), 2) := by decide +kernel
theorem d15_51_45 : decode prog_15_method_51_code 45 = .ok (.ireturn, 1) := by decide +kernel
theorem d15_51_16 : decode prog_15_method_51_code 16 = .ok (.bipush (-3), 2) := by decide +kernel
theorem d15_51_18 : decode prog_15_method_51_code 18 = .ok (.ireturn, 1) := by decide +kernel
def y15_51 : MethodName := { cls := "PagedValuesModel", name := "operate", desc := "()I" }
theorem k1436 : (Jvm.Cond.code ({ cls := "PagedValuesModel", name := "operate", desc := "()I" } : Jvm.MethodName) prog_15_method_51_code (4 : Nat) (Option.some Jvm.ClassFile.FieldType.int)) ∈ TB := tk_6 236 rfl rfl
theorem k1433 : (Jvm.Cond.methodLink "PagedValuesModel" (335 : Nat) ({ cls := "PagedValuesModel", name := "operate", desc := "()I" } : Jvm.MethodName)) ∈ TB := tk_6 233 rfl rfl
theorem k1435 : (Jvm.Cond.instanceMethod ({ cls := "PagedValuesModel", name := "operate", desc := "()I" } : Jvm.MethodName)) ∈ TB := tk_6 235 rfl rfl
theorem ks66 : Cond.selects y15_51.cls y15_51 y15_51 ∈ TB := List.mem_filter.mpr ⟨List.mem_append_left _ (List.mem_of_getElem? (i := 66) (by decide +kernel)), rfl⟩
theorem d15_63_72 : decode prog_15_method_63_code 72 = .ok (.invokevirtual 335, 3) := by decide +kernel
theorem d15_63_75 : decode prog_15_method_63_code 75 = .ok (.istore_n 3, 1) := by decide +kernel
theorem d15_63_76 : decode prog_15_method_63_code 76 = .ok (.iload_n 3, 1) := by decide +kernel
theorem d15_63_77 : decode prog_15_method_63_code 77 = .ok (.ifCond .ne 13, 3) := by decide +kernel
theorem d15_63_90 : decode prog_15_method_63_code 90 = .ok (.iload_n 3, 1) := by decide +kernel
theorem d15_63_80 : decode prog_15_method_63_code 80 = .ok (.aload_n 0, 1) := by decide +kernel
theorem d15_63_81 : decode prog_15_method_63_code 81 = .ok (.iload_n 1, 1) := by decide +kernel
theorem d15_63_82 : decode prog_15_method_63_code 82 = .ok (.bipush 81, 2) := by decide +kernel
theorem d15_63_84 : decode prog_15_method_63_code 84 = .ok (.invokevirtual 332, 3) := by decide +kernel
theorem d15_63_87 : decode prog_15_method_63_code 87 = .ok (.goto 4, 3) := by decide +kernel
theorem d15_63_91 : decode prog_15_method_63_code 91 = .ok (.istore_n 3, 1) := by decide +kernel
theorem d15_63_92 : decode prog_15_method_63_code 92 = .ok (.iload_n 3, 1) := by decide +kernel
theorem d15_63_93 : decode prog_15_method_63_code 93 = .ok (.ifCond .eq 7, 3) := by decide +kernel
theorem d15_63_100 : decode prog_15_method_63_code 100 = .ok (.aload_n 0, 1) := by decide +kernel
theorem d15_63_101 : decode prog_15_method_63_code 101 = .ok (.getfield 17, 3) := by decide +kernel
theorem d15_63_104 : decode prog_15_method_63_code 104 = .ok (.bipush 81, 2) := by decide +kernel
theorem d15_63_106 : decode prog_15_method_63_code 106 = .ok (.invokestatic 159, 3) := by decide +kernel
theorem d15_63_109 : decode prog_15_method_63_code 109 = .ok (.baload, 1) := by decide +kernel
theorem d15_63_96 : decode prog_15_method_63_code 96 = .ok (.iload_n 3, 1) := by decide +kernel
theorem d15_63_97 : decode prog_15_method_63_code 97 = .ok (.goto 13, 3) := by decide +kernel
theorem d15_63_110 : decode prog_15_method_63_code 110 = .ok (.ireturn, 1) := by decide +kernel
theorem d15_63_56 : decode prog_15_method_63_code 56 = .ok (.bipush (-100), 2) := by decide +kernel
theorem d15_63_58 : decode prog_15_method_63_code 58 = .ok (.aload_n 0, 1) := by decide +kernel
theorem d15_63_59 : decode prog_15_method_63_code 59 = .ok (.getfield 111, 3) := by decide +kernel
theorem d15_63_62 : decode prog_15_method_63_code 62 = .ok (.isub, 1) := by decide +kernel
theorem d15_63_63 : decode prog_15_method_63_code 63 = .ok (.ireturn, 1) := by decide +kernel
def y15_63 : MethodName := { cls := "PagedValuesModel", name := "patch", desc := "(I)I" }
def m_operand (a0 : Int32) (a1 : Int64) (st : MS) : Option (Int32) := (m_member a0 a1 (0 : Int64) st).bind fun x1 => some x1
set_option maxHeartbeats 4000000 in
set_option maxRecDepth 100000 in
theorem cm_operand (l : Launch) (G : Gk) (Zd : Nat → Nat) (q : Nat → Nat) (a0 : Int32) (a1 : Int64) (st : MS) (r0 : Int32) (hm : m_operand a0 a1 st = some r0) (sz : Nat) : Met l y15_44 (Cond.code y15_44 prog_15_method_44_code 4 (some .int) :: TB) (rmD 1 0 0) (va_Pc [.ref (q 0), .int a0, .long a1] (pcW G Zd (wMs q G.2 st) sz)) (qI G (fun rr (_ : Unit) => rr = r0) (fun _ => (wMs q G.2 st)) (va_A (wMs q G.2 st) sz)) 0 0 (va_A (wMs q G.2 st) sz) := by
  refine go (y := y15_44) (cc := prog_15_method_44_code) (maxL := 4) (ret := (some .int)) (av := [.ref (q 0), .int a0, .long a1]) (Qc := qI G (fun rr (_ : Unit) => rr = r0) (fun _ => (wMs q G.2 st))) "PagedValuesModel" rfl (by decide) (Nat.le_of_ble_eq_true rfl) ?_
  intro p e s m below meth c ls A hx hb hr hlk hml hown hts hin hl hP hD hK hS hA hZ
  have hl : lv_has ls 4 [(0, .ref (q 0)), (1, .int a0), (2, .long a1)] := hl
  have h := hm
  clear hm
  refine lv_aload_n hx hb d15_44_0 rfl (lv_at hl 0 rfl) ?_
  refine lv_iload_n hx hb d15_44_1 rfl (lv_at hl 1 rfl) ?_
  refine lv_lload_n hx hb d15_44_2 rfl (lv_at hl 2 rfl) ?_
  refine lv_lconst (v := 0) hx hb d15_44_3 (by decide) ?_
  obtain ⟨x1, hc, h⟩ := ob h
  refine sV_i (As := [.int a0, .long a1, .long 0]) (rest := []) ⟨hx, hb, hml, hown, hts⟩ (cm_member l G Zd q a0 a1 (0 : Int64) st x1 hc _) (kw_V (n := 3) hts k1388 k1385 k15 k1387 ks55 (by decide +kernel) ⟨Nat.le_of_ble_eq_true rfl, Nat.le_of_ble_eq_true rfl⟩) hP hD hK hS hA hZ (va_recv (ci := 13) (q0 := 0) hK hP rfl rfl) rfl hl.1 rfl (Nat.le_of_ble_eq_true rfl) d15_44_4 ⟨Nat.le_of_ble_eq_true rfl, Nat.le_of_ble_eq_true rfl⟩ (fun rr u9 H locs hp hP hD hS => ?_)
  clear u9
  subst rr
  clear hc
  refine W.eq (g2 := F0 m 7 ls [.int x1]) rfl ?_
  have hP : va_P G.1 vwCl (wMs q G.2 st) H := hP
  have hD : va_D A (wMs q G.2 st) := hD
  cases h
  exact fin_i hx hb hr hlk hS () rfl hP hD (Nat.le_of_ble_eq_true rfl) (Nat.le_of_ble_eq_true rfl) d15_44_7
def m_charOf (a0 : Int64) (a1 : Int64) (a2 : Int32) : Option (Int32) := (if (7 : Int32) ≤ a2 then ((some (a2 - 7)).bind fun y5 => (some (8 * y5)).bind fun y6 => (some (a1 >>> (y6.toInt64 &&& 63))).bind fun y7 => (some (y7 &&& 255)).bind fun y8 => some y8) else ((some (8 * a2)).bind fun y9 => (some (a0 >>> (y9.toInt64 &&& 63))).bind fun y10 => (some (y10 &&& 255)).bind fun y11 => some y11)).bind fun e2 => (some e2.toInt32).bind fun y4 => some y4
set_option maxHeartbeats 4000000 in
set_option maxRecDepth 100000 in
theorem cm_charOf (l : Launch) (G : Gk) (Zd : Nat → Nat) (w0 : va_W) (a0 : Int64) (a1 : Int64) (a2 : Int32) (r0 : Int32) (hm : m_charOf a0 a1 a2 = some r0) (sz : Nat) : Met l y15_4 (Cond.code y15_4 prog_15_method_4_code 5 (some .int) :: TB) (rmD 0 0 0) (va_Pc [.long a0, .long a1, .int a2] (pcW G Zd w0 sz)) (qI G (fun rr (_ : Unit) => rr = r0) (fun _ => w0) (va_A w0 sz)) 0 0 (va_A w0 sz) := by
  refine go (y := y15_4) (cc := prog_15_method_4_code) (maxL := 5) (ret := (some .int)) (av := [.long a0, .long a1, .int a2]) (Qc := qI G (fun rr (_ : Unit) => rr = r0) (fun _ => w0)) "PagedValuesModel" rfl (by decide) (Nat.le_of_ble_eq_true rfl) ?_
  intro p e s m below meth c ls A hx hb hr hlk hml hown hts hin hl hP hD hK hS hA hZ
  have hl : lv_has ls 5 [(0, .long a0), (2, .long a1), (4, .int a2)] := hl
  have h := hm
  clear hm
  refine lv_iload hx hb d15_4_0 (lv_at hl 2 rfl) ?_
  refine lv_bipush (v := 7) hx hb d15_4_2 (by decide) ?_
  obtain ⟨e2, hX, h⟩ := ob h
  have hj : ∀ (H : Heap) (locs : List Loc) (ls : Array Slot), lv_has ls 5 [(0, .long a0), (2, .long a1), (4, .int a2)] → va_P G.1 vwCl w0 H → va_D A w0 → va_S A s.heap H locs → W p l e (rmD 0 0 0) s m ([.long a0, .long a1, .int a2] : List Value).toArray below meth c H locs 0 0 (MQ below (qI G (fun rr (_ : Unit) => rr = r0) (fun _ => w0) A) ([.long a0, .long a1, .int a2] : List Value).toArray s 0 0 A) (F0 m 35 ls [.long e2]) := by
    intro H locs ls hl hP hD hS
    refine lv_l2i hx hb d15_4_35 rfl ?_
    obtain ⟨y4, hr, h⟩ := ob h
    refine lv_topi (fun y9 ey => ?_)
    have e9 := ey.trans (Option.some.inj hr)
    clear ey
    subst y9
    clear hr
    cases h
    exact fin_i hx hb hr hlk hS () rfl hP hD (Nat.le_of_ble_eq_true rfl) (Nat.le_of_ble_eq_true rfl) d15_4_36
  clear h
  refine lv_icmp_ge (tgt := 21) hx hb d15_4_4 rfl (fun c1 => ?_) (fun c1 => ?_)
  ·
    replace h := (if_pos c1).symm.trans hX
    refine lv_lload_n hx hb d15_4_21 rfl (lv_at hl 1 rfl) ?_
    refine lv_bipush (v := 8) hx hb d15_4_22 (by decide) ?_
    refine lv_iload hx hb d15_4_24 (lv_at hl 2 rfl) ?_
    refine lv_bipush (v := 7) hx hb d15_4_26 (by decide) ?_
    refine lv_isub hx hb d15_4_28 ?_
    obtain ⟨y5, hr, h⟩ := ob h
    refine lv_topi (fun y9 ey => ?_)
    have e9 := ey.trans (Option.some.inj hr)
    clear ey
    subst y9
    clear hr
    refine lv_imul hx hb d15_4_29 ?_
    obtain ⟨y6, hr, h⟩ := ob h
    refine lv_topi (fun y9 ey => ?_)
    have e9 := ey.trans (Option.some.inj hr)
    clear ey
    subst y9
    clear hr
    refine lv_lshr hx hb d15_4_30 rfl ?_
    obtain ⟨y7, hr, h⟩ := ob h
    refine lv_topl (fun y9 ey => ?_)
    have e9 := ey.trans (Option.some.inj hr)
    clear ey
    subst y9
    clear hr
    refine lv_ldc2 (v := 255) hx hb hown (hts _ (List.mem_cons_of_mem _ k1467)) d15_4_31 ?_
    refine lv_land hx hb d15_4_34 ?_
    obtain ⟨y8, hr, h⟩ := ob h
    refine lv_topl (fun y9 ey => ?_)
    have e9 := ey.trans (Option.some.inj hr)
    clear ey
    subst y9
    clear hr
    have e9 := Option.some.inj h
    subst e2
    have hl := lv_sub hl (l' := [(0, .long a0), (2, .long a1), (4, .int a2)]) [0, 1, 2] rfl
    exact hj _ _ _ hl hP hD hS
  ·
    replace h := (if_neg c1).symm.trans hX
    refine lv_lload_n hx hb d15_4_7 rfl (lv_at hl 0 rfl) ?_
    refine lv_bipush (v := 8) hx hb d15_4_8 (by decide) ?_
    refine lv_iload hx hb d15_4_10 (lv_at hl 2 rfl) ?_
    refine lv_imul hx hb d15_4_12 ?_
    obtain ⟨y9, hr, h⟩ := ob h
    refine lv_topi (fun y9 ey => ?_)
    have e9 := ey.trans (Option.some.inj hr)
    clear ey
    subst y9
    clear hr
    refine lv_lshr hx hb d15_4_13 rfl ?_
    obtain ⟨y10, hr, h⟩ := ob h
    refine lv_topl (fun y9 ey => ?_)
    have e9 := ey.trans (Option.some.inj hr)
    clear ey
    subst y9
    clear hr
    refine lv_ldc2 (v := 255) hx hb hown (hts _ (List.mem_cons_of_mem _ k1467)) d15_4_14 ?_
    refine lv_land hx hb d15_4_17 ?_
    obtain ⟨y11, hr, h⟩ := ob h
    refine lv_topl (fun y9 ey => ?_)
    have e9 := ey.trans (Option.some.inj hr)
    clear ey
    subst y9
    clear hr
    refine lv_goto (tgt := 35) hx hb d15_4_18 rfl ?_
    have e9 := Option.some.inj h
    subst e2
    have hl := lv_sub hl (l' := [(0, .long a0), (2, .long a1), (4, .int a2)]) [0, 1, 2] rfl
    exact hj _ _ _ hl hP hD hS
def m_isPointer_l1 (a0 : Int64) (a1 : Int64) : Nat → (Int32 × Int32) → Option (Int32 × Int32)
  | 0, _ => none
  | n9 + 1, e9 => (m_lengthOf a0).bind fun x13 => if x13 ≤ e9.2 then (some (e9.1, e9.2)) else ((some (e9.2 + 1)).bind fun y17 => (m_lengthOf a0).bind fun x18 => (if x18 ≤ y17 then (some (0 : Int32)) else ((some (e9.2 + 1)).bind fun y33 => (m_charOf a0 a1 y33).bind fun x34 => some x34)).bind fun e22 => (if e9.1 = (0 : Int32) then (some (0 : Int32)) else ((m_charOf a0 a1 e9.2).bind fun x27 => if x27 = (126 : Int32) then (if e22 = (48 : Int32) then (some (1 : Int32)) else (if e22 = (49 : Int32) then (some (1 : Int32)) else (some (0 : Int32)))) else (some (1 : Int32)))).bind fun e25 => m_isPointer_l1 a0 a1 n9 (e25, e9.2 + 1))
theorem m_isPointer_l1_s (a0 : Int64) (a1 : Int64) (n9 : Nat) (e9 : Int32 × Int32) : m_isPointer_l1 a0 a1 (n9 + 1) e9 = ((m_lengthOf a0).bind fun x13 => if x13 ≤ e9.2 then (some (e9.1, e9.2)) else ((some (e9.2 + 1)).bind fun y17 => (m_lengthOf a0).bind fun x18 => (if x18 ≤ y17 then (some (0 : Int32)) else ((some (e9.2 + 1)).bind fun y33 => (m_charOf a0 a1 y33).bind fun x34 => some x34)).bind fun e22 => (if e9.1 = (0 : Int32) then (some (0 : Int32)) else ((m_charOf a0 a1 e9.2).bind fun x27 => if x27 = (126 : Int32) then (if e22 = (48 : Int32) then (some (1 : Int32)) else (if e22 = (49 : Int32) then (some (1 : Int32)) else (some (0 : Int32)))) else (some (1 : Int32)))).bind fun e25 => m_isPointer_l1 a0 a1 n9 (e25, e9.2 + 1))) := rfl
def m_isPointer (a0 : Int64) (a1 : Int64) : Option (Int32) := (m_lengthOf a0).bind fun x1 => (if x1 = (0 : Int32) then (some (1 : Int32)) else ((m_charOf a0 a1 (0 : Int32)).bind fun x37 => if x37 = (47 : Int32) then (some (1 : Int32)) else (some (0 : Int32)))).bind fun e5 => (m_isPointer_l1 a0 a1 4096 (e5, (0 : Int32))).bind fun e7 => (bz e7.1).bind fun _ => some e7.1
set_option maxHeartbeats 4000000 in
set_option maxRecDepth 100000 in
theorem cm_isPointer (l : Launch) (G : Gk) (Zd : Nat → Nat) (w0 : va_W) (a0 : Int64) (a1 : Int64) (r0 : Int32) (hm : m_isPointer a0 a1 = some r0) (sz : Nat) : Met l y15_39 (Cond.code y15_39 prog_15_method_39_code 7 (some .boolean) :: TB) (rmD 1 0 0) (va_Pc [.long a0, .long a1] (pcW G Zd w0 sz)) (qI G (fun rr (_ : Unit) => rr = r0) (fun _ => w0) (va_A w0 sz)) 0 0 (va_A w0 sz) := by
  refine go (y := y15_39) (cc := prog_15_method_39_code) (maxL := 7) (ret := (some .boolean)) (av := [.long a0, .long a1]) (Qc := qI G (fun rr (_ : Unit) => rr = r0) (fun _ => w0)) "PagedValuesModel" rfl (by decide) (Nat.le_of_ble_eq_true rfl) ?_
  intro p e s m below meth c ls A hx hb hr hlk hml hown hts hin hl hP hD hK hS hA hZ
  have hl : lv_has ls 7 [(0, .long a0), (2, .long a1)] := hl
  have h := hm
  clear hm
  refine lv_lload_n hx hb d15_39_0 rfl (lv_at hl 0 rfl) ?_
  obtain ⟨x1, hc, h⟩ := ob h
  refine sS_i (As := [.long a0]) (rest := []) ⟨hx, hb, hml, hown, hts⟩ (cm_lengthOf l G Zd _ a0 x1 hc _) (kw_S (n := 1) hts k1343 k1341 k15 k1342 (by decide +kernel) ⟨Nat.le_of_ble_eq_true rfl, Nat.le_of_ble_eq_true rfl⟩) hP hD hK hS hA hZ rfl hl.1 rfl (Nat.le_of_ble_eq_true rfl) d15_39_1 ⟨Nat.le_of_ble_eq_true rfl, Nat.le_of_ble_eq_true rfl⟩ (fun rr u9 H locs hp hP hD hS => ?_)
  clear u9
  subst rr
  clear hc
  refine W.eq (g2 := F0 m 4 ls [.int x1]) rfl ?_
  have hP : va_P G.1 vwCl w0 H := hP
  have hD : va_D A w0 := hD
  obtain ⟨e5, hX, h⟩ := ob h
  have hj : ∀ (H : Heap) (locs : List Loc) (ls : Array Slot), lv_has ls 7 [(0, .long a0), (2, .long a1)] → va_P G.1 vwCl w0 H → va_D A w0 → va_S A s.heap H locs → W p l e (rmD 1 0 0) s m ([.long a0, .long a1] : List Value).toArray below meth c H locs 0 0 (MQ below (qI G (fun rr (_ : Unit) => rr = r0) (fun _ => w0) A) ([.long a0, .long a1] : List Value).toArray s 0 0 A) (F0 m 23 ls [.int e5]) := by
    intro H locs ls hl hP hD hS
    refine lv_istore (lv' := [(4, .int e5), (0, .long a0), (2, .long a1)]) hx hb d15_39_23 hl (by decide) rfl (fun ls hl => ?_)
    refine lv_iconst (v := 0) hx hb d15_39_25 (by decide) ?_
    refine lv_istore (lv' := [(5, .int 0), (4, .int e5), (0, .long a0), (2, .long a1)]) hx hb d15_39_26 hl (by decide) rfl (fun ls hl => ?_)
    obtain ⟨e7, hX, hrest⟩ := ob h
    clear h
    have hj : ∀ (v11 : Int32) (v12 : Int32), e7 = (v11, v12) → ∀ (H : Heap) (locs : List Loc) (ls : Array Slot), lv_has ls 7 [(0, .long a0), (2, .long a1), (4, .int v11), (5, .int v12)] → va_P G.1 vwCl w0 H → va_D A w0 → va_S A s.heap H locs → W p l e (rmD 1 0 0) s m ([.long a0, .long a1] : List Value).toArray below meth c H locs 0 0 (MQ below (qI G (fun rr (_ : Unit) => rr = r0) (fun _ => w0) A) ([.long a0, .long a1] : List Value).toArray s 0 0 A) (F0 m 107 ls []) := by
      intro v11 v12 he H locs ls hl hP hD hS
      subst e7
      have h := hrest
      refine lv_iload hx hb d15_39_107 (lv_at hl 2 rfl) ?_
      obtain ⟨u9, hr9, h⟩ := ob h
      have hi := bz_some hr9
      clear hr9 u9
      cases h
      exact fin_z hx hb hr hlk (nar01 hi) hS () rfl hP hD (Nat.le_of_ble_eq_true rfl) (Nat.le_of_ble_eq_true rfl) d15_39_109
    have hloop : ∀ (n9 : Nat) (v8 : Int32) (v9 : Int32), m_isPointer_l1 a0 a1 n9 (v8, v9) = some e7 → ∀ (H : Heap) (locs : List Loc) (ls : Array Slot), lv_has ls 7 [(0, .long a0), (2, .long a1), (4, .int v8), (5, .int v9)] → va_P G.1 vwCl w0 H → va_D A w0 → va_S A s.heap H locs → W p l e (rmD 1 0 0) s m ([.long a0, .long a1] : List Value).toArray below meth c H locs 0 0 (MQ below (qI G (fun rr (_ : Unit) => rr = r0) (fun _ => w0) A) ([.long a0, .long a1] : List Value).toArray s 0 0 A) (F0 m 28 ls []) := by
      intro n9
      induction n9 with
      | zero =>
        intro v8 v9 h
        cases h
      | succ n9 ih =>
        intro v8 v9 h H locs ls hl hP hD hS
        replace h := (m_isPointer_l1_s a0 a1 n9 (v8, v9)).symm.trans h
        refine lv_iload hx hb d15_39_28 (lv_at hl 3 rfl) ?_
        refine lv_lload_n hx hb d15_39_30 rfl (lv_at hl 0 rfl) ?_
        obtain ⟨x13, hc, h⟩ := ob h
        refine sS_i (As := [.long a0]) (rest := [.int v9]) ⟨hx, hb, hml, hown, hts⟩ (cm_lengthOf l G Zd _ a0 x13 hc _) (kw_S (n := 1) hts k1343 k1341 k15 k1342 (by decide +kernel) ⟨Nat.le_of_ble_eq_true rfl, Nat.le_of_ble_eq_true rfl⟩) hP hD hK hS hA hZ rfl hl.1 rfl (Nat.le_of_ble_eq_true rfl) d15_39_31 ⟨Nat.le_of_ble_eq_true rfl, Nat.le_of_ble_eq_true rfl⟩ (fun rr u9 H locs hp hP hD hS => ?_)
        clear u9
        subst rr
        clear hc
        refine W.eq (g2 := F0 m 34 ls [.int x13, .int v9]) rfl ?_
        have hP : va_P G.1 vwCl w0 H := hP
        have hD : va_D A w0 := hD
        refine lv_icmp_ge (tgt := 107) hx hb d15_39_34 rfl (fun c16 => ?_) (fun c16 => ?_)
        ·
          replace h := (if_pos c16).symm.trans h
          have e9 := Option.some.inj h
          subst e7
          have hl := lv_sub hl (l' := [(0, .long a0), (2, .long a1), (4, .int v8), (5, .int v9)]) [0, 1, 2, 3] rfl
          exact hj _ _ rfl _ _ _ hl hP hD hS
        ·
          replace h := (if_neg c16).symm.trans h
          refine lv_iload hx hb d15_39_37 (lv_at hl 3 rfl) ?_
          refine lv_iconst (v := 1) hx hb d15_39_39 (by decide) ?_
          refine lv_iadd hx hb d15_39_40 ?_
          obtain ⟨y17, hr, h⟩ := ob h
          refine lv_topi (fun y9 ey => ?_)
          have e9 := ey.trans (Option.some.inj hr)
          clear ey
          subst y9
          clear hr
          refine lv_lload_n hx hb d15_39_41 rfl (lv_at hl 0 rfl) ?_
          obtain ⟨x18, hc, h⟩ := ob h
          refine sS_i (As := [.long a0]) (rest := [.int y17]) ⟨hx, hb, hml, hown, hts⟩ (cm_lengthOf l G Zd _ a0 x18 hc _) (kw_S (n := 1) hts k1343 k1341 k15 k1342 (by decide +kernel) ⟨Nat.le_of_ble_eq_true rfl, Nat.le_of_ble_eq_true rfl⟩) hP hD hK hS hA hZ rfl hl.1 rfl (Nat.le_of_ble_eq_true rfl) d15_39_42 ⟨Nat.le_of_ble_eq_true rfl, Nat.le_of_ble_eq_true rfl⟩ (fun rr u9 H locs hp hP hD hS => ?_)
          clear u9
          subst rr
          clear hc
          refine W.eq (g2 := F0 m 45 ls [.int x18, .int y17]) rfl ?_
          have hP : va_P G.1 vwCl w0 H := hP
          have hD : va_D A w0 := hD
          obtain ⟨e22, hX, h⟩ := ob h
          have hj : ∀ (H : Heap) (locs : List Loc) (ls : Array Slot), lv_has ls 7 [(0, .long a0), (2, .long a1), (4, .int v8), (5, .int v9)] → va_P G.1 vwCl w0 H → va_D A w0 → va_S A s.heap H locs → W p l e (rmD 1 0 0) s m ([.long a0, .long a1] : List Value).toArray below meth c H locs 0 0 (MQ below (qI G (fun rr (_ : Unit) => rr = r0) (fun _ => w0) A) ([.long a0, .long a1] : List Value).toArray s 0 0 A) (F0 m 61 ls [.int e22]) := by
            intro H locs ls hl hP hD hS
            refine lv_istore (lv' := [(6, .int e22), (0, .long a0), (2, .long a1), (4, .int v8), (5, .int v9)]) hx hb d15_39_61 hl (by decide) rfl (fun ls hl => ?_)
            refine lv_iload hx hb d15_39_63 (lv_at hl 3 rfl) ?_
            obtain ⟨e25, hX, h⟩ := ob h
            have hj : ∀ (H : Heap) (locs : List Loc) (ls : Array Slot), lv_has ls 7 [(0, .long a0), (2, .long a1), (4, .int v8), (5, .int v9), (6, .int e22)] → va_P G.1 vwCl w0 H → va_D A w0 → va_S A s.heap H locs → W p l e (rmD 1 0 0) s m ([.long a0, .long a1] : List Value).toArray below meth c H locs 0 0 (MQ below (qI G (fun rr (_ : Unit) => rr = r0) (fun _ => w0) A) ([.long a0, .long a1] : List Value).toArray s 0 0 A) (F0 m 99 ls [.int e25]) := by
              intro H locs ls hl hP hD hS
              refine lv_istore (lv' := [(4, .int e25), (0, .long a0), (2, .long a1), (5, .int v9), (6, .int e22)]) hx hb d15_39_99 hl (by decide) rfl (fun ls hl => ?_)
              refine lv_iinc (k := 3) (v := v9 + 1) (lv' := [(5, .int (v9 + 1)), (4, .int e25), (0, .long a0), (2, .long a1), (6, .int e22)]) hx hb d15_39_101 hl rfl (by first | decide | rfl) (by decide) rfl (fun ls hl => ?_)
              refine lv_goto (tgt := 28) hx hb d15_39_104 rfl ?_
              have hl := lv_sub hl (l' := [(0, .long a0), (2, .long a1), (4, .int e25), (5, .int (v9 + 1))]) [2, 3, 1, 0] rfl
              exact ih _ _ h _ _ _ hl hP hD hS
            clear h
            refine lv_if_eq (tgt := 98) hx hb d15_39_65 rfl (fun c24 => ?_) (fun c24 => ?_)
            ·
              replace h := (if_pos c24).symm.trans hX
              refine lv_iconst (v := 0) hx hb d15_39_98 (by decide) ?_
              have e9 := Option.some.inj h
              subst e25
              have hl := lv_sub hl (l' := [(0, .long a0), (2, .long a1), (4, .int v8), (5, .int v9), (6, .int e22)]) [1, 2, 3, 4, 0] rfl
              exact hj _ _ _ hl hP hD hS
            ·
              replace h := (if_neg c24).symm.trans hX
              refine lv_lload_n hx hb d15_39_68 rfl (lv_at hl 1 rfl) ?_
              refine lv_lload_n hx hb d15_39_69 rfl (lv_at hl 2 rfl) ?_
              refine lv_iload hx hb d15_39_70 (lv_at hl 4 rfl) ?_
              obtain ⟨x27, hc, h⟩ := ob h
              refine sS_i (As := [.long a0, .long a1, .int v9]) (rest := []) ⟨hx, hb, hml, hown, hts⟩ (cm_charOf l G Zd _ a0 a1 v9 x27 hc _) (kw_S (n := 3) hts k1466 k1464 k15 k1465 (by decide +kernel) ⟨Nat.le_of_ble_eq_true rfl, Nat.le_of_ble_eq_true rfl⟩) hP hD hK hS hA hZ rfl hl.1 rfl (Nat.le_of_ble_eq_true rfl) d15_39_72 ⟨Nat.le_of_ble_eq_true rfl, Nat.le_of_ble_eq_true rfl⟩ (fun rr u9 H locs hp hP hD hS => ?_)
              clear u9
              subst rr
              clear hc
              refine W.eq (g2 := F0 m 75 ls [.int x27]) rfl ?_
              have hP : va_P G.1 vwCl w0 H := hP
              have hD : va_D A w0 := hD
              refine lv_bipush (v := 126) hx hb d15_39_75 (by decide) ?_
              refine lv_icmp_ne (tgt := 94) hx hb d15_39_77 rfl (fun c30 => ?_) (fun c30 => ?_)
              ·
                replace h := (if_neg c30).symm.trans h
                refine lv_iconst (v := 1) hx hb d15_39_94 (by decide) ?_
                refine lv_goto (tgt := 99) hx hb d15_39_95 rfl ?_
                have e9 := Option.some.inj h
                subst e25
                have hl := lv_sub hl (l' := [(0, .long a0), (2, .long a1), (4, .int v8), (5, .int v9), (6, .int e22)]) [1, 2, 3, 4, 0] rfl
                exact hj _ _ _ hl hP hD hS
              ·
                replace h := (if_pos c30).symm.trans h
                refine lv_iload hx hb d15_39_80 (lv_at hl 0 rfl) ?_
                refine lv_bipush (v := 48) hx hb d15_39_82 (by decide) ?_
                refine lv_icmp_eq (tgt := 94) hx hb d15_39_84 rfl (fun c31 => ?_) (fun c31 => ?_)
                ·
                  replace h := (if_pos c31).symm.trans h
                  refine lv_iconst (v := 1) hx hb d15_39_94 (by decide) ?_
                  refine lv_goto (tgt := 99) hx hb d15_39_95 rfl ?_
                  have e9 := Option.some.inj h
                  subst e25
                  have hl := lv_sub hl (l' := [(0, .long a0), (2, .long a1), (4, .int v8), (5, .int v9), (6, .int e22)]) [1, 2, 3, 4, 0] rfl
                  exact hj _ _ _ hl hP hD hS
                ·
                  replace h := (if_neg c31).symm.trans h
                  refine lv_iload hx hb d15_39_87 (lv_at hl 0 rfl) ?_
                  refine lv_bipush (v := 49) hx hb d15_39_89 (by decide) ?_
                  refine lv_icmp_ne (tgt := 98) hx hb d15_39_91 rfl (fun c32 => ?_) (fun c32 => ?_)
                  ·
                    replace h := (if_neg c32).symm.trans h
                    refine lv_iconst (v := 0) hx hb d15_39_98 (by decide) ?_
                    have e9 := Option.some.inj h
                    subst e25
                    have hl := lv_sub hl (l' := [(0, .long a0), (2, .long a1), (4, .int v8), (5, .int v9), (6, .int e22)]) [1, 2, 3, 4, 0] rfl
                    exact hj _ _ _ hl hP hD hS
                  ·
                    replace h := (if_pos c32).symm.trans h
                    refine lv_iconst (v := 1) hx hb d15_39_94 (by decide) ?_
                    refine lv_goto (tgt := 99) hx hb d15_39_95 rfl ?_
                    have e9 := Option.some.inj h
                    subst e25
                    have hl := lv_sub hl (l' := [(0, .long a0), (2, .long a1), (4, .int v8), (5, .int v9), (6, .int e22)]) [1, 2, 3, 4, 0] rfl
                    exact hj _ _ _ hl hP hD hS
          clear h
          refine lv_icmp_ge (tgt := 60) hx hb d15_39_45 rfl (fun c21 => ?_) (fun c21 => ?_)
          ·
            replace h := (if_pos c21).symm.trans hX
            refine lv_iconst (v := 0) hx hb d15_39_60 (by decide) ?_
            have e9 := Option.some.inj h
            subst e22
            have hl := lv_sub hl (l' := [(0, .long a0), (2, .long a1), (4, .int v8), (5, .int v9)]) [0, 1, 2, 3] rfl
            exact hj _ _ _ hl hP hD hS
          ·
            replace h := (if_neg c21).symm.trans hX
            refine lv_lload_n hx hb d15_39_48 rfl (lv_at hl 0 rfl) ?_
            refine lv_lload_n hx hb d15_39_49 rfl (lv_at hl 1 rfl) ?_
            refine lv_iload hx hb d15_39_50 (lv_at hl 3 rfl) ?_
            refine lv_iconst (v := 1) hx hb d15_39_52 (by decide) ?_
            refine lv_iadd hx hb d15_39_53 ?_
            obtain ⟨y33, hr, h⟩ := ob h
            refine lv_topi (fun y9 ey => ?_)
            have e9 := ey.trans (Option.some.inj hr)
            clear ey
            subst y9
            clear hr
            obtain ⟨x34, hc, h⟩ := ob h
            refine sS_i (As := [.long a0, .long a1, .int y33]) (rest := []) ⟨hx, hb, hml, hown, hts⟩ (cm_charOf l G Zd _ a0 a1 y33 x34 hc _) (kw_S (n := 3) hts k1466 k1464 k15 k1465 (by decide +kernel) ⟨Nat.le_of_ble_eq_true rfl, Nat.le_of_ble_eq_true rfl⟩) hP hD hK hS hA hZ rfl hl.1 rfl (Nat.le_of_ble_eq_true rfl) d15_39_54 ⟨Nat.le_of_ble_eq_true rfl, Nat.le_of_ble_eq_true rfl⟩ (fun rr u9 H locs hp hP hD hS => ?_)
            clear u9
            subst rr
            clear hc
            refine W.eq (g2 := F0 m 57 ls [.int x34]) rfl ?_
            have hP : va_P G.1 vwCl w0 H := hP
            have hD : va_D A w0 := hD
            refine lv_goto (tgt := 61) hx hb d15_39_57 rfl ?_
            have e9 := Option.some.inj h
            subst e22
            have hl := lv_sub hl (l' := [(0, .long a0), (2, .long a1), (4, .int v8), (5, .int v9)]) [0, 1, 2, 3] rfl
            exact hj _ _ _ hl hP hD hS
    have hl := lv_sub hl (l' := [(0, .long a0), (2, .long a1), (4, .int e5), (5, .int 0)]) [2, 3, 1, 0] rfl
    exact hloop _ _ _ hX _ _ _ hl hP hD hS
  clear h
  refine lv_if_eq (tgt := 18) hx hb d15_39_4 rfl (fun c4 => ?_) (fun c4 => ?_)
  ·
    replace h := (if_pos c4).symm.trans hX
    refine lv_iconst (v := 1) hx hb d15_39_18 (by decide) ?_
    refine lv_goto (tgt := 23) hx hb d15_39_19 rfl ?_
    have e9 := Option.some.inj h
    subst e5
    have hl := lv_sub hl (l' := [(0, .long a0), (2, .long a1)]) [0, 1] rfl
    exact hj _ _ _ hl hP hD hS
  ·
    replace h := (if_neg c4).symm.trans hX
    refine lv_lload_n hx hb d15_39_7 rfl (lv_at hl 0 rfl) ?_
    refine lv_lload_n hx hb d15_39_8 rfl (lv_at hl 1 rfl) ?_
    refine lv_iconst (v := 0) hx hb d15_39_9 (by decide) ?_
    obtain ⟨x37, hc, h⟩ := ob h
    refine sS_i (As := [.long a0, .long a1, .int 0]) (rest := []) ⟨hx, hb, hml, hown, hts⟩ (cm_charOf l G Zd _ a0 a1 (0 : Int32) x37 hc _) (kw_S (n := 3) hts k1466 k1464 k15 k1465 (by decide +kernel) ⟨Nat.le_of_ble_eq_true rfl, Nat.le_of_ble_eq_true rfl⟩) hP hD hK hS hA hZ rfl hl.1 rfl (Nat.le_of_ble_eq_true rfl) d15_39_10 ⟨Nat.le_of_ble_eq_true rfl, Nat.le_of_ble_eq_true rfl⟩ (fun rr u9 H locs hp hP hD hS => ?_)
    clear u9
    subst rr
    clear hc
    refine W.eq (g2 := F0 m 13 ls [.int x37]) rfl ?_
    have hP : va_P G.1 vwCl w0 H := hP
    have hD : va_D A w0 := hD
    refine lv_bipush (v := 47) hx hb d15_39_13 (by decide) ?_
    refine lv_icmp_ne (tgt := 22) hx hb d15_39_15 rfl (fun c40 => ?_) (fun c40 => ?_)
    ·
      replace h := (if_neg c40).symm.trans h
      refine lv_iconst (v := 0) hx hb d15_39_22 (by decide) ?_
      have e9 := Option.some.inj h
      subst e5
      have hl := lv_sub hl (l' := [(0, .long a0), (2, .long a1)]) [0, 1] rfl
      exact hj _ _ _ hl hP hD hS
    ·
      replace h := (if_pos c40).symm.trans h
      refine lv_iconst (v := 1) hx hb d15_39_18 (by decide) ?_
      refine lv_goto (tgt := 23) hx hb d15_39_19 rfl ?_
      have e9 := Option.some.inj h
      subst e5
      have hl := lv_sub hl (l' := [(0, .long a0), (2, .long a1)]) [0, 1] rfl
      exact hj _ _ _ hl hP hD hS
def m_token_l1 (a0 : Int64) (a1 : Int64) : Nat → (Int32 × MS) → Option (Int32 × MS)
  | 0, _ => none
  | n9 + 1, e9 => (m_lengthOf a0).bind fun x11 => if x11 ≤ e9.1 then (some (e9.1, e9.2)) else ((m_charOf a0 a1 e9.1).bind fun x15 => if x15 = (47 : Int32) then (some (e9.1, e9.2)) else ((m_charOf a0 a1 e9.1).bind fun x19 => (if x19 = (126 : Int32) then (some (1 : Int32)) else (some (0 : Int32))).bind fun e23 => (if e23 = (0 : Int32) then (some (0 : Int32)) else ((some (e9.1 + 1)).bind fun y40 => (m_charOf a0 a1 y40).bind fun x41 => some x41)).bind fun e26 => (if e23 = (0 : Int32) then (some x19) else (if e26 = (48 : Int32) then (some (126 : Int32)) else (some (47 : Int32)))).bind fun e29 => (m_add e29 e9.2).bind fun st32 => (if e23 = (0 : Int32) then ((some (e9.1 + 1)).bind fun y37 => some y37) else ((some (e9.1 + 2)).bind fun y38 => some y38)).bind fun e35 => m_token_l1 a0 a1 n9 (e35, st32)))
theorem m_token_l1_s (a0 : Int64) (a1 : Int64) (n9 : Nat) (e9 : Int32 × MS) : m_token_l1 a0 a1 (n9 + 1) e9 = ((m_lengthOf a0).bind fun x11 => if x11 ≤ e9.1 then (some (e9.1, e9.2)) else ((m_charOf a0 a1 e9.1).bind fun x15 => if x15 = (47 : Int32) then (some (e9.1, e9.2)) else ((m_charOf a0 a1 e9.1).bind fun x19 => (if x19 = (126 : Int32) then (some (1 : Int32)) else (some (0 : Int32))).bind fun e23 => (if e23 = (0 : Int32) then (some (0 : Int32)) else ((some (e9.1 + 1)).bind fun y40 => (m_charOf a0 a1 y40).bind fun x41 => some x41)).bind fun e26 => (if e23 = (0 : Int32) then (some x19) else (if e26 = (48 : Int32) then (some (126 : Int32)) else (some (47 : Int32)))).bind fun e29 => (m_add e29 e9.2).bind fun st32 => (if e23 = (0 : Int32) then ((some (e9.1 + 1)).bind fun y37 => some y37) else ((some (e9.1 + 2)).bind fun y38 => some y38)).bind fun e35 => m_token_l1 a0 a1 n9 (e35, st32)))) := rfl
def m_token (a0 : Int64) (a1 : Int64) (a2 : Int32) (st : MS) : Option (Int32 × MS) := (m_clear st).bind fun st2 => (some (a2 + 1)).bind fun y4 => (m_token_l1 a0 a1 4096 (y4, st2)).bind fun e5 => some (e5.1, e5.2)
set_option maxHeartbeats 4000000 in
set_option maxRecDepth 100000 in
theorem cm_token (l : Launch) (G : Gk) (Zd : Nat → Nat) (q : Nat → Nat) (a0 : Int64) (a1 : Int64) (a2 : Int32) (st : MS) (r0 : Int32) (st0 : MS) (hm : m_token a0 a1 a2 st = some (r0, st0)) (sz : Nat) : Met l y15_41 (Cond.code y15_41 prog_15_method_41_code 10 (some .int) :: TB) (rmD 2 0 0) (va_Pc [.ref (q 0), .long a0, .long a1, .int a2] (pcW G Zd (wMs q G.2 st) sz)) (qI G (fun rr (_ : Unit) => rr = r0) (fun _ => (wMs q G.2 st0)) (va_A (wMs q G.2 st) sz)) 0 0 (va_A (wMs q G.2 st) sz) := by
  refine go (y := y15_41) (cc := prog_15_method_41_code) (maxL := 10) (ret := (some .int)) (av := [.ref (q 0), .long a0, .long a1, .int a2]) (Qc := qI G (fun rr (_ : Unit) => rr = r0) (fun _ => (wMs q G.2 st0))) "PagedValuesModel" rfl (by decide) (Nat.le_of_ble_eq_true rfl) ?_
  intro p e s m below meth c ls A hx hb hr hlk hml hown hts hin hl hP hD hK hS hA hZ
  have hl : lv_has ls 10 [(0, .ref (q 0)), (1, .long a0), (3, .long a1), (5, .int a2)] := hl
  have h := hm
  clear hm
  refine lv_aload_n hx hb d15_41_0 rfl (lv_at hl 0 rfl) ?_
  obtain ⟨st2, hc, h⟩ := ob h
  refine sV_v (As := []) (rest := []) ⟨hx, hb, hml, hown, hts⟩ (cm_clear l G Zd q st st2 hc _) (kw_V (n := 0) hts k1332 k1329 k15 k1331 ks43 (by decide +kernel) ⟨Nat.le_of_ble_eq_true rfl, Nat.le_of_ble_eq_true rfl⟩) hP hD hK hS hA hZ (va_recv (ci := 13) (q0 := 0) hK hP rfl rfl) rfl hl.1 rfl (Nat.le_of_ble_eq_true rfl) d15_41_1 ⟨Nat.le_of_ble_eq_true rfl, Nat.le_of_ble_eq_true rfl⟩ (fun u9 H locs hp hP hD hS => ?_)
  clear u9
  clear hp
  clear hc
  refine W.eq (g2 := F0 m 4 ls []) rfl ?_
  have hP : va_P G.1 vwCl (wMs q G.2 st2) H := hP
  have hD : va_D A (wMs q G.2 st2) := hD
  refine lv_iload hx hb d15_41_4 (lv_at hl 3 rfl) ?_
  refine lv_iconst (v := 1) hx hb d15_41_6 (by decide) ?_
  refine lv_iadd hx hb d15_41_7 ?_
  obtain ⟨y4, hr, h⟩ := ob h
  refine lv_topi (fun y9 ey => ?_)
  have e9 := ey.trans (Option.some.inj hr)
  clear ey
  subst y9
  clear hr
  refine lv_istore (lv' := [(6, .int y4), (0, .ref (q 0)), (1, .long a0), (3, .long a1), (5, .int a2)]) hx hb d15_41_8 hl (by decide) rfl (fun ls hl => ?_)
  obtain ⟨e5, hX, hrest⟩ := ob h
  clear h
  have hj : ∀ (v9 : Int32) (v10 : MS), e5 = (v9, v10) → ∀ (H : Heap) (locs : List Loc) (ls : Array Slot), lv_has ls 10 [(0, .ref (q 0)), (1, .long a0), (3, .long a1), (5, .int a2), (6, .int v9)] → va_P G.1 vwCl (wMs q G.2 v10) H → va_D A (wMs q G.2 v10) → va_S A s.heap H locs → W p l e (rmD 2 0 0) s m ([.ref (q 0), .long a0, .long a1, .int a2] : List Value).toArray below meth c H locs 0 0 (MQ below (qI G (fun rr (_ : Unit) => rr = r0) (fun _ => (wMs q G.2 st0)) A) ([.ref (q 0), .long a0, .long a1, .int a2] : List Value).toArray s 0 0 A) (F0 m 123 ls []) := by
    intro v9 v10 he H locs ls hl hP hD hS
    subst e5
    have h := hrest
    refine lv_iload hx hb d15_41_123 (lv_at hl 4 rfl) ?_
    cases h
    exact fin_i hx hb hr hlk hS () rfl hP hD (Nat.le_of_ble_eq_true rfl) (Nat.le_of_ble_eq_true rfl) d15_41_125
  have hloop : ∀ (n9 : Nat) (v6 : Int32) (v7 : MS), m_token_l1 a0 a1 n9 (v6, v7) = some e5 → ∀ (H : Heap) (locs : List Loc) (ls : Array Slot), lv_has ls 10 [(0, .ref (q 0)), (1, .long a0), (3, .long a1), (5, .int a2), (6, .int v6)] → va_P G.1 vwCl (wMs q G.2 v7) H → va_D A (wMs q G.2 v7) → va_S A s.heap H locs → W p l e (rmD 2 0 0) s m ([.ref (q 0), .long a0, .long a1, .int a2] : List Value).toArray below meth c H locs 0 0 (MQ below (qI G (fun rr (_ : Unit) => rr = r0) (fun _ => (wMs q G.2 st0)) A) ([.ref (q 0), .long a0, .long a1, .int a2] : List Value).toArray s 0 0 A) (F0 m 10 ls []) := by
    intro n9
    induction n9 with
    | zero =>
      intro v6 v7 h
      cases h
    | succ n9 ih =>
      intro v6 v7 h H locs ls hl hP hD hS
      replace h := (m_token_l1_s a0 a1 n9 (v6, v7)).symm.trans h
      refine lv_iload hx hb d15_41_10 (lv_at hl 4 rfl) ?_
      refine lv_lload_n hx hb d15_41_12 rfl (lv_at hl 1 rfl) ?_
      obtain ⟨x11, hc, h⟩ := ob h
      refine sS_i (As := [.long a0]) (rest := [.int v6]) ⟨hx, hb, hml, hown, hts⟩ (cm_lengthOf l G Zd _ a0 x11 hc _) (kw_S (n := 1) hts k1343 k1341 k15 k1342 (by decide +kernel) ⟨Nat.le_of_ble_eq_true rfl, Nat.le_of_ble_eq_true rfl⟩) hP hD hK hS hA hZ rfl hl.1 rfl (Nat.le_of_ble_eq_true rfl) d15_41_13 ⟨Nat.le_of_ble_eq_true rfl, Nat.le_of_ble_eq_true rfl⟩ (fun rr u9 H locs hp hP hD hS => ?_)
      clear u9
      subst rr
      clear hc
      refine W.eq (g2 := F0 m 16 ls [.int x11, .int v6]) rfl ?_
      have hP : va_P G.1 vwCl (wMs q G.2 v7) H := hP
      have hD : va_D A (wMs q G.2 v7) := hD
      refine lv_icmp_ge (tgt := 123) hx hb d15_41_16 rfl (fun c14 => ?_) (fun c14 => ?_)
      ·
        replace h := (if_pos c14).symm.trans h
        have e9 := Option.some.inj h
        subst e5
        have hl := lv_sub hl (l' := [(0, .ref (q 0)), (1, .long a0), (3, .long a1), (5, .int a2), (6, .int v6)]) [0, 1, 2, 3, 4] rfl
        exact hj _ _ rfl _ _ _ hl hP hD hS
      ·
        replace h := (if_neg c14).symm.trans h
        refine lv_lload_n hx hb d15_41_19 rfl (lv_at hl 1 rfl) ?_
        refine lv_lload_n hx hb d15_41_20 rfl (lv_at hl 2 rfl) ?_
        refine lv_iload hx hb d15_41_21 (lv_at hl 4 rfl) ?_
        obtain ⟨x15, hc, h⟩ := ob h
        refine sS_i (As := [.long a0, .long a1, .int v6]) (rest := []) ⟨hx, hb, hml, hown, hts⟩ (cm_charOf l G Zd _ a0 a1 v6 x15 hc _) (kw_S (n := 3) hts k1466 k1464 k15 k1465 (by decide +kernel) ⟨Nat.le_of_ble_eq_true rfl, Nat.le_of_ble_eq_true rfl⟩) hP hD hK hS hA hZ rfl hl.1 rfl (Nat.le_of_ble_eq_true rfl) d15_41_23 ⟨Nat.le_of_ble_eq_true rfl, Nat.le_of_ble_eq_true rfl⟩ (fun rr u9 H locs hp hP hD hS => ?_)
        clear u9
        subst rr
        clear hc
        refine W.eq (g2 := F0 m 26 ls [.int x15]) rfl ?_
        have hP : va_P G.1 vwCl (wMs q G.2 v7) H := hP
        have hD : va_D A (wMs q G.2 v7) := hD
        refine lv_bipush (v := 47) hx hb d15_41_26 (by decide) ?_
        refine lv_icmp_eq (tgt := 123) hx hb d15_41_28 rfl (fun c18 => ?_) (fun c18 => ?_)
        ·
          replace h := (if_pos c18).symm.trans h
          have e9 := Option.some.inj h
          subst e5
          have hl := lv_sub hl (l' := [(0, .ref (q 0)), (1, .long a0), (3, .long a1), (5, .int a2), (6, .int v6)]) [0, 1, 2, 3, 4] rfl
          exact hj _ _ rfl _ _ _ hl hP hD hS
        ·
          replace h := (if_neg c18).symm.trans h
          refine lv_lload_n hx hb d15_41_31 rfl (lv_at hl 1 rfl) ?_
          refine lv_lload_n hx hb d15_41_32 rfl (lv_at hl 2 rfl) ?_
          refine lv_iload hx hb d15_41_33 (lv_at hl 4 rfl) ?_
          obtain ⟨x19, hc, h⟩ := ob h
          refine sS_i (As := [.long a0, .long a1, .int v6]) (rest := []) ⟨hx, hb, hml, hown, hts⟩ (cm_charOf l G Zd _ a0 a1 v6 x19 hc _) (kw_S (n := 3) hts k1466 k1464 k15 k1465 (by decide +kernel) ⟨Nat.le_of_ble_eq_true rfl, Nat.le_of_ble_eq_true rfl⟩) hP hD hK hS hA hZ rfl hl.1 rfl (Nat.le_of_ble_eq_true rfl) d15_41_35 ⟨Nat.le_of_ble_eq_true rfl, Nat.le_of_ble_eq_true rfl⟩ (fun rr u9 H locs hp hP hD hS => ?_)
          clear u9
          subst rr
          clear hc
          refine W.eq (g2 := F0 m 38 ls [.int x19]) rfl ?_
          have hP : va_P G.1 vwCl (wMs q G.2 v7) H := hP
          have hD : va_D A (wMs q G.2 v7) := hD
          refine lv_istore (lv' := [(7, .int x19), (0, .ref (q 0)), (1, .long a0), (3, .long a1), (5, .int a2), (6, .int v6)]) hx hb d15_41_38 hl (by decide) rfl (fun ls hl => ?_)
          refine lv_iload hx hb d15_41_40 (lv_at hl 0 rfl) ?_
          refine lv_bipush (v := 126) hx hb d15_41_42 (by decide) ?_
          obtain ⟨e23, hX, h⟩ := ob h
          have hj : ∀ (H : Heap) (locs : List Loc) (ls : Array Slot), lv_has ls 10 [(0, .ref (q 0)), (1, .long a0), (3, .long a1), (5, .int a2), (6, .int v6), (7, .int x19)] → va_P G.1 vwCl (wMs q G.2 v7) H → va_D A (wMs q G.2 v7) → va_S A s.heap H locs → W p l e (rmD 2 0 0) s m ([.ref (q 0), .long a0, .long a1, .int a2] : List Value).toArray below meth c H locs 0 0 (MQ below (qI G (fun rr (_ : Unit) => rr = r0) (fun _ => (wMs q G.2 st0)) A) ([.ref (q 0), .long a0, .long a1, .int a2] : List Value).toArray s 0 0 A) (F0 m 52 ls [.int e23]) := by
            intro H locs ls hl hP hD hS
            refine lv_istore (lv' := [(8, .int e23), (0, .ref (q 0)), (1, .long a0), (3, .long a1), (5, .int a2), (6, .int v6), (7, .int x19)]) hx hb d15_41_52 hl (by decide) rfl (fun ls hl => ?_)
            refine lv_iload hx hb d15_41_54 (lv_at hl 0 rfl) ?_
            obtain ⟨e26, hX, h⟩ := ob h
            have hj : ∀ (H : Heap) (locs : List Loc) (ls : Array Slot), lv_has ls 10 [(0, .ref (q 0)), (1, .long a0), (3, .long a1), (5, .int a2), (6, .int v6), (7, .int x19), (8, .int e23)] → va_P G.1 vwCl (wMs q G.2 v7) H → va_D A (wMs q G.2 v7) → va_S A s.heap H locs → W p l e (rmD 2 0 0) s m ([.ref (q 0), .long a0, .long a1, .int a2] : List Value).toArray below meth c H locs 0 0 (MQ below (qI G (fun rr (_ : Unit) => rr = r0) (fun _ => (wMs q G.2 st0)) A) ([.ref (q 0), .long a0, .long a1, .int a2] : List Value).toArray s 0 0 A) (F0 m 72 ls [.int e26]) := by
              intro H locs ls hl hP hD hS
              refine lv_istore (lv' := [(9, .int e26), (0, .ref (q 0)), (1, .long a0), (3, .long a1), (5, .int a2), (6, .int v6), (7, .int x19), (8, .int e23)]) hx hb d15_41_72 hl (by decide) rfl (fun ls hl => ?_)
              refine lv_aload_n hx hb d15_41_74 rfl (lv_at hl 1 rfl) ?_
              refine lv_iload hx hb d15_41_75 (lv_at hl 7 rfl) ?_
              obtain ⟨e29, hX, h⟩ := ob h
              have hj : ∀ (H : Heap) (locs : List Loc) (ls : Array Slot), lv_has ls 10 [(0, .ref (q 0)), (1, .long a0), (3, .long a1), (5, .int a2), (6, .int v6), (7, .int x19), (8, .int e23), (9, .int e26)] → va_P G.1 vwCl (wMs q G.2 v7) H → va_D A (wMs q G.2 v7) → va_S A s.heap H locs → W p l e (rmD 2 0 0) s m ([.ref (q 0), .long a0, .long a1, .int a2] : List Value).toArray below meth c H locs 0 0 (MQ below (qI G (fun rr (_ : Unit) => rr = r0) (fun _ => (wMs q G.2 st0)) A) ([.ref (q 0), .long a0, .long a1, .int a2] : List Value).toArray s 0 0 A) (F0 m 99 ls [.int e29, .ref (q 0)]) := by
                intro H locs ls hl hP hD hS
                obtain ⟨st32, hc, h⟩ := ob h
                refine sV_v (As := [.int e29]) (rest := []) ⟨hx, hb, hml, hown, hts⟩ (cm_add l G Zd q e29 v7 st32 hc _) (kw_V (n := 1) hts k1347 k1344 k15 k1346 ks46 (by decide +kernel) ⟨Nat.le_of_ble_eq_true rfl, Nat.le_of_ble_eq_true rfl⟩) hP hD hK hS hA hZ (va_recv (ci := 13) (q0 := 0) hK hP rfl rfl) rfl hl.1 rfl (Nat.le_of_ble_eq_true rfl) d15_41_99 ⟨Nat.le_of_ble_eq_true rfl, Nat.le_of_ble_eq_true rfl⟩ (fun u9 H locs hp hP hD hS => ?_)
                clear u9
                clear hp
                clear hc
                refine W.eq (g2 := F0 m 102 ls []) rfl ?_
                have hP : va_P G.1 vwCl (wMs q G.2 st32) H := hP
                have hD : va_D A (wMs q G.2 st32) := hD
                refine lv_iload hx hb d15_41_102 (lv_at hl 6 rfl) ?_
                obtain ⟨e35, hX, h⟩ := ob h
                have hj : ∀ (H : Heap) (locs : List Loc) (ls : Array Slot), lv_has ls 10 [(0, .ref (q 0)), (1, .long a0), (3, .long a1), (5, .int a2), (6, .int v6), (7, .int x19), (8, .int e23), (9, .int e26)] → va_P G.1 vwCl (wMs q G.2 st32) H → va_D A (wMs q G.2 st32) → va_S A s.heap H locs → W p l e (rmD 2 0 0) s m ([.ref (q 0), .long a0, .long a1, .int a2] : List Value).toArray below meth c H locs 0 0 (MQ below (qI G (fun rr (_ : Unit) => rr = r0) (fun _ => (wMs q G.2 st0)) A) ([.ref (q 0), .long a0, .long a1, .int a2] : List Value).toArray s 0 0 A) (F0 m 118 ls [.int e35]) := by
                  intro H locs ls hl hP hD hS
                  refine lv_istore (lv' := [(6, .int e35), (0, .ref (q 0)), (1, .long a0), (3, .long a1), (5, .int a2), (7, .int x19), (8, .int e23), (9, .int e26)]) hx hb d15_41_118 hl (by decide) rfl (fun ls hl => ?_)
                  refine lv_goto (tgt := 10) hx hb d15_41_120 rfl ?_
                  have hl := lv_sub hl (l' := [(0, .ref (q 0)), (1, .long a0), (3, .long a1), (5, .int a2), (6, .int e35)]) [1, 2, 3, 4, 0] rfl
                  exact ih _ _ h _ _ _ hl hP hD hS
                clear h
                refine lv_if_eq (tgt := 114) hx hb d15_41_104 rfl (fun c34 => ?_) (fun c34 => ?_)
                ·
                  replace h := (if_pos c34).symm.trans hX
                  refine lv_iload hx hb d15_41_114 (lv_at hl 4 rfl) ?_
                  refine lv_iconst (v := 1) hx hb d15_41_116 (by decide) ?_
                  refine lv_iadd hx hb d15_41_117 ?_
                  obtain ⟨y37, hr, h⟩ := ob h
                  refine lv_topi (fun y9 ey => ?_)
                  have e9 := ey.trans (Option.some.inj hr)
                  clear ey
                  subst y9
                  clear hr
                  have e9 := Option.some.inj h
                  subst e35
                  have hl := lv_sub hl (l' := [(0, .ref (q 0)), (1, .long a0), (3, .long a1), (5, .int a2), (6, .int v6), (7, .int x19), (8, .int e23), (9, .int e26)]) [0, 1, 2, 3, 4, 5, 6, 7] rfl
                  exact hj _ _ _ hl hP hD hS
                ·
                  replace h := (if_neg c34).symm.trans hX
                  refine lv_iload hx hb d15_41_107 (lv_at hl 4 rfl) ?_
                  refine lv_iconst (v := 2) hx hb d15_41_109 (by decide) ?_
                  refine lv_iadd hx hb d15_41_110 ?_
                  obtain ⟨y38, hr, h⟩ := ob h
                  refine lv_topi (fun y9 ey => ?_)
                  have e9 := ey.trans (Option.some.inj hr)
                  clear ey
                  subst y9
                  clear hr
                  refine lv_goto (tgt := 118) hx hb d15_41_111 rfl ?_
                  have e9 := Option.some.inj h
                  subst e35
                  have hl := lv_sub hl (l' := [(0, .ref (q 0)), (1, .long a0), (3, .long a1), (5, .int a2), (6, .int v6), (7, .int x19), (8, .int e23), (9, .int e26)]) [0, 1, 2, 3, 4, 5, 6, 7] rfl
                  exact hj _ _ _ hl hP hD hS
              clear h
              refine lv_if_eq (tgt := 97) hx hb d15_41_77 rfl (fun c28 => ?_) (fun c28 => ?_)
              ·
                replace h := (if_pos c28).symm.trans hX
                refine lv_iload hx hb d15_41_97 (lv_at hl 6 rfl) ?_
                have e9 := Option.some.inj h
                subst e29
                have hl := lv_sub hl (l' := [(0, .ref (q 0)), (1, .long a0), (3, .long a1), (5, .int a2), (6, .int v6), (7, .int x19), (8, .int e23), (9, .int e26)]) [1, 2, 3, 4, 5, 6, 7, 0] rfl
                exact hj _ _ _ hl hP hD hS
              ·
                replace h := (if_neg c28).symm.trans hX
                refine lv_iload hx hb d15_41_80 (lv_at hl 0 rfl) ?_
                refine lv_bipush (v := 48) hx hb d15_41_82 (by decide) ?_
                refine lv_icmp_ne (tgt := 92) hx hb d15_41_84 rfl (fun c39 => ?_) (fun c39 => ?_)
                ·
                  replace h := (if_neg c39).symm.trans h
                  refine lv_bipush (v := 47) hx hb d15_41_92 (by decide) ?_
                  refine lv_goto (tgt := 99) hx hb d15_41_94 rfl ?_
                  have e9 := Option.some.inj h
                  subst e29
                  have hl := lv_sub hl (l' := [(0, .ref (q 0)), (1, .long a0), (3, .long a1), (5, .int a2), (6, .int v6), (7, .int x19), (8, .int e23), (9, .int e26)]) [1, 2, 3, 4, 5, 6, 7, 0] rfl
                  exact hj _ _ _ hl hP hD hS
                ·
                  replace h := (if_pos c39).symm.trans h
                  refine lv_bipush (v := 126) hx hb d15_41_87 (by decide) ?_
                  refine lv_goto (tgt := 99) hx hb d15_41_89 rfl ?_
                  have e9 := Option.some.inj h
                  subst e29
                  have hl := lv_sub hl (l' := [(0, .ref (q 0)), (1, .long a0), (3, .long a1), (5, .int a2), (6, .int v6), (7, .int x19), (8, .int e23), (9, .int e26)]) [1, 2, 3, 4, 5, 6, 7, 0] rfl
                  exact hj _ _ _ hl hP hD hS
            clear h
            refine lv_if_eq (tgt := 71) hx hb d15_41_56 rfl (fun c25 => ?_) (fun c25 => ?_)
            ·
              replace h := (if_pos c25).symm.trans hX
              refine lv_iconst (v := 0) hx hb d15_41_71 (by decide) ?_
              have e9 := Option.some.inj h
              subst e26
              have hl := lv_sub hl (l' := [(0, .ref (q 0)), (1, .long a0), (3, .long a1), (5, .int a2), (6, .int v6), (7, .int x19), (8, .int e23)]) [1, 2, 3, 4, 5, 6, 0] rfl
              exact hj _ _ _ hl hP hD hS
            ·
              replace h := (if_neg c25).symm.trans hX
              refine lv_lload_n hx hb d15_41_59 rfl (lv_at hl 2 rfl) ?_
              refine lv_lload_n hx hb d15_41_60 rfl (lv_at hl 3 rfl) ?_
              refine lv_iload hx hb d15_41_61 (lv_at hl 5 rfl) ?_
              refine lv_iconst (v := 1) hx hb d15_41_63 (by decide) ?_
              refine lv_iadd hx hb d15_41_64 ?_
              obtain ⟨y40, hr, h⟩ := ob h
              refine lv_topi (fun y9 ey => ?_)
              have e9 := ey.trans (Option.some.inj hr)
              clear ey
              subst y9
              clear hr
              obtain ⟨x41, hc, h⟩ := ob h
              refine sS_i (As := [.long a0, .long a1, .int y40]) (rest := []) ⟨hx, hb, hml, hown, hts⟩ (cm_charOf l G Zd _ a0 a1 y40 x41 hc _) (kw_S (n := 3) hts k1466 k1464 k15 k1465 (by decide +kernel) ⟨Nat.le_of_ble_eq_true rfl, Nat.le_of_ble_eq_true rfl⟩) hP hD hK hS hA hZ rfl hl.1 rfl (Nat.le_of_ble_eq_true rfl) d15_41_65 ⟨Nat.le_of_ble_eq_true rfl, Nat.le_of_ble_eq_true rfl⟩ (fun rr u9 H locs hp hP hD hS => ?_)
              clear u9
              subst rr
              clear hc
              refine W.eq (g2 := F0 m 68 ls [.int x41]) rfl ?_
              have hP : va_P G.1 vwCl (wMs q G.2 v7) H := hP
              have hD : va_D A (wMs q G.2 v7) := hD
              refine lv_goto (tgt := 72) hx hb d15_41_68 rfl ?_
              have e9 := Option.some.inj h
              subst e26
              have hl := lv_sub hl (l' := [(0, .ref (q 0)), (1, .long a0), (3, .long a1), (5, .int a2), (6, .int v6), (7, .int x19), (8, .int e23)]) [1, 2, 3, 4, 5, 6, 0] rfl
              exact hj _ _ _ hl hP hD hS
          clear h
          refine lv_icmp_ne (tgt := 51) hx hb d15_41_44 rfl (fun c22 => ?_) (fun c22 => ?_)
          ·
            replace h := (if_neg c22).symm.trans hX
            refine lv_iconst (v := 0) hx hb d15_41_51 (by decide) ?_
            have e9 := Option.some.inj h
            subst e23
            have hl := lv_sub hl (l' := [(0, .ref (q 0)), (1, .long a0), (3, .long a1), (5, .int a2), (6, .int v6), (7, .int x19)]) [1, 2, 3, 4, 5, 0] rfl
            exact hj _ _ _ hl hP hD hS
          ·
            replace h := (if_pos c22).symm.trans hX
            refine lv_iconst (v := 1) hx hb d15_41_47 (by decide) ?_
            refine lv_goto (tgt := 52) hx hb d15_41_48 rfl ?_
            have e9 := Option.some.inj h
            subst e23
            have hl := lv_sub hl (l' := [(0, .ref (q 0)), (1, .long a0), (3, .long a1), (5, .int a2), (6, .int v6), (7, .int x19)]) [1, 2, 3, 4, 5, 0] rfl
            exact hj _ _ _ hl hP hD hS
  have hl := lv_sub hl (l' := [(0, .ref (q 0)), (1, .long a0), (3, .long a1), (5, .int a2), (6, .int y4)]) [1, 2, 3, 4, 0] rfl
  exact hloop _ _ _ hX _ _ _ hl hP hD hS
def m_tokenNumber_l1 (st : MS) (x1 : Int32) : Nat → (Int32 × Int32) → Option ((Int32) ⊕ (Int32 × Int32))
  | 0, _ => none
  | n9 + 1, e9 => if x1 ≤ e9.2 then (some (.inr (e9.1, e9.2))) else ((m_charOf (st.2.1 0) (st.2.1 1) e9.2).bind fun x14 => (m_isDigit x14).bind fun x17 => if x17 = (0 : Int32) then (some (.inl ((-1) : Int32))) else (if e9.2 = (1 : Int32) then (if e9.1 = (0 : Int32) then (some (.inl ((-1) : Int32))) else ((if e9.1 ≤ (99 : Int32) then ((some (10 * e9.1)).bind fun y32 => (some (y32 + x14)).bind fun y33 => (some (y33 - 48)).bind fun y34 => some y34) else (some (999 : Int32))).bind fun e30 => m_tokenNumber_l1 st x1 n9 (e30, e9.2 + 1))) else ((if e9.1 ≤ (99 : Int32) then ((some (10 * e9.1)).bind fun y25 => (some (y25 + x14)).bind fun y26 => (some (y26 - 48)).bind fun y27 => some y27) else (some (999 : Int32))).bind fun e23 => m_tokenNumber_l1 st x1 n9 (e23, e9.2 + 1))))
theorem m_tokenNumber_l1_s (st : MS) (x1 : Int32) (n9 : Nat) (e9 : Int32 × Int32) : m_tokenNumber_l1 st x1 (n9 + 1) e9 = (if x1 ≤ e9.2 then (some (.inr (e9.1, e9.2))) else ((m_charOf (st.2.1 0) (st.2.1 1) e9.2).bind fun x14 => (m_isDigit x14).bind fun x17 => if x17 = (0 : Int32) then (some (.inl ((-1) : Int32))) else (if e9.2 = (1 : Int32) then (if e9.1 = (0 : Int32) then (some (.inl ((-1) : Int32))) else ((if e9.1 ≤ (99 : Int32) then ((some (10 * e9.1)).bind fun y32 => (some (y32 + x14)).bind fun y33 => (some (y33 - 48)).bind fun y34 => some y34) else (some (999 : Int32))).bind fun e30 => m_tokenNumber_l1 st x1 n9 (e30, e9.2 + 1))) else ((if e9.1 ≤ (99 : Int32) then ((some (10 * e9.1)).bind fun y25 => (some (y25 + x14)).bind fun y26 => (some (y26 - 48)).bind fun y27 => some y27) else (some (999 : Int32))).bind fun e23 => m_tokenNumber_l1 st x1 n9 (e23, e9.2 + 1))))) := rfl
def m_tokenNumber (st : MS) : Option (Int32) := (m_lengthOf (st.2.1 0)).bind fun x1 => (m_tokenNumber_l1 st x1 4096 ((0 : Int32), (0 : Int32))).bind fun e4 => match e4 with | .inl o9 => some o9 | .inr e8 => (if x1 = (0 : Int32) then (some ((-1) : Int32)) else (some e8.1)).bind fun e11 => some e11
set_option maxHeartbeats 4000000 in
set_option maxRecDepth 100000 in
theorem cm_tokenNumber (l : Launch) (G : Gk) (Zd : Nat → Nat) (q : Nat → Nat) (st : MS) (r0 : Int32) (hm : m_tokenNumber st = some r0) (sz : Nat) : Met l y15_42 (Cond.code y15_42 prog_15_method_42_code 5 (some .int) :: TB) (rmD 1 0 0) (va_Pc [.ref (q 0)] (pcW G Zd (wMs q G.2 st) sz)) (qI G (fun rr (_ : Unit) => rr = r0) (fun _ => (wMs q G.2 st)) (va_A (wMs q G.2 st) sz)) 0 0 (va_A (wMs q G.2 st) sz) := by
  refine go (y := y15_42) (cc := prog_15_method_42_code) (maxL := 5) (ret := (some .int)) (av := [.ref (q 0)]) (Qc := qI G (fun rr (_ : Unit) => rr = r0) (fun _ => (wMs q G.2 st))) "PagedValuesModel" rfl (by decide) (Nat.le_of_ble_eq_true rfl) ?_
  intro p e s m below meth c ls A hx hb hr hlk hml hown hts hin hl hP hD hK hS hA hZ
  have hl : lv_has ls 5 [(0, .ref (q 0))] := hl
  have h := hm
  clear hm
  refine lv_aload_n hx hb d15_42_0 rfl (lv_at hl 0 rfl) ?_
  refine va_get (D := G.1) (ci := 13) (v := .long (st.2.1 0)) (C := r_13) (T := f_13) (N := 42) (ref := "PagedValuesModel") hx hb hts (fun w h => List.mem_cons_of_mem _ (ly_13 w h)) hown hK hP 0 rfl rfl 11 (by decide) (hts _ (List.mem_cons_of_mem _ k1162)) (fun _ h9 => h9) rfl d15_42_1 ?_
  obtain ⟨x1, hc, h⟩ := ob h
  refine sS_i (As := [.long (st.2.1 0)]) (rest := []) ⟨hx, hb, hml, hown, hts⟩ (cm_lengthOf l G Zd _ (st.2.1 0) x1 hc _) (kw_S (n := 1) hts k1343 k1341 k15 k1342 (by decide +kernel) ⟨Nat.le_of_ble_eq_true rfl, Nat.le_of_ble_eq_true rfl⟩) hP hD hK hS hA hZ rfl hl.1 rfl (Nat.le_of_ble_eq_true rfl) d15_42_4 ⟨Nat.le_of_ble_eq_true rfl, Nat.le_of_ble_eq_true rfl⟩ (fun rr u9 H locs hp hP hD hS => ?_)
  clear u9
  subst rr
  clear hc
  refine W.eq (g2 := F0 m 7 ls [.int x1]) rfl ?_
  have hP : va_P G.1 vwCl (wMs q G.2 st) H := hP
  have hD : va_D A (wMs q G.2 st) := hD
  refine lv_istore_n (lv' := [(1, .int x1), (0, .ref (q 0))]) hx hb d15_42_7 rfl hl (by decide) rfl (fun ls hl => ?_)
  refine lv_iconst (v := 0) hx hb d15_42_8 (by decide) ?_
  refine lv_istore_n (lv' := [(2, .int 0), (1, .int x1), (0, .ref (q 0))]) hx hb d15_42_9 rfl hl (by decide) rfl (fun ls hl => ?_)
  refine lv_iconst (v := 0) hx hb d15_42_10 (by decide) ?_
  refine lv_istore_n (lv' := [(3, .int 0), (2, .int 0), (1, .int x1), (0, .ref (q 0))]) hx hb d15_42_11 rfl hl (by decide) rfl (fun ls hl => ?_)
  obtain ⟨e4, hX, hrest⟩ := ob h
  clear h
  have hj : ∀ (v8 : Int32) (v9 : Int32), e4 = .inr (v8, v9) → ∀ (H : Heap) (locs : List Loc) (ls : Array Slot), lv_has ls 5 [(0, .ref (q 0)), (1, .int x1), (2, .int v8), (3, .int v9)] → va_P G.1 vwCl (wMs q G.2 st) H → va_D A (wMs q G.2 st) → va_S A s.heap H locs → W p l e (rmD 1 0 0) s m ([.ref (q 0)] : List Value).toArray below meth c H locs 0 0 (MQ below (qI G (fun rr (_ : Unit) => rr = r0) (fun _ => (wMs q G.2 st)) A) ([.ref (q 0)] : List Value).toArray s 0 0 A) (F0 m 79 ls []) := by
    intro v8 v9 he H locs ls hl hP hD hS
    subst e4
    have h := hrest
    refine lv_iload_n hx hb d15_42_79 rfl (lv_at hl 1 rfl) ?_
    obtain ⟨e11, hX, h⟩ := ob h
    have hj : ∀ (H : Heap) (locs : List Loc) (ls : Array Slot), lv_has ls 5 [(0, .ref (q 0)), (1, .int x1), (2, .int v8), (3, .int v9)] → va_P G.1 vwCl (wMs q G.2 st) H → va_D A (wMs q G.2 st) → va_S A s.heap H locs → W p l e (rmD 1 0 0) s m ([.ref (q 0)] : List Value).toArray below meth c H locs 0 0 (MQ below (qI G (fun rr (_ : Unit) => rr = r0) (fun _ => (wMs q G.2 st)) A) ([.ref (q 0)] : List Value).toArray s 0 0 A) (F0 m 88 ls [.int e11]) := by
      intro H locs ls hl hP hD hS
      cases h
      exact fin_i hx hb hr hlk hS () rfl hP hD (Nat.le_of_ble_eq_true rfl) (Nat.le_of_ble_eq_true rfl) d15_42_88
    clear h
    refine lv_if_ne (tgt := 87) hx hb d15_42_80 rfl (fun c10 => ?_) (fun c10 => ?_)
    ·
      replace h := (if_neg c10).symm.trans hX
      refine lv_iload_n hx hb d15_42_87 rfl (lv_at hl 2 rfl) ?_
      have e9 := Option.some.inj h
      subst e11
      have hl := lv_sub hl (l' := [(0, .ref (q 0)), (1, .int x1), (2, .int v8), (3, .int v9)]) [0, 1, 2, 3] rfl
      exact hj _ _ _ hl hP hD hS
    ·
      replace h := (if_pos c10).symm.trans hX
      refine lv_iconst (v := (-1)) hx hb d15_42_83 (by decide) ?_
      refine lv_goto (tgt := 88) hx hb d15_42_84 rfl ?_
      have e9 := Option.some.inj h
      subst e11
      have hl := lv_sub hl (l' := [(0, .ref (q 0)), (1, .int x1), (2, .int v8), (3, .int v9)]) [0, 1, 2, 3] rfl
      exact hj _ _ _ hl hP hD hS
  have hloop : ∀ (n9 : Nat) (v5 : Int32) (v6 : Int32), m_tokenNumber_l1 st x1 n9 (v5, v6) = some e4 → ∀ (H : Heap) (locs : List Loc) (ls : Array Slot), lv_has ls 5 [(0, .ref (q 0)), (1, .int x1), (2, .int v5), (3, .int v6)] → va_P G.1 vwCl (wMs q G.2 st) H → va_D A (wMs q G.2 st) → va_S A s.heap H locs → W p l e (rmD 1 0 0) s m ([.ref (q 0)] : List Value).toArray below meth c H locs 0 0 (MQ below (qI G (fun rr (_ : Unit) => rr = r0) (fun _ => (wMs q G.2 st)) A) ([.ref (q 0)] : List Value).toArray s 0 0 A) (F0 m 12 ls []) := by
    intro n9
    induction n9 with
    | zero =>
      intro v5 v6 h
      cases h
    | succ n9 ih =>
      intro v5 v6 h H locs ls hl hP hD hS
      replace h := (m_tokenNumber_l1_s st x1 n9 (v5, v6)).symm.trans h
      refine lv_iload_n hx hb d15_42_12 rfl (lv_at hl 3 rfl) ?_
      refine lv_iload_n hx hb d15_42_13 rfl (lv_at hl 1 rfl) ?_
      refine lv_icmp_ge (tgt := 79) hx hb d15_42_14 rfl (fun c13 => ?_) (fun c13 => ?_)
      ·
        replace h := (if_pos c13).symm.trans h
        have e9 := Option.some.inj h
        subst e4
        have hl := lv_sub hl (l' := [(0, .ref (q 0)), (1, .int x1), (2, .int v5), (3, .int v6)]) [0, 1, 2, 3] rfl
        exact hj _ _ rfl _ _ _ hl hP hD hS
      ·
        replace h := (if_neg c13).symm.trans h
        refine lv_aload_n hx hb d15_42_17 rfl (lv_at hl 0 rfl) ?_
        refine va_get (D := G.1) (ci := 13) (v := .long (st.2.1 0)) (C := r_13) (T := f_13) (N := 42) (ref := "PagedValuesModel") hx hb hts (fun w h => List.mem_cons_of_mem _ (ly_13 w h)) hown hK hP 0 rfl rfl 11 (by decide) (hts _ (List.mem_cons_of_mem _ k1162)) (fun _ h9 => h9) rfl d15_42_18 ?_
        refine lv_aload_n hx hb d15_42_21 rfl (lv_at hl 0 rfl) ?_
        refine va_get (D := G.1) (ci := 13) (v := .long (st.2.1 1)) (C := r_13) (T := f_13) (N := 42) (ref := "PagedValuesModel") hx hb hts (fun w h => List.mem_cons_of_mem _ (ly_13 w h)) hown hK hP 0 rfl rfl 12 (by decide) (hts _ (List.mem_cons_of_mem _ k1163)) (fun _ h9 => h9) rfl d15_42_22 ?_
        refine lv_iload_n hx hb d15_42_25 rfl (lv_at hl 3 rfl) ?_
        obtain ⟨x14, hc, h⟩ := ob h
        refine sS_i (As := [.long (st.2.1 0), .long (st.2.1 1), .int v6]) (rest := []) ⟨hx, hb, hml, hown, hts⟩ (cm_charOf l G Zd _ (st.2.1 0) (st.2.1 1) v6 x14 hc _) (kw_S (n := 3) hts k1466 k1464 k15 k1465 (by decide +kernel) ⟨Nat.le_of_ble_eq_true rfl, Nat.le_of_ble_eq_true rfl⟩) hP hD hK hS hA hZ rfl hl.1 rfl (Nat.le_of_ble_eq_true rfl) d15_42_26 ⟨Nat.le_of_ble_eq_true rfl, Nat.le_of_ble_eq_true rfl⟩ (fun rr u9 H locs hp hP hD hS => ?_)
        clear u9
        subst rr
        clear hc
        refine W.eq (g2 := F0 m 29 ls [.int x14]) rfl ?_
        have hP : va_P G.1 vwCl (wMs q G.2 st) H := hP
        have hD : va_D A (wMs q G.2 st) := hD
        refine lv_istore (lv' := [(4, .int x14), (0, .ref (q 0)), (1, .int x1), (2, .int v5), (3, .int v6)]) hx hb d15_42_29 hl (by decide) rfl (fun ls hl => ?_)
        refine lv_iload hx hb d15_42_31 (lv_at hl 0 rfl) ?_
        obtain ⟨x17, hc, h⟩ := ob h
        refine sS_i (As := [.int x14]) (rest := []) ⟨hx, hb, hml, hown, hts⟩ (cm_isDigit l G Zd _ x14 x17 hc _) (kw_S (n := 1) hts k1351 k1349 k15 k1350 (by decide +kernel) ⟨Nat.le_of_ble_eq_true rfl, Nat.le_of_ble_eq_true rfl⟩) hP hD hK hS hA hZ rfl hl.1 rfl (Nat.le_of_ble_eq_true rfl) d15_42_33 ⟨Nat.le_of_ble_eq_true rfl, Nat.le_of_ble_eq_true rfl⟩ (fun rr u9 H locs hp hP hD hS => ?_)
        clear u9
        subst rr
        clear hc
        refine W.eq (g2 := F0 m 36 ls [.int x17]) rfl ?_
        have hP : va_P G.1 vwCl (wMs q G.2 st) H := hP
        have hD : va_D A (wMs q G.2 st) := hD
        refine lv_if_eq (tgt := 48) hx hb d15_42_36 rfl (fun c20 => ?_) (fun c20 => ?_)
        ·
          replace h := (if_pos c20).symm.trans h
          refine lv_iconst (v := (-1)) hx hb d15_42_48 (by decide) ?_
          cases h
          cases hrest
          exact fin_i hx hb hr hlk hS () rfl hP hD (Nat.le_of_ble_eq_true rfl) (Nat.le_of_ble_eq_true rfl) d15_42_49
        ·
          replace h := (if_neg c20).symm.trans h
          refine lv_iload_n hx hb d15_42_39 rfl (lv_at hl 4 rfl) ?_
          refine lv_iconst (v := 1) hx hb d15_42_40 (by decide) ?_
          refine lv_icmp_ne (tgt := 50) hx hb d15_42_41 rfl (fun c21 => ?_) (fun c21 => ?_)
          ·
            replace h := (if_neg c21).symm.trans h
            refine lv_iload_n hx hb d15_42_50 rfl (lv_at hl 3 rfl) ?_
            refine lv_bipush (v := 99) hx hb d15_42_51 (by decide) ?_
            obtain ⟨e23, hX, h⟩ := ob h
            have hj : ∀ (H : Heap) (locs : List Loc) (ls : Array Slot), lv_has ls 5 [(0, .ref (q 0)), (1, .int x1), (2, .int v5), (3, .int v6), (4, .int x14)] → va_P G.1 vwCl (wMs q G.2 st) H → va_D A (wMs q G.2 st) → va_S A s.heap H locs → W p l e (rmD 1 0 0) s m ([.ref (q 0)] : List Value).toArray below meth c H locs 0 0 (MQ below (qI G (fun rr (_ : Unit) => rr = r0) (fun _ => (wMs q G.2 st)) A) ([.ref (q 0)] : List Value).toArray s 0 0 A) (F0 m 72 ls [.int e23]) := by
              intro H locs ls hl hP hD hS
              refine lv_istore_n (lv' := [(2, .int e23), (0, .ref (q 0)), (1, .int x1), (3, .int v6), (4, .int x14)]) hx hb d15_42_72 rfl hl (by decide) rfl (fun ls hl => ?_)
              refine lv_iinc (k := 3) (v := v6 + 1) (lv' := [(3, .int (v6 + 1)), (2, .int e23), (0, .ref (q 0)), (1, .int x1), (4, .int x14)]) hx hb d15_42_73 hl rfl (by first | decide | rfl) (by decide) rfl (fun ls hl => ?_)
              refine lv_goto (tgt := 12) hx hb d15_42_76 rfl ?_
              have hl := lv_sub hl (l' := [(0, .ref (q 0)), (1, .int x1), (2, .int e23), (3, .int (v6 + 1))]) [2, 3, 1, 0] rfl
              exact ih _ _ h _ _ _ hl hP hD hS
            clear h
            refine lv_icmp_le (tgt := 62) hx hb d15_42_53 rfl (fun c22 => ?_) (fun c22 => ?_)
            ·
              replace h := (if_pos c22).symm.trans hX
              refine lv_bipush (v := 10) hx hb d15_42_62 (by decide) ?_
              refine lv_iload_n hx hb d15_42_64 rfl (lv_at hl 3 rfl) ?_
              refine lv_imul hx hb d15_42_65 ?_
              obtain ⟨y25, hr, h⟩ := ob h
              refine lv_topi (fun y9 ey => ?_)
              have e9 := ey.trans (Option.some.inj hr)
              clear ey
              subst y9
              clear hr
              refine lv_iload hx hb d15_42_66 (lv_at hl 0 rfl) ?_
              refine lv_iadd hx hb d15_42_68 ?_
              obtain ⟨y26, hr, h⟩ := ob h
              refine lv_topi (fun y9 ey => ?_)
              have e9 := ey.trans (Option.some.inj hr)
              clear ey
              subst y9
              clear hr
              refine lv_bipush (v := 48) hx hb d15_42_69 (by decide) ?_
              refine lv_isub hx hb d15_42_71 ?_
              obtain ⟨y27, hr, h⟩ := ob h
              refine lv_topi (fun y9 ey => ?_)
              have e9 := ey.trans (Option.some.inj hr)
              clear ey
              subst y9
              clear hr
              have e9 := Option.some.inj h
              subst e23
              have hl := lv_sub hl (l' := [(0, .ref (q 0)), (1, .int x1), (2, .int v5), (3, .int v6), (4, .int x14)]) [1, 2, 3, 4, 0] rfl
              exact hj _ _ _ hl hP hD hS
            ·
              replace h := (if_neg c22).symm.trans hX
              refine lv_sipush (v := 999) hx hb d15_42_56 (by decide) ?_
              refine lv_goto (tgt := 72) hx hb d15_42_59 rfl ?_
              have e9 := Option.some.inj h
              subst e23
              have hl := lv_sub hl (l' := [(0, .ref (q 0)), (1, .int x1), (2, .int v5), (3, .int v6), (4, .int x14)]) [1, 2, 3, 4, 0] rfl
              exact hj _ _ _ hl hP hD hS
          ·
            replace h := (if_pos c21).symm.trans h
            refine lv_iload_n hx hb d15_42_44 rfl (lv_at hl 3 rfl) ?_
            refine lv_if_ne (tgt := 50) hx hb d15_42_45 rfl (fun c28 => ?_) (fun c28 => ?_)
            ·
              replace h := (if_neg c28).symm.trans h
              refine lv_iload_n hx hb d15_42_50 rfl (lv_at hl 3 rfl) ?_
              refine lv_bipush (v := 99) hx hb d15_42_51 (by decide) ?_
              obtain ⟨e30, hX, h⟩ := ob h
              have hj : ∀ (H : Heap) (locs : List Loc) (ls : Array Slot), lv_has ls 5 [(0, .ref (q 0)), (1, .int x1), (2, .int v5), (3, .int v6), (4, .int x14)] → va_P G.1 vwCl (wMs q G.2 st) H → va_D A (wMs q G.2 st) → va_S A s.heap H locs → W p l e (rmD 1 0 0) s m ([.ref (q 0)] : List Value).toArray below meth c H locs 0 0 (MQ below (qI G (fun rr (_ : Unit) => rr = r0) (fun _ => (wMs q G.2 st)) A) ([.ref (q 0)] : List Value).toArray s 0 0 A) (F0 m 72 ls [.int e30]) := by
                intro H locs ls hl hP hD hS
                refine lv_istore_n (lv' := [(2, .int e30), (0, .ref (q 0)), (1, .int x1), (3, .int v6), (4, .int x14)]) hx hb d15_42_72 rfl hl (by decide) rfl (fun ls hl => ?_)
                refine lv_iinc (k := 3) (v := v6 + 1) (lv' := [(3, .int (v6 + 1)), (2, .int e30), (0, .ref (q 0)), (1, .int x1), (4, .int x14)]) hx hb d15_42_73 hl rfl (by first | decide | rfl) (by decide) rfl (fun ls hl => ?_)
                refine lv_goto (tgt := 12) hx hb d15_42_76 rfl ?_
                have hl := lv_sub hl (l' := [(0, .ref (q 0)), (1, .int x1), (2, .int e30), (3, .int (v6 + 1))]) [2, 3, 1, 0] rfl
                exact ih _ _ h _ _ _ hl hP hD hS
              clear h
              refine lv_icmp_le (tgt := 62) hx hb d15_42_53 rfl (fun c29 => ?_) (fun c29 => ?_)
              ·
                replace h := (if_pos c29).symm.trans hX
                refine lv_bipush (v := 10) hx hb d15_42_62 (by decide) ?_
                refine lv_iload_n hx hb d15_42_64 rfl (lv_at hl 3 rfl) ?_
                refine lv_imul hx hb d15_42_65 ?_
                obtain ⟨y32, hr, h⟩ := ob h
                refine lv_topi (fun y9 ey => ?_)
                have e9 := ey.trans (Option.some.inj hr)
                clear ey
                subst y9
                clear hr
                refine lv_iload hx hb d15_42_66 (lv_at hl 0 rfl) ?_
                refine lv_iadd hx hb d15_42_68 ?_
                obtain ⟨y33, hr, h⟩ := ob h
                refine lv_topi (fun y9 ey => ?_)
                have e9 := ey.trans (Option.some.inj hr)
                clear ey
                subst y9
                clear hr
                refine lv_bipush (v := 48) hx hb d15_42_69 (by decide) ?_
                refine lv_isub hx hb d15_42_71 ?_
                obtain ⟨y34, hr, h⟩ := ob h
                refine lv_topi (fun y9 ey => ?_)
                have e9 := ey.trans (Option.some.inj hr)
                clear ey
                subst y9
                clear hr
                have e9 := Option.some.inj h
                subst e30
                have hl := lv_sub hl (l' := [(0, .ref (q 0)), (1, .int x1), (2, .int v5), (3, .int v6), (4, .int x14)]) [1, 2, 3, 4, 0] rfl
                exact hj _ _ _ hl hP hD hS
              ·
                replace h := (if_neg c29).symm.trans hX
                refine lv_sipush (v := 999) hx hb d15_42_56 (by decide) ?_
                refine lv_goto (tgt := 72) hx hb d15_42_59 rfl ?_
                have e9 := Option.some.inj h
                subst e30
                have hl := lv_sub hl (l' := [(0, .ref (q 0)), (1, .int x1), (2, .int v5), (3, .int v6), (4, .int x14)]) [1, 2, 3, 4, 0] rfl
                exact hj _ _ _ hl hP hD hS
            ·
              replace h := (if_pos c28).symm.trans h
              refine lv_iconst (v := (-1)) hx hb d15_42_48 (by decide) ?_
              cases h
              cases hrest
              exact fin_i hx hb hr hlk hS () rfl hP hD (Nat.le_of_ble_eq_true rfl) (Nat.le_of_ble_eq_true rfl) d15_42_49
  have hl := lv_sub hl (l' := [(0, .ref (q 0)), (1, .int x1), (2, .int 0), (3, .int 0)]) [3, 2, 1, 0] rfl
  exact hloop _ _ _ hX _ _ _ hl hP hD hS
