def m_memberName (st : MS) : Option (MS) := (m_string st).bind fun st2 => (m_at (80 : Int32)).bind fun x4 => (some ((st2.1 4) - 1)).bind fun y7 => (rd (st2.2.2.1 3) 5 y7).bind fun x8 => (some (x4 + x8)).bind fun y9 => (some ((st2.1 4) - 1)).bind fun y10 => (rd (st2.2.2.1 3) 5 y10).bind fun x11 => (some ((st2.1 3) - x11)).bind fun y12 => (some y12.toInt8.toInt32).bind fun y13 => (ix 2100 y9).bind fun k14z => (some (vp_nar .byte y13)).bind fun y15 => (if (0 : Int32) ≤ (st2.1 2) then (some (st2.1, st2.2.1, va_up st2.2.2.1 2 (upd (st2.2.2.1 2) k14z y15), st2.2.2.2)) else ((m_member y9 (st2.2.1 0) (st2.2.1 1) (st2.1, st2.2.1, va_up st2.2.2.1 2 (upd (st2.2.2.1 2) k14z y15), st2.2.2.2)).bind fun x31 => if x31 < (0 : Int32) then (some (st2.1, st2.2.1, va_up st2.2.2.1 2 (upd (st2.2.2.1 2) k14z y15), st2.2.2.2)) else (some (upd st2.1 2 (st.1 1), st2.2.1, va_up st2.2.2.1 2 (upd (st2.2.2.1 2) k14z y15), st2.2.2.2)))).bind fun e17 => (m_named (e17.2.1 0) (e17.2.1 1) e17).bind fun st20 => (m_blanks st20).bind fun st23 => (m_must (58 : Int32) st23).bind fun st26 => (m_blanks st26).bind fun st29 => some st29
set_option maxHeartbeats 4000000 in
set_option maxRecDepth 100000 in
theorem cm_memberName (l : Launch) (G : Gk) (Zd : Nat → Nat) (q : Nat → Nat) (st : MS) (st0 : MS) (hm : m_memberName st = some st0) (sz : Nat) : Met l y15_24 (Cond.code y15_24 prog_15_method_24_code 3 none :: TB) (rmD 4 0 0) (va_Pc [.ref (q 0)] (pcW G Zd (wMs q G.2 st) sz)) (qV G (fun (_ : Unit) => True) (fun _ => (wMs q G.2 st0)) (va_A (wMs q G.2 st) sz)) 0 0 (va_A (wMs q G.2 st) sz) := by
  refine go (y := y15_24) (cc := prog_15_method_24_code) (maxL := 3) (ret := none) (av := [.ref (q 0)]) (Qc := qV G (fun (_ : Unit) => True) (fun _ => (wMs q G.2 st0))) "PagedValuesModel" rfl (by decide) (Nat.le_of_ble_eq_true rfl) ?_
  intro p e s m below meth c ls A hx hb hr hlk hml hown hts hin hl hP hD hK hS hA hZ
  have hl : lv_has ls 3 [(0, .ref (q 0))] := hl
  have h := hm
  clear hm
  refine lv_aload_n hx hb d15_24_0 rfl (lv_at hl 0 rfl) ?_
  refine va_get (D := G.1) (ci := 13) (v := .int (st.1 1)) (C := r_13) (T := f_13) (N := 42) (ref := "PagedValuesModel") hx hb hts (fun w h => List.mem_cons_of_mem _ (ly_13 w h)) hown hK hP 0 rfl rfl 2 (by decide) (hts _ (List.mem_cons_of_mem _ k1153)) (fun _ h9 => h9) rfl d15_24_1 ?_
  refine lv_istore_n (lv' := [(1, .int (st.1 1)), (0, .ref (q 0))]) hx hb d15_24_4 rfl hl (by decide) rfl (fun ls hl => ?_)
  refine lv_aload_n hx hb d15_24_5 rfl (lv_at hl 1 rfl) ?_
  obtain ⟨st2, hc, h⟩ := ob h
  refine sV_v (As := []) (rest := []) ⟨hx, hb, hml, hown, hts⟩ (cm_string l G Zd q st st2 hc _) (kw_V (n := 0) hts k1328 k1325 k15 k1327 ks42 (by decide +kernel) ⟨Nat.le_of_ble_eq_true rfl, Nat.le_of_ble_eq_true rfl⟩) hP hD hK hS hA hZ (va_recv (ci := 13) (q0 := 0) hK hP rfl rfl) rfl hl.1 rfl (Nat.le_of_ble_eq_true rfl) d15_24_6 ⟨Nat.le_of_ble_eq_true rfl, Nat.le_of_ble_eq_true rfl⟩ (fun u9 H locs hp hP hD hS => ?_)
  clear u9
  clear hp
  clear hc
  refine W.eq (g2 := F0 m 9 ls []) rfl ?_
  have hP : va_P G.1 vwCl (wMs q G.2 st2) H := hP
  have hD : va_D A (wMs q G.2 st2) := hD
  refine lv_bipush (v := 80) hx hb d15_24_9 (by decide) ?_
  obtain ⟨x4, hc, h⟩ := ob h
  refine sS_i (As := [.int 80]) (rest := []) ⟨hx, hb, hml, hown, hts⟩ (cm_at l G Zd _ (80 : Int32) x4 hc _) (kw_S (n := 1) hts k1312 k1310 k15 k1311 (by decide +kernel) ⟨Nat.le_of_ble_eq_true rfl, Nat.le_of_ble_eq_true rfl⟩) hP hD hK hS hA hZ rfl hl.1 rfl (Nat.le_of_ble_eq_true rfl) d15_24_11 ⟨Nat.le_of_ble_eq_true rfl, Nat.le_of_ble_eq_true rfl⟩ (fun rr u9 H locs hp hP hD hS => ?_)
  clear u9
  subst rr
  clear hc
  refine W.eq (g2 := F0 m 14 ls [.int x4]) rfl ?_
  have hP : va_P G.1 vwCl (wMs q G.2 st2) H := hP
  have hD : va_D A (wMs q G.2 st2) := hD
  refine lv_aload_n hx hb d15_24_14 rfl (lv_at hl 1 rfl) ?_
  refine va_get (D := G.1) (ci := 13) (v := .ref (q 8)) (C := r_13) (T := f_13) (N := 42) (ref := "PagedValuesModel") hx hb hts (fun w h => List.mem_cons_of_mem _ (ly_13 w h)) hown hK hP 0 rfl rfl 14 (by decide) (hts _ (List.mem_cons_of_mem _ k1165)) (fun _ h9 => h9) rfl d15_24_15 ?_
  refine lv_aload_n hx hb d15_24_18 rfl (lv_at hl 1 rfl) ?_
  refine va_get (D := G.1) (ci := 13) (v := .int (st2.1 4)) (C := r_13) (T := f_13) (N := 42) (ref := "PagedValuesModel") hx hb hts (fun w h => List.mem_cons_of_mem _ (ly_13 w h)) hown hK hP 0 rfl rfl 13 (by decide) (hts _ (List.mem_cons_of_mem _ k1164)) (fun _ h9 => h9) rfl d15_24_19 ?_
  refine lv_iconst (v := 1) hx hb d15_24_22 (by decide) ?_
  refine lv_isub hx hb d15_24_23 ?_
  obtain ⟨y7, hr, h⟩ := ob h
  refine lv_topi (fun y9 ey => ?_)
  have e9 := ey.trans (Option.some.inj hr)
  clear ey
  subst y9
  clear hr
  obtain ⟨x8, hr, h⟩ := ob h
  obtain ⟨hi, hv⟩ := rd_some hr
  refine va_iald (D := G.1) hx hb hK hP 8 1 rfl rfl (i := y7) hi d15_24_24 ?_
  refine lv_topi (fun y9 ey => ?_)
  have e9 := ey.trans hv
  clear ey
  subst y9
  clear hv hi hr
  refine lv_iadd hx hb d15_24_25 ?_
  obtain ⟨y9, hr, h⟩ := ob h
  refine lv_topi (fun y9 ey => ?_)
  have e9 := ey.trans (Option.some.inj hr)
  clear ey
  subst y9
  clear hr
  refine lv_istore_n (lv' := [(2, .int y9), (1, .int (st.1 1)), (0, .ref (q 0))]) hx hb d15_24_26 rfl hl (by decide) rfl (fun ls hl => ?_)
  refine lv_aload_n hx hb d15_24_27 rfl (lv_at hl 2 rfl) ?_
  refine va_get (D := G.1) (ci := 13) (v := .ref (q 3)) (C := r_13) (T := f_13) (N := 42) (ref := "PagedValuesModel") hx hb hts (fun w h => List.mem_cons_of_mem _ (ly_13 w h)) hown hK hP 0 rfl rfl 5 (by decide) (hts _ (List.mem_cons_of_mem _ k1156)) (fun _ h9 => h9) rfl d15_24_28 ?_
  refine lv_iload_n hx hb d15_24_31 rfl (lv_at hl 0 rfl) ?_
  refine lv_aload_n hx hb d15_24_32 rfl (lv_at hl 2 rfl) ?_
  refine va_get (D := G.1) (ci := 13) (v := .int (st2.1 3)) (C := r_13) (T := f_13) (N := 42) (ref := "PagedValuesModel") hx hb hts (fun w h => List.mem_cons_of_mem _ (ly_13 w h)) hown hK hP 0 rfl rfl 10 (by decide) (hts _ (List.mem_cons_of_mem _ k1161)) (fun _ h9 => h9) rfl d15_24_33 ?_
  refine lv_aload_n hx hb d15_24_36 rfl (lv_at hl 2 rfl) ?_
  refine va_get (D := G.1) (ci := 13) (v := .ref (q 8)) (C := r_13) (T := f_13) (N := 42) (ref := "PagedValuesModel") hx hb hts (fun w h => List.mem_cons_of_mem _ (ly_13 w h)) hown hK hP 0 rfl rfl 14 (by decide) (hts _ (List.mem_cons_of_mem _ k1165)) (fun _ h9 => h9) rfl d15_24_37 ?_
  refine lv_aload_n hx hb d15_24_40 rfl (lv_at hl 2 rfl) ?_
  refine va_get (D := G.1) (ci := 13) (v := .int (st2.1 4)) (C := r_13) (T := f_13) (N := 42) (ref := "PagedValuesModel") hx hb hts (fun w h => List.mem_cons_of_mem _ (ly_13 w h)) hown hK hP 0 rfl rfl 13 (by decide) (hts _ (List.mem_cons_of_mem _ k1164)) (fun _ h9 => h9) rfl d15_24_41 ?_
  refine lv_iconst (v := 1) hx hb d15_24_44 (by decide) ?_
  refine lv_isub hx hb d15_24_45 ?_
  obtain ⟨y10, hr, h⟩ := ob h
  refine lv_topi (fun y9 ey => ?_)
  have e9 := ey.trans (Option.some.inj hr)
  clear ey
  subst y9
  clear hr
  obtain ⟨x11, hr, h⟩ := ob h
  obtain ⟨hi, hv⟩ := rd_some hr
  refine va_iald (D := G.1) hx hb hK hP 8 1 rfl rfl (i := y10) hi d15_24_46 ?_
  refine lv_topi (fun y9 ey => ?_)
  have e9 := ey.trans hv
  clear ey
  subst y9
  clear hv hi hr
  refine lv_isub hx hb d15_24_47 ?_
  obtain ⟨y12, hr, h⟩ := ob h
  refine lv_topi (fun y9 ey => ?_)
  have e9 := ey.trans (Option.some.inj hr)
  clear ey
  subst y9
  clear hr
  refine lv_i2b hx hb d15_24_48 rfl ?_
  obtain ⟨y13, hr, h⟩ := ob h
  refine lv_topi (fun y9 ey => ?_)
  have e9 := ey.trans (Option.some.inj hr)
  clear ey
  subst y9
  clear hr
  obtain ⟨k14z, hr, h⟩ := ob h
  obtain ⟨hi, hk⟩ := ix_some hr
  clear hr
  refine va_bast (D := G.1) hx hb hK hP hD hS 3 2 rfl rfl (i := y9) (x := y13) hi d15_24_49 (fun H locs hP hD hS => ?_)
  rw [hk] at hP hD
  clear hk hi
  obtain ⟨y15, hr, h⟩ := ob h
  rw [Option.some.inj hr] at hP hD
  clear hr
  have hP : va_P G.1 vwCl (wMs q G.2 (st2.1, st2.2.1, va_up st2.2.2.1 2 (upd (st2.2.2.1 2) k14z y15), st2.2.2.2)) H := hP
  have hD : va_D A (wMs q G.2 (st2.1, st2.2.1, va_up st2.2.2.1 2 (upd (st2.2.2.1 2) k14z y15), st2.2.2.2)) := hD
  refine lv_aload_n hx hb d15_24_50 rfl (lv_at hl 2 rfl) ?_
  refine va_get (D := G.1) (ci := 13) (v := .int (st2.1 2)) (C := r_13) (T := f_13) (N := 42) (ref := "PagedValuesModel") hx hb hts (fun w h => List.mem_cons_of_mem _ (ly_13 w h)) hown hK hP 0 rfl rfl 3 (by decide) (hts _ (List.mem_cons_of_mem _ k1154)) (fun _ h9 => h9) rfl d15_24_51 ?_
  obtain ⟨e17, hX, h⟩ := ob h
  have hj : ∀ (H : Heap) (locs : List Loc) (ls : Array Slot), lv_has ls 3 [(0, .ref (q 0)), (1, .int (st.1 1)), (2, .int y9)] → va_P G.1 vwCl (wMs q G.2 e17) H → va_D A (wMs q G.2 e17) → va_S A s.heap H locs → W p l e (rmD 4 0 0) s m ([.ref (q 0)] : List Value).toArray below meth c H locs 0 0 (MQ below (qV G (fun (_ : Unit) => True) (fun _ => (wMs q G.2 st0)) A) ([.ref (q 0)] : List Value).toArray s 0 0 A) (F0 m 78 ls []) := by
    intro H locs ls hl hP hD hS
    refine lv_aload_n hx hb d15_24_78 rfl (lv_at hl 0 rfl) ?_
    refine lv_aload_n hx hb d15_24_79 rfl (lv_at hl 0 rfl) ?_
    refine va_get (D := G.1) (ci := 13) (v := .long (e17.2.1 0)) (C := r_13) (T := f_13) (N := 42) (ref := "PagedValuesModel") hx hb hts (fun w h => List.mem_cons_of_mem _ (ly_13 w h)) hown hK hP 0 rfl rfl 11 (by decide) (hts _ (List.mem_cons_of_mem _ k1162)) (fun _ h9 => h9) rfl d15_24_80 ?_
    refine lv_aload_n hx hb d15_24_83 rfl (lv_at hl 0 rfl) ?_
    refine va_get (D := G.1) (ci := 13) (v := .long (e17.2.1 1)) (C := r_13) (T := f_13) (N := 42) (ref := "PagedValuesModel") hx hb hts (fun w h => List.mem_cons_of_mem _ (ly_13 w h)) hown hK hP 0 rfl rfl 12 (by decide) (hts _ (List.mem_cons_of_mem _ k1163)) (fun _ h9 => h9) rfl d15_24_84 ?_
    obtain ⟨st20, hc, h⟩ := ob h
    refine sV_v (As := [.long (e17.2.1 0), .long (e17.2.1 1)]) (rest := []) ⟨hx, hb, hml, hown, hts⟩ (cm_named l G Zd q (e17.2.1 0) (e17.2.1 1) e17 st20 hc _) (kw_V (n := 2) hts k1309 k1306 k15 k1308 ks38 (by decide +kernel) ⟨Nat.le_of_ble_eq_true rfl, Nat.le_of_ble_eq_true rfl⟩) hP hD hK hS hA hZ (va_recv (ci := 13) (q0 := 0) hK hP rfl rfl) rfl hl.1 rfl (Nat.le_of_ble_eq_true rfl) d15_24_87 ⟨Nat.le_of_ble_eq_true rfl, Nat.le_of_ble_eq_true rfl⟩ (fun u9 H locs hp hP hD hS => ?_)
    clear u9
    clear hp
    clear hc
    refine W.eq (g2 := F0 m 90 ls []) rfl ?_
    have hP : va_P G.1 vwCl (wMs q G.2 st20) H := hP
    have hD : va_D A (wMs q G.2 st20) := hD
    refine lv_aload_n hx hb d15_24_90 rfl (lv_at hl 0 rfl) ?_
    obtain ⟨st23, hc, h⟩ := ob h
    refine sV_v (As := []) (rest := []) ⟨hx, hb, hml, hown, hts⟩ (cm_blanks l G Zd q st20 st23 hc _) (kw_V (n := 0) hts k1297 k1294 k15 k1296 ks35 (by decide +kernel) ⟨Nat.le_of_ble_eq_true rfl, Nat.le_of_ble_eq_true rfl⟩) hP hD hK hS hA hZ (va_recv (ci := 13) (q0 := 0) hK hP rfl rfl) rfl hl.1 rfl (Nat.le_of_ble_eq_true rfl) d15_24_91 ⟨Nat.le_of_ble_eq_true rfl, Nat.le_of_ble_eq_true rfl⟩ (fun u9 H locs hp hP hD hS => ?_)
    clear u9
    clear hp
    clear hc
    refine W.eq (g2 := F0 m 94 ls []) rfl ?_
    have hP : va_P G.1 vwCl (wMs q G.2 st23) H := hP
    have hD : va_D A (wMs q G.2 st23) := hD
    refine lv_aload_n hx hb d15_24_94 rfl (lv_at hl 0 rfl) ?_
    refine lv_bipush (v := 58) hx hb d15_24_95 (by decide) ?_
    obtain ⟨st26, hc, h⟩ := ob h
    refine sV_v (As := [.int 58]) (rest := []) ⟨hx, hb, hml, hown, hts⟩ (cm_must l G Zd q (58 : Int32) st23 st26 hc _) (kw_V (n := 1) hts k1336 k1333 k15 k1335 ks44 (by decide +kernel) ⟨Nat.le_of_ble_eq_true rfl, Nat.le_of_ble_eq_true rfl⟩) hP hD hK hS hA hZ (va_recv (ci := 13) (q0 := 0) hK hP rfl rfl) rfl hl.1 rfl (Nat.le_of_ble_eq_true rfl) d15_24_97 ⟨Nat.le_of_ble_eq_true rfl, Nat.le_of_ble_eq_true rfl⟩ (fun u9 H locs hp hP hD hS => ?_)
    clear u9
    clear hp
    clear hc
    refine W.eq (g2 := F0 m 100 ls []) rfl ?_
    have hP : va_P G.1 vwCl (wMs q G.2 st26) H := hP
    have hD : va_D A (wMs q G.2 st26) := hD
    refine lv_aload_n hx hb d15_24_100 rfl (lv_at hl 0 rfl) ?_
    obtain ⟨st29, hc, h⟩ := ob h
    refine sV_v (As := []) (rest := []) ⟨hx, hb, hml, hown, hts⟩ (cm_blanks l G Zd q st26 st29 hc _) (kw_V (n := 0) hts k1297 k1294 k15 k1296 ks35 (by decide +kernel) ⟨Nat.le_of_ble_eq_true rfl, Nat.le_of_ble_eq_true rfl⟩) hP hD hK hS hA hZ (va_recv (ci := 13) (q0 := 0) hK hP rfl rfl) rfl hl.1 rfl (Nat.le_of_ble_eq_true rfl) d15_24_101 ⟨Nat.le_of_ble_eq_true rfl, Nat.le_of_ble_eq_true rfl⟩ (fun u9 H locs hp hP hD hS => ?_)
    clear u9
    clear hp
    clear hc
    refine W.eq (g2 := F0 m 104 ls []) rfl ?_
    have hP : va_P G.1 vwCl (wMs q G.2 st29) H := hP
    have hD : va_D A (wMs q G.2 st29) := hD
    cases h
    exact fin_v hx hb hr hlk hS () trivial hP hD (Nat.le_of_ble_eq_true rfl) (Nat.le_of_ble_eq_true rfl) d15_24_104
  clear h
  refine lv_if_ge (tgt := 78) hx hb d15_24_54 rfl (fun c16 => ?_) (fun c16 => ?_)
  ·
    replace h := (if_pos c16).symm.trans hX
    have e9 := Option.some.inj h
    subst e17
    have hl := lv_sub hl (l' := [(0, .ref (q 0)), (1, .int (st.1 1)), (2, .int y9)]) [2, 1, 0] rfl
    exact hj _ _ _ hl hP hD hS
  ·
    replace h := (if_neg c16).symm.trans hX
    refine lv_aload_n hx hb d15_24_57 rfl (lv_at hl 2 rfl) ?_
    refine lv_iload_n hx hb d15_24_58 rfl (lv_at hl 0 rfl) ?_
    refine lv_aload_n hx hb d15_24_59 rfl (lv_at hl 2 rfl) ?_
    refine va_get (D := G.1) (ci := 13) (v := .long (st2.2.1 0)) (C := r_13) (T := f_13) (N := 42) (ref := "PagedValuesModel") hx hb hts (fun w h => List.mem_cons_of_mem _ (ly_13 w h)) hown hK hP 0 rfl rfl 11 (by decide) (hts _ (List.mem_cons_of_mem _ k1162)) (fun _ h9 => h9) rfl d15_24_60 ?_
    refine lv_aload_n hx hb d15_24_63 rfl (lv_at hl 2 rfl) ?_
    refine va_get (D := G.1) (ci := 13) (v := .long (st2.2.1 1)) (C := r_13) (T := f_13) (N := 42) (ref := "PagedValuesModel") hx hb hts (fun w h => List.mem_cons_of_mem _ (ly_13 w h)) hown hK hP 0 rfl rfl 12 (by decide) (hts _ (List.mem_cons_of_mem _ k1163)) (fun _ h9 => h9) rfl d15_24_64 ?_
    obtain ⟨x31, hc, h⟩ := ob h
    refine sV_i (As := [.int y9, .long (st2.2.1 0), .long (st2.2.1 1)]) (rest := []) ⟨hx, hb, hml, hown, hts⟩ (cm_member l G Zd q y9 (st2.2.1 0) (st2.2.1 1) (st2.1, st2.2.1, va_up st2.2.2.1 2 (upd (st2.2.2.1 2) k14z y15), st2.2.2.2) x31 hc _) (kw_V (n := 3) hts k1388 k1385 k15 k1387 ks55 (by decide +kernel) ⟨Nat.le_of_ble_eq_true rfl, Nat.le_of_ble_eq_true rfl⟩) hP hD hK hS hA hZ (va_recv (ci := 13) (q0 := 0) hK hP rfl rfl) rfl hl.1 rfl (Nat.le_of_ble_eq_true rfl) d15_24_67 ⟨Nat.le_of_ble_eq_true rfl, Nat.le_of_ble_eq_true rfl⟩ (fun rr u9 H locs hp hP hD hS => ?_)
    clear u9
    subst rr
    clear hc
    refine W.eq (g2 := F0 m 70 ls [.int x31]) rfl ?_
    have hP : va_P G.1 vwCl (wMs q G.2 (st2.1, st2.2.1, va_up st2.2.2.1 2 (upd (st2.2.2.1 2) k14z y15), st2.2.2.2)) H := hP
    have hD : va_D A (wMs q G.2 (st2.1, st2.2.1, va_up st2.2.2.1 2 (upd (st2.2.2.1 2) k14z y15), st2.2.2.2)) := hD
    refine lv_if_lt (tgt := 78) hx hb d15_24_70 rfl (fun c34 => ?_) (fun c34 => ?_)
    ·
      replace h := (if_pos c34).symm.trans h
      have e9 := Option.some.inj h
      subst e17
      have hl := lv_sub hl (l' := [(0, .ref (q 0)), (1, .int (st.1 1)), (2, .int y9)]) [2, 1, 0] rfl
      exact hj _ _ _ hl hP hD hS
    ·
      replace h := (if_neg c34).symm.trans h
      refine lv_aload_n hx hb d15_24_73 rfl (lv_at hl 2 rfl) ?_
      refine lv_iload_n hx hb d15_24_74 rfl (lv_at hl 1 rfl) ?_
      refine va_put (D := G.1) (ci := 13) (v := .int (st.1 1)) (ty := .int) (C := r_13) (T := f_13) (N := 42) (ref := "PagedValuesModel") hx hb hts (fun w h => List.mem_cons_of_mem _ (ly_13 w h)) ft_13 ft_13_ok nm_13 hown hK hP hD hS 0 rfl rfl 3 (by decide) (hts _ (List.mem_cons_of_mem _ k1154)) (fun _ h9 => h9) rfl (by decide +kernel) rfl rfl (Nat.le_of_ble_eq_true rfl) d15_24_75 (fun H locs hP hD hS => ?_)
      have hP : va_P G.1 vwCl (wMs q G.2 (upd st2.1 2 (st.1 1), st2.2.1, va_up st2.2.2.1 2 (upd (st2.2.2.1 2) k14z y15), st2.2.2.2)) H := hP
      have hD : va_D A (wMs q G.2 (upd st2.1 2 (st.1 1), st2.2.1, va_up st2.2.2.1 2 (upd (st2.2.2.1 2) k14z y15), st2.2.2.2)) := hD
      have e9 := Option.some.inj h
      subst e17
      have hl := lv_sub hl (l' := [(0, .ref (q 0)), (1, .int (st.1 1)), (2, .int y9)]) [2, 1, 0] rfl
      exact hj _ _ _ hl hP hD hS
def m_ends (st : MS) : Option (MS) := (some ((st.1 4) - 1)).bind fun y1 => (some ((st.1 1) + 1)).bind fun y2 => (m_at (80 : Int32)).bind fun x3 => (rd (st.2.2.1 3) 5 y1).bind fun x6 => (some (x3 + x6)).bind fun y7 => (rd (st.2.2.1 3) 5 y1).bind fun x8 => (some ((st.1 3) - x8)).bind fun y9 => (some y9.toInt8.toInt32).bind fun y10 => (ix 2100 y7).bind fun k11z => (some (vp_nar .byte y10)).bind fun y12 => some (upd (upd st.1 4 y1) 1 y2, st.2.1, va_up st.2.2.1 2 (upd (st.2.2.1 2) k11z y12), st.2.2.2)
set_option maxHeartbeats 4000000 in
set_option maxRecDepth 100000 in
theorem cm_ends (l : Launch) (G : Gk) (Zd : Nat → Nat) (q : Nat → Nat) (st : MS) (st0 : MS) (hm : m_ends st = some st0) (sz : Nat) : Met l y15_26 (Cond.code y15_26 prog_15_method_26_code 1 none :: TB) (rmD 1 0 0) (va_Pc [.ref (q 0)] (pcW G Zd (wMs q G.2 st) sz)) (qV G (fun (_ : Unit) => True) (fun _ => (wMs q G.2 st0)) (va_A (wMs q G.2 st) sz)) 0 0 (va_A (wMs q G.2 st) sz) := by
  refine go (y := y15_26) (cc := prog_15_method_26_code) (maxL := 1) (ret := none) (av := [.ref (q 0)]) (Qc := qV G (fun (_ : Unit) => True) (fun _ => (wMs q G.2 st0))) "PagedValuesModel" rfl (by decide) (Nat.le_of_ble_eq_true rfl) ?_
  intro p e s m below meth c ls A hx hb hr hlk hml hown hts hin hl hP hD hK hS hA hZ
  have hl : lv_has ls 1 [(0, .ref (q 0))] := hl
  have h := hm
  clear hm
  refine lv_aload_n hx hb d15_26_0 rfl (lv_at hl 0 rfl) ?_
  refine lv_dup hx hb d15_26_1 rfl ?_
  refine va_get (D := G.1) (ci := 13) (v := .int (st.1 4)) (C := r_13) (T := f_13) (N := 42) (ref := "PagedValuesModel") hx hb hts (fun w h => List.mem_cons_of_mem _ (ly_13 w h)) hown hK hP 0 rfl rfl 13 (by decide) (hts _ (List.mem_cons_of_mem _ k1164)) (fun _ h9 => h9) rfl d15_26_2 ?_
  refine lv_iconst (v := 1) hx hb d15_26_5 (by decide) ?_
  refine lv_isub hx hb d15_26_6 ?_
  obtain ⟨y1, hr, h⟩ := ob h
  refine lv_topi (fun y9 ey => ?_)
  have e9 := ey.trans (Option.some.inj hr)
  clear ey
  subst y9
  clear hr
  refine va_put (D := G.1) (ci := 13) (v := .int y1) (ty := .int) (C := r_13) (T := f_13) (N := 42) (ref := "PagedValuesModel") hx hb hts (fun w h => List.mem_cons_of_mem _ (ly_13 w h)) ft_13 ft_13_ok nm_13 hown hK hP hD hS 0 rfl rfl 13 (by decide) (hts _ (List.mem_cons_of_mem _ k1164)) (fun _ h9 => h9) rfl (by decide +kernel) rfl rfl (Nat.le_of_ble_eq_true rfl) d15_26_7 (fun H locs hP hD hS => ?_)
  have hP : va_P G.1 vwCl (wMs q G.2 (upd st.1 4 y1, st.2.1, st.2.2.1, st.2.2.2)) H := hP
  have hD : va_D A (wMs q G.2 (upd st.1 4 y1, st.2.1, st.2.2.1, st.2.2.2)) := hD
  refine lv_aload_n hx hb d15_26_10 rfl (lv_at hl 0 rfl) ?_
  refine lv_dup hx hb d15_26_11 rfl ?_
  refine va_get (D := G.1) (ci := 13) (v := .int (st.1 1)) (C := r_13) (T := f_13) (N := 42) (ref := "PagedValuesModel") hx hb hts (fun w h => List.mem_cons_of_mem _ (ly_13 w h)) hown hK hP 0 rfl rfl 2 (by decide) (hts _ (List.mem_cons_of_mem _ k1153)) (fun _ h9 => h9) rfl d15_26_12 ?_
  refine lv_iconst (v := 1) hx hb d15_26_15 (by decide) ?_
  refine lv_iadd hx hb d15_26_16 ?_
  obtain ⟨y2, hr, h⟩ := ob h
  refine lv_topi (fun y9 ey => ?_)
  have e9 := ey.trans (Option.some.inj hr)
  clear ey
  subst y9
  clear hr
  refine va_put (D := G.1) (ci := 13) (v := .int y2) (ty := .int) (C := r_13) (T := f_13) (N := 42) (ref := "PagedValuesModel") hx hb hts (fun w h => List.mem_cons_of_mem _ (ly_13 w h)) ft_13 ft_13_ok nm_13 hown hK hP hD hS 0 rfl rfl 2 (by decide) (hts _ (List.mem_cons_of_mem _ k1153)) (fun _ h9 => h9) rfl (by decide +kernel) rfl rfl (Nat.le_of_ble_eq_true rfl) d15_26_17 (fun H locs hP hD hS => ?_)
  have hP : va_P G.1 vwCl (wMs q G.2 (upd (upd st.1 4 y1) 1 y2, st.2.1, st.2.2.1, st.2.2.2)) H := hP
  have hD : va_D A (wMs q G.2 (upd (upd st.1 4 y1) 1 y2, st.2.1, st.2.2.1, st.2.2.2)) := hD
  refine lv_aload_n hx hb d15_26_20 rfl (lv_at hl 0 rfl) ?_
  refine va_get (D := G.1) (ci := 13) (v := .ref (q 3)) (C := r_13) (T := f_13) (N := 42) (ref := "PagedValuesModel") hx hb hts (fun w h => List.mem_cons_of_mem _ (ly_13 w h)) hown hK hP 0 rfl rfl 5 (by decide) (hts _ (List.mem_cons_of_mem _ k1156)) (fun _ h9 => h9) rfl d15_26_21 ?_
  refine lv_bipush (v := 80) hx hb d15_26_24 (by decide) ?_
  obtain ⟨x3, hc, h⟩ := ob h
  refine sS_i (As := [.int 80]) (rest := [.ref (q 3)]) ⟨hx, hb, hml, hown, hts⟩ (cm_at l G Zd _ (80 : Int32) x3 hc _) (kw_S (n := 1) hts k1312 k1310 k15 k1311 (by decide +kernel) ⟨Nat.le_of_ble_eq_true rfl, Nat.le_of_ble_eq_true rfl⟩) hP hD hK hS hA hZ rfl hl.1 rfl (Nat.le_of_ble_eq_true rfl) d15_26_26 ⟨Nat.le_of_ble_eq_true rfl, Nat.le_of_ble_eq_true rfl⟩ (fun rr u9 H locs hp hP hD hS => ?_)
  clear u9
  subst rr
  clear hc
  refine W.eq (g2 := F0 m 29 ls [.int x3, .ref (q 3)]) rfl ?_
  have hP : va_P G.1 vwCl (wMs q G.2 (upd (upd st.1 4 y1) 1 y2, st.2.1, st.2.2.1, st.2.2.2)) H := hP
  have hD : va_D A (wMs q G.2 (upd (upd st.1 4 y1) 1 y2, st.2.1, st.2.2.1, st.2.2.2)) := hD
  refine lv_aload_n hx hb d15_26_29 rfl (lv_at hl 0 rfl) ?_
  refine va_get (D := G.1) (ci := 13) (v := .ref (q 8)) (C := r_13) (T := f_13) (N := 42) (ref := "PagedValuesModel") hx hb hts (fun w h => List.mem_cons_of_mem _ (ly_13 w h)) hown hK hP 0 rfl rfl 14 (by decide) (hts _ (List.mem_cons_of_mem _ k1165)) (fun _ h9 => h9) rfl d15_26_30 ?_
  refine lv_aload_n hx hb d15_26_33 rfl (lv_at hl 0 rfl) ?_
  refine va_get (D := G.1) (ci := 13) (v := .int y1) (C := r_13) (T := f_13) (N := 42) (ref := "PagedValuesModel") hx hb hts (fun w h => List.mem_cons_of_mem _ (ly_13 w h)) hown hK hP 0 rfl rfl 13 (by decide) (hts _ (List.mem_cons_of_mem _ k1164)) (fun _ h9 => h9) rfl d15_26_34 ?_
  obtain ⟨x6, hr, h⟩ := ob h
  obtain ⟨hi, hv⟩ := rd_some hr
  refine va_iald (D := G.1) hx hb hK hP 8 1 rfl rfl (i := y1) hi d15_26_37 ?_
  refine lv_topi (fun y9 ey => ?_)
  have e9 := ey.trans hv
  clear ey
  subst y9
  clear hv hi hr
  refine lv_iadd hx hb d15_26_38 ?_
  obtain ⟨y7, hr, h⟩ := ob h
  refine lv_topi (fun y9 ey => ?_)
  have e9 := ey.trans (Option.some.inj hr)
  clear ey
  subst y9
  clear hr
  refine lv_aload_n hx hb d15_26_39 rfl (lv_at hl 0 rfl) ?_
  refine va_get (D := G.1) (ci := 13) (v := .int (st.1 3)) (C := r_13) (T := f_13) (N := 42) (ref := "PagedValuesModel") hx hb hts (fun w h => List.mem_cons_of_mem _ (ly_13 w h)) hown hK hP 0 rfl rfl 10 (by decide) (hts _ (List.mem_cons_of_mem _ k1161)) (fun _ h9 => h9) rfl d15_26_40 ?_
  refine lv_aload_n hx hb d15_26_43 rfl (lv_at hl 0 rfl) ?_
  refine va_get (D := G.1) (ci := 13) (v := .ref (q 8)) (C := r_13) (T := f_13) (N := 42) (ref := "PagedValuesModel") hx hb hts (fun w h => List.mem_cons_of_mem _ (ly_13 w h)) hown hK hP 0 rfl rfl 14 (by decide) (hts _ (List.mem_cons_of_mem _ k1165)) (fun _ h9 => h9) rfl d15_26_44 ?_
  refine lv_aload_n hx hb d15_26_47 rfl (lv_at hl 0 rfl) ?_
  refine va_get (D := G.1) (ci := 13) (v := .int y1) (C := r_13) (T := f_13) (N := 42) (ref := "PagedValuesModel") hx hb hts (fun w h => List.mem_cons_of_mem _ (ly_13 w h)) hown hK hP 0 rfl rfl 13 (by decide) (hts _ (List.mem_cons_of_mem _ k1164)) (fun _ h9 => h9) rfl d15_26_48 ?_
  obtain ⟨x8, hr, h⟩ := ob h
  obtain ⟨hi, hv⟩ := rd_some hr
  refine va_iald (D := G.1) hx hb hK hP 8 1 rfl rfl (i := y1) hi d15_26_51 ?_
  refine lv_topi (fun y9 ey => ?_)
  have e9 := ey.trans hv
  clear ey
  subst y9
  clear hv hi hr
  refine lv_isub hx hb d15_26_52 ?_
  obtain ⟨y9, hr, h⟩ := ob h
  refine lv_topi (fun y9 ey => ?_)
  have e9 := ey.trans (Option.some.inj hr)
  clear ey
  subst y9
  clear hr
  refine lv_i2b hx hb d15_26_53 rfl ?_
  obtain ⟨y10, hr, h⟩ := ob h
  refine lv_topi (fun y9 ey => ?_)
  have e9 := ey.trans (Option.some.inj hr)
  clear ey
  subst y9
  clear hr
  obtain ⟨k11z, hr, h⟩ := ob h
  obtain ⟨hi, hk⟩ := ix_some hr
  clear hr
  refine va_bast (D := G.1) hx hb hK hP hD hS 3 2 rfl rfl (i := y7) (x := y10) hi d15_26_54 (fun H locs hP hD hS => ?_)
  rw [hk] at hP hD
  clear hk hi
  obtain ⟨y12, hr, h⟩ := ob h
  rw [Option.some.inj hr] at hP hD
  clear hr
  have hP : va_P G.1 vwCl (wMs q G.2 (upd (upd st.1 4 y1) 1 y2, st.2.1, va_up st.2.2.1 2 (upd (st.2.2.1 2) k11z y12), st.2.2.2)) H := hP
  have hD : va_D A (wMs q G.2 (upd (upd st.1 4 y1) 1 y2, st.2.1, va_up st.2.2.1 2 (upd (st.2.2.1 2) k11z y12), st.2.2.2)) := hD
  cases h
  exact fin_v hx hb hr hlk hS () trivial hP hD (Nat.le_of_ble_eq_true rfl) (Nat.le_of_ble_eq_true rfl) d15_26_55
def m_readValue_l1  : Nat → (Int32 × Int32 × MS) → Option (Int32 × Int32 × MS)
  | 0, _ => none
  | n9 + 1, e9 => if (200 : Int32) ≤ e9.2.1 then (some (e9.1, e9.2.1, e9.2.2)) else (if (0 : Int32) ≤ (e9.2.2.1 2) then (some (e9.1, e9.2.1, e9.2.2)) else (if (0 : Int32) < (e9.2.2.1 4) then ((m_blanks e9.2.2).bind fun st32 => (m_holder st32).bind fun x34 => (if x34 = (5 : Int32) then (some (1 : Int32)) else (some (0 : Int32))).bind fun e38 => (if e38 = (0 : Int32) then (some (125 : Int32)) else (some (93 : Int32))).bind fun e41 => (m_sees e41 st32).bind fun x43 => (if x43 = (0 : Int32) then ((if e9.1 = (0 : Int32) then ((m_must (44 : Int32) st32).bind fun st72 => (m_blanks st72).bind fun st75 => some st75) else (some st32)).bind fun e51 => (if e38 = (0 : Int32) then (if (0 : Int32) ≤ (e51.1 2) then (some e51) else ((m_memberName e51).bind fun st66 => some st66)) else ((m_named (0 : Int64) (0 : Int64) e51).bind fun st69 => some st69)).bind fun e54 => (if (0 : Int32) ≤ (e54.1 2) then (some ((0 : Int32), e54)) else ((m_begins e54).bind fun r62 => if r62.1 = (0 : Int32) then (some ((0 : Int32), r62.2)) else (some ((1 : Int32), r62.2)))).bind fun e57 => some (e57.1, e57.2)) else ((m_ends st32).bind fun st78 => some ((0 : Int32), st78))).bind fun e47 => m_readValue_l1  n9 (e47.1, e9.2.1 + 1, e47.2)) else (if e9.1 = (0 : Int32) then (some (e9.1, e9.2.1, e9.2.2)) else ((m_blanks e9.2.2).bind fun st82 => (m_holder st82).bind fun x84 => (if x84 = (5 : Int32) then (some (1 : Int32)) else (some (0 : Int32))).bind fun e88 => (if e88 = (0 : Int32) then (some (125 : Int32)) else (some (93 : Int32))).bind fun e91 => (m_sees e91 st82).bind fun x93 => (if x93 = (0 : Int32) then ((if e9.1 = (0 : Int32) then ((m_must (44 : Int32) st82).bind fun st122 => (m_blanks st122).bind fun st125 => some st125) else (some st82)).bind fun e101 => (if e88 = (0 : Int32) then (if (0 : Int32) ≤ (e101.1 2) then (some e101) else ((m_memberName e101).bind fun st116 => some st116)) else ((m_named (0 : Int64) (0 : Int64) e101).bind fun st119 => some st119)).bind fun e104 => (if (0 : Int32) ≤ (e104.1 2) then (some ((0 : Int32), e104)) else ((m_begins e104).bind fun r112 => if r112.1 = (0 : Int32) then (some ((0 : Int32), r112.2)) else (some ((1 : Int32), r112.2)))).bind fun e107 => some (e107.1, e107.2)) else ((m_ends st82).bind fun st128 => some ((0 : Int32), st128))).bind fun e97 => m_readValue_l1  n9 (e97.1, e9.2.1 + 1, e97.2)))))
theorem m_readValue_l1_s  (n9 : Nat) (e9 : Int32 × Int32 × MS) : m_readValue_l1  (n9 + 1) e9 = (if (200 : Int32) ≤ e9.2.1 then (some (e9.1, e9.2.1, e9.2.2)) else (if (0 : Int32) ≤ (e9.2.2.1 2) then (some (e9.1, e9.2.1, e9.2.2)) else (if (0 : Int32) < (e9.2.2.1 4) then ((m_blanks e9.2.2).bind fun st32 => (m_holder st32).bind fun x34 => (if x34 = (5 : Int32) then (some (1 : Int32)) else (some (0 : Int32))).bind fun e38 => (if e38 = (0 : Int32) then (some (125 : Int32)) else (some (93 : Int32))).bind fun e41 => (m_sees e41 st32).bind fun x43 => (if x43 = (0 : Int32) then ((if e9.1 = (0 : Int32) then ((m_must (44 : Int32) st32).bind fun st72 => (m_blanks st72).bind fun st75 => some st75) else (some st32)).bind fun e51 => (if e38 = (0 : Int32) then (if (0 : Int32) ≤ (e51.1 2) then (some e51) else ((m_memberName e51).bind fun st66 => some st66)) else ((m_named (0 : Int64) (0 : Int64) e51).bind fun st69 => some st69)).bind fun e54 => (if (0 : Int32) ≤ (e54.1 2) then (some ((0 : Int32), e54)) else ((m_begins e54).bind fun r62 => if r62.1 = (0 : Int32) then (some ((0 : Int32), r62.2)) else (some ((1 : Int32), r62.2)))).bind fun e57 => some (e57.1, e57.2)) else ((m_ends st32).bind fun st78 => some ((0 : Int32), st78))).bind fun e47 => m_readValue_l1  n9 (e47.1, e9.2.1 + 1, e47.2)) else (if e9.1 = (0 : Int32) then (some (e9.1, e9.2.1, e9.2.2)) else ((m_blanks e9.2.2).bind fun st82 => (m_holder st82).bind fun x84 => (if x84 = (5 : Int32) then (some (1 : Int32)) else (some (0 : Int32))).bind fun e88 => (if e88 = (0 : Int32) then (some (125 : Int32)) else (some (93 : Int32))).bind fun e91 => (m_sees e91 st82).bind fun x93 => (if x93 = (0 : Int32) then ((if e9.1 = (0 : Int32) then ((m_must (44 : Int32) st82).bind fun st122 => (m_blanks st122).bind fun st125 => some st125) else (some st82)).bind fun e101 => (if e88 = (0 : Int32) then (if (0 : Int32) ≤ (e101.1 2) then (some e101) else ((m_memberName e101).bind fun st116 => some st116)) else ((m_named (0 : Int64) (0 : Int64) e101).bind fun st119 => some st119)).bind fun e104 => (if (0 : Int32) ≤ (e104.1 2) then (some ((0 : Int32), e104)) else ((m_begins e104).bind fun r112 => if r112.1 = (0 : Int32) then (some ((0 : Int32), r112.2)) else (some ((1 : Int32), r112.2)))).bind fun e107 => some (e107.1, e107.2)) else ((m_ends st82).bind fun st128 => some ((0 : Int32), st128))).bind fun e97 => m_readValue_l1  n9 (e97.1, e9.2.1 + 1, e97.2)))))) := rfl
def m_readValue (st : MS) : Option (MS) := (m_blanks (upd (upd (upd (upd st.1 1 0) 2 (-1)) 3 0) 4 0, st.2.1, st.2.2.1, st.2.2.2)).bind fun st2 => (m_named (0 : Int64) (0 : Int64) st2).bind fun st5 => (m_begins st5).bind fun r9 => (m_readValue_l1  4096 (r9.1, (0 : Int32), r9.2)).bind fun e10 => (m_blanks e10.2.2).bind fun st19 => (if (0 : Int32) ≤ (st19.1 2) then (some st19) else (if (st19.1 0) ≤ (st19.1 1) then (some st19) else ((m_fault st19).bind fun st26 => some st26))).bind fun e22 => some e22
set_option maxHeartbeats 4000000 in
set_option maxRecDepth 100000 in
theorem cm_readValue (l : Launch) (G : Gk) (Zd : Nat → Nat) (q : Nat → Nat) (st : MS) (st0 : MS) (hm : m_readValue st = some st0) (sz : Nat) : Met l y15_28 (Cond.code y15_28 prog_15_method_28_code 4 none :: TB) (rmD 6 0 0) (va_Pc [.ref (q 0)] (pcW G Zd (wMs q G.2 st) sz)) (qV G (fun (_ : Unit) => True) (fun _ => (wMs q G.2 st0)) (va_A (wMs q G.2 st) sz)) 0 0 (va_A (wMs q G.2 st) sz) := by
  refine go (y := y15_28) (cc := prog_15_method_28_code) (maxL := 4) (ret := none) (av := [.ref (q 0)]) (Qc := qV G (fun (_ : Unit) => True) (fun _ => (wMs q G.2 st0))) "PagedValuesModel" rfl (by decide) (Nat.le_of_ble_eq_true rfl) ?_
  intro p e s m below meth c ls A hx hb hr hlk hml hown hts hin hl hP hD hK hS hA hZ
  have hl : lv_has ls 4 [(0, .ref (q 0))] := hl
  have h := hm
  clear hm
  refine lv_aload_n hx hb d15_28_0 rfl (lv_at hl 0 rfl) ?_
  refine lv_iconst (v := 0) hx hb d15_28_1 (by decide) ?_
  refine va_put (D := G.1) (ci := 13) (v := .int 0) (ty := .int) (C := r_13) (T := f_13) (N := 42) (ref := "PagedValuesModel") hx hb hts (fun w h => List.mem_cons_of_mem _ (ly_13 w h)) ft_13 ft_13_ok nm_13 hown hK hP hD hS 0 rfl rfl 2 (by decide) (hts _ (List.mem_cons_of_mem _ k1153)) (fun _ h9 => h9) rfl (by decide +kernel) rfl rfl (Nat.le_of_ble_eq_true rfl) d15_28_2 (fun H locs hP hD hS => ?_)
  have hP : va_P G.1 vwCl (wMs q G.2 (upd st.1 1 0, st.2.1, st.2.2.1, st.2.2.2)) H := hP
  have hD : va_D A (wMs q G.2 (upd st.1 1 0, st.2.1, st.2.2.1, st.2.2.2)) := hD
  refine lv_aload_n hx hb d15_28_5 rfl (lv_at hl 0 rfl) ?_
  refine lv_iconst (v := (-1)) hx hb d15_28_6 (by decide) ?_
  refine va_put (D := G.1) (ci := 13) (v := .int (-1)) (ty := .int) (C := r_13) (T := f_13) (N := 42) (ref := "PagedValuesModel") hx hb hts (fun w h => List.mem_cons_of_mem _ (ly_13 w h)) ft_13 ft_13_ok nm_13 hown hK hP hD hS 0 rfl rfl 3 (by decide) (hts _ (List.mem_cons_of_mem _ k1154)) (fun _ h9 => h9) rfl (by decide +kernel) rfl rfl (Nat.le_of_ble_eq_true rfl) d15_28_7 (fun H locs hP hD hS => ?_)
  have hP : va_P G.1 vwCl (wMs q G.2 (upd (upd st.1 1 0) 2 (-1), st.2.1, st.2.2.1, st.2.2.2)) H := hP
  have hD : va_D A (wMs q G.2 (upd (upd st.1 1 0) 2 (-1), st.2.1, st.2.2.1, st.2.2.2)) := hD
  refine lv_aload_n hx hb d15_28_10 rfl (lv_at hl 0 rfl) ?_
  refine lv_iconst (v := 0) hx hb d15_28_11 (by decide) ?_
  refine va_put (D := G.1) (ci := 13) (v := .int 0) (ty := .int) (C := r_13) (T := f_13) (N := 42) (ref := "PagedValuesModel") hx hb hts (fun w h => List.mem_cons_of_mem _ (ly_13 w h)) ft_13 ft_13_ok nm_13 hown hK hP hD hS 0 rfl rfl 10 (by decide) (hts _ (List.mem_cons_of_mem _ k1161)) (fun _ h9 => h9) rfl (by decide +kernel) rfl rfl (Nat.le_of_ble_eq_true rfl) d15_28_12 (fun H locs hP hD hS => ?_)
  have hP : va_P G.1 vwCl (wMs q G.2 (upd (upd (upd st.1 1 0) 2 (-1)) 3 0, st.2.1, st.2.2.1, st.2.2.2)) H := hP
  have hD : va_D A (wMs q G.2 (upd (upd (upd st.1 1 0) 2 (-1)) 3 0, st.2.1, st.2.2.1, st.2.2.2)) := hD
  refine lv_aload_n hx hb d15_28_15 rfl (lv_at hl 0 rfl) ?_
  refine lv_iconst (v := 0) hx hb d15_28_16 (by decide) ?_
  refine va_put (D := G.1) (ci := 13) (v := .int 0) (ty := .int) (C := r_13) (T := f_13) (N := 42) (ref := "PagedValuesModel") hx hb hts (fun w h => List.mem_cons_of_mem _ (ly_13 w h)) ft_13 ft_13_ok nm_13 hown hK hP hD hS 0 rfl rfl 13 (by decide) (hts _ (List.mem_cons_of_mem _ k1164)) (fun _ h9 => h9) rfl (by decide +kernel) rfl rfl (Nat.le_of_ble_eq_true rfl) d15_28_17 (fun H locs hP hD hS => ?_)
  have hP : va_P G.1 vwCl (wMs q G.2 (upd (upd (upd (upd st.1 1 0) 2 (-1)) 3 0) 4 0, st.2.1, st.2.2.1, st.2.2.2)) H := hP
  have hD : va_D A (wMs q G.2 (upd (upd (upd (upd st.1 1 0) 2 (-1)) 3 0) 4 0, st.2.1, st.2.2.1, st.2.2.2)) := hD
  refine lv_aload_n hx hb d15_28_20 rfl (lv_at hl 0 rfl) ?_
  obtain ⟨st2, hc, h⟩ := ob h
  refine sV_v (As := []) (rest := []) ⟨hx, hb, hml, hown, hts⟩ (cm_blanks l G Zd q (upd (upd (upd (upd st.1 1 0) 2 (-1)) 3 0) 4 0, st.2.1, st.2.2.1, st.2.2.2) st2 hc _) (kw_V (n := 0) hts k1297 k1294 k15 k1296 ks35 (by decide +kernel) ⟨Nat.le_of_ble_eq_true rfl, Nat.le_of_ble_eq_true rfl⟩) hP hD hK hS hA hZ (va_recv (ci := 13) (q0 := 0) hK hP rfl rfl) rfl hl.1 rfl (Nat.le_of_ble_eq_true rfl) d15_28_21 ⟨Nat.le_of_ble_eq_true rfl, Nat.le_of_ble_eq_true rfl⟩ (fun u9 H locs hp hP hD hS => ?_)
  clear u9
  clear hp
  clear hc
  refine W.eq (g2 := F0 m 24 ls []) rfl ?_
  have hP : va_P G.1 vwCl (wMs q G.2 st2) H := hP
  have hD : va_D A (wMs q G.2 st2) := hD
  refine lv_aload_n hx hb d15_28_24 rfl (lv_at hl 0 rfl) ?_
  refine lv_lconst (v := 0) hx hb d15_28_25 (by decide) ?_
  refine lv_lconst (v := 0) hx hb d15_28_26 (by decide) ?_
  obtain ⟨st5, hc, h⟩ := ob h
  refine sV_v (As := [.long 0, .long 0]) (rest := []) ⟨hx, hb, hml, hown, hts⟩ (cm_named l G Zd q (0 : Int64) (0 : Int64) st2 st5 hc _) (kw_V (n := 2) hts k1309 k1306 k15 k1308 ks38 (by decide +kernel) ⟨Nat.le_of_ble_eq_true rfl, Nat.le_of_ble_eq_true rfl⟩) hP hD hK hS hA hZ (va_recv (ci := 13) (q0 := 0) hK hP rfl rfl) rfl hl.1 rfl (Nat.le_of_ble_eq_true rfl) d15_28_27 ⟨Nat.le_of_ble_eq_true rfl, Nat.le_of_ble_eq_true rfl⟩ (fun u9 H locs hp hP hD hS => ?_)
  clear u9
  clear hp
  clear hc
  refine W.eq (g2 := F0 m 30 ls []) rfl ?_
  have hP : va_P G.1 vwCl (wMs q G.2 st5) H := hP
  have hD : va_D A (wMs q G.2 st5) := hD
  refine lv_aload_n hx hb d15_28_30 rfl (lv_at hl 0 rfl) ?_
  obtain ⟨⟨x7, st8⟩, hc, h⟩ := ob h
  refine sV_i (As := []) (rest := []) ⟨hx, hb, hml, hown, hts⟩ (cm_begins l G Zd q st5 x7 st8 hc _) (kw_V (n := 0) hts k1316 k1313 k15 k1315 ks39 (by decide +kernel) ⟨Nat.le_of_ble_eq_true rfl, Nat.le_of_ble_eq_true rfl⟩) hP hD hK hS hA hZ (va_recv (ci := 13) (q0 := 0) hK hP rfl rfl) rfl hl.1 rfl (Nat.le_of_ble_eq_true rfl) d15_28_31 ⟨Nat.le_of_ble_eq_true rfl, Nat.le_of_ble_eq_true rfl⟩ (fun rr u9 H locs hp hP hD hS => ?_)
  clear u9
  subst rr
  clear hc
  refine W.eq (g2 := F0 m 34 ls [.int x7]) rfl ?_
  have hP : va_P G.1 vwCl (wMs q G.2 st8) H := hP
  have hD : va_D A (wMs q G.2 st8) := hD
  refine lv_istore_n (lv' := [(1, .int x7), (0, .ref (q 0))]) hx hb d15_28_34 rfl hl (by decide) rfl (fun ls hl => ?_)
  refine lv_iconst (v := 0) hx hb d15_28_35 (by decide) ?_
  refine lv_istore_n (lv' := [(2, .int 0), (1, .int x7), (0, .ref (q 0))]) hx hb d15_28_36 rfl hl (by decide) rfl (fun ls hl => ?_)
  obtain ⟨e10, hX, hrest⟩ := ob h
  clear h
  have hj : ∀ (v15 : Int32) (v16 : Int32) (v17 : MS), e10 = (v15, v16, v17) → ∀ (H : Heap) (locs : List Loc) (ls : Array Slot), lv_has ls 4 [(0, .ref (q 0)), (1, .int v15), (2, .int v16)] → va_P G.1 vwCl (wMs q G.2 v17) H → va_D A (wMs q G.2 v17) → va_S A s.heap H locs → W p l e (rmD 6 0 0) s m ([.ref (q 0)] : List Value).toArray below meth c H locs 0 0 (MQ below (qV G (fun (_ : Unit) => True) (fun _ => (wMs q G.2 st0)) A) ([.ref (q 0)] : List Value).toArray s 0 0 A) (F0 m 171 ls []) := by
    intro v15 v16 v17 he H locs ls hl hP hD hS
    subst e10
    have h := hrest
    refine lv_aload_n hx hb d15_28_171 rfl (lv_at hl 0 rfl) ?_
    obtain ⟨st19, hc, h⟩ := ob h
    refine sV_v (As := []) (rest := []) ⟨hx, hb, hml, hown, hts⟩ (cm_blanks l G Zd q v17 st19 hc _) (kw_V (n := 0) hts k1297 k1294 k15 k1296 ks35 (by decide +kernel) ⟨Nat.le_of_ble_eq_true rfl, Nat.le_of_ble_eq_true rfl⟩) hP hD hK hS hA hZ (va_recv (ci := 13) (q0 := 0) hK hP rfl rfl) rfl hl.1 rfl (Nat.le_of_ble_eq_true rfl) d15_28_172 ⟨Nat.le_of_ble_eq_true rfl, Nat.le_of_ble_eq_true rfl⟩ (fun u9 H locs hp hP hD hS => ?_)
    clear u9
    clear hp
    clear hc
    refine W.eq (g2 := F0 m 175 ls []) rfl ?_
    have hP : va_P G.1 vwCl (wMs q G.2 st19) H := hP
    have hD : va_D A (wMs q G.2 st19) := hD
    refine lv_aload_n hx hb d15_28_175 rfl (lv_at hl 0 rfl) ?_
    refine va_get (D := G.1) (ci := 13) (v := .int (st19.1 2)) (C := r_13) (T := f_13) (N := 42) (ref := "PagedValuesModel") hx hb hts (fun w h => List.mem_cons_of_mem _ (ly_13 w h)) hown hK hP 0 rfl rfl 3 (by decide) (hts _ (List.mem_cons_of_mem _ k1154)) (fun _ h9 => h9) rfl d15_28_176 ?_
    obtain ⟨e22, hX, h⟩ := ob h
    have hj : ∀ (H : Heap) (locs : List Loc) (ls : Array Slot), lv_has ls 4 [(0, .ref (q 0)), (1, .int v15), (2, .int v16)] → va_P G.1 vwCl (wMs q G.2 e22) H → va_D A (wMs q G.2 e22) → va_S A s.heap H locs → W p l e (rmD 6 0 0) s m ([.ref (q 0)] : List Value).toArray below meth c H locs 0 0 (MQ below (qV G (fun (_ : Unit) => True) (fun _ => (wMs q G.2 st0)) A) ([.ref (q 0)] : List Value).toArray s 0 0 A) (F0 m 197 ls []) := by
      intro H locs ls hl hP hD hS
      cases h
      exact fin_v hx hb hr hlk hS () trivial hP hD (Nat.le_of_ble_eq_true rfl) (Nat.le_of_ble_eq_true rfl) d15_28_197
    clear h
    refine lv_if_ge (tgt := 197) hx hb d15_28_179 rfl (fun c21 => ?_) (fun c21 => ?_)
    ·
      replace h := (if_pos c21).symm.trans hX
      have e9 := Option.some.inj h
      subst e22
      have hl := lv_sub hl (l' := [(0, .ref (q 0)), (1, .int v15), (2, .int v16)]) [0, 1, 2] rfl
      exact hj _ _ _ hl hP hD hS
    ·
      replace h := (if_neg c21).symm.trans hX
      refine lv_aload_n hx hb d15_28_182 rfl (lv_at hl 0 rfl) ?_
      refine va_get (D := G.1) (ci := 13) (v := .int (st19.1 1)) (C := r_13) (T := f_13) (N := 42) (ref := "PagedValuesModel") hx hb hts (fun w h => List.mem_cons_of_mem _ (ly_13 w h)) hown hK hP 0 rfl rfl 2 (by decide) (hts _ (List.mem_cons_of_mem _ k1153)) (fun _ h9 => h9) rfl d15_28_183 ?_
      refine lv_aload_n hx hb d15_28_186 rfl (lv_at hl 0 rfl) ?_
      refine va_get (D := G.1) (ci := 13) (v := .int (st19.1 0)) (C := r_13) (T := f_13) (N := 42) (ref := "PagedValuesModel") hx hb hts (fun w h => List.mem_cons_of_mem _ (ly_13 w h)) hown hK hP 0 rfl rfl 1 (by decide) (hts _ (List.mem_cons_of_mem _ k1152)) (fun _ h9 => h9) rfl d15_28_187 ?_
      refine lv_icmp_ge (tgt := 197) hx hb d15_28_190 rfl (fun c24 => ?_) (fun c24 => ?_)
      ·
        replace h := (if_pos c24).symm.trans h
        have e9 := Option.some.inj h
        subst e22
        have hl := lv_sub hl (l' := [(0, .ref (q 0)), (1, .int v15), (2, .int v16)]) [0, 1, 2] rfl
        exact hj _ _ _ hl hP hD hS
      ·
        replace h := (if_neg c24).symm.trans h
        refine lv_aload_n hx hb d15_28_193 rfl (lv_at hl 0 rfl) ?_
        obtain ⟨st26, hc, h⟩ := ob h
        refine sV_v (As := []) (rest := []) ⟨hx, hb, hml, hown, hts⟩ (cm_fault l G Zd q st19 st26 hc _) (kw_V (n := 0) hts k1320 k1317 k15 k1319 ks40 (by decide +kernel) ⟨Nat.le_of_ble_eq_true rfl, Nat.le_of_ble_eq_true rfl⟩) hP hD hK hS hA hZ (va_recv (ci := 13) (q0 := 0) hK hP rfl rfl) rfl hl.1 rfl (Nat.le_of_ble_eq_true rfl) d15_28_194 ⟨Nat.le_of_ble_eq_true rfl, Nat.le_of_ble_eq_true rfl⟩ (fun u9 H locs hp hP hD hS => ?_)
        clear u9
        clear hp
        clear hc
        refine W.eq (g2 := F0 m 197 ls []) rfl ?_
        have hP : va_P G.1 vwCl (wMs q G.2 st26) H := hP
        have hD : va_D A (wMs q G.2 st26) := hD
        have e9 := Option.some.inj h
        subst e22
        have hl := lv_sub hl (l' := [(0, .ref (q 0)), (1, .int v15), (2, .int v16)]) [0, 1, 2] rfl
        exact hj _ _ _ hl hP hD hS
  have hloop : ∀ (n9 : Nat) (v11 : Int32) (v12 : Int32) (v13 : MS), m_readValue_l1  n9 (v11, v12, v13) = some e10 → ∀ (H : Heap) (locs : List Loc) (ls : Array Slot), lv_has ls 4 [(0, .ref (q 0)), (1, .int v11), (2, .int v12)] → va_P G.1 vwCl (wMs q G.2 v13) H → va_D A (wMs q G.2 v13) → va_S A s.heap H locs → W p l e (rmD 6 0 0) s m ([.ref (q 0)] : List Value).toArray below meth c H locs 0 0 (MQ below (qV G (fun (_ : Unit) => True) (fun _ => (wMs q G.2 st0)) A) ([.ref (q 0)] : List Value).toArray s 0 0 A) (F0 m 37 ls []) := by
    intro n9
    induction n9 with
    | zero =>
      intro v11 v12 v13 h
      cases h
    | succ n9 ih =>
      intro v11 v12 v13 h H locs ls hl hP hD hS
      replace h := (m_readValue_l1_s  n9 (v11, v12, v13)).symm.trans h
      refine lv_iload_n hx hb d15_28_37 rfl (lv_at hl 2 rfl) ?_
      refine lv_sipush (v := 200) hx hb d15_28_38 (by decide) ?_
      refine lv_icmp_ge (tgt := 171) hx hb d15_28_41 rfl (fun c28 => ?_) (fun c28 => ?_)
      ·
        replace h := (if_pos c28).symm.trans h
        have e9 := Option.some.inj h
        subst e10
        have hl := lv_sub hl (l' := [(0, .ref (q 0)), (1, .int v11), (2, .int v12)]) [0, 1, 2] rfl
        exact hj _ _ _ rfl _ _ _ hl hP hD hS
      ·
        replace h := (if_neg c28).symm.trans h
        refine lv_aload_n hx hb d15_28_44 rfl (lv_at hl 0 rfl) ?_
        refine va_get (D := G.1) (ci := 13) (v := .int (v13.1 2)) (C := r_13) (T := f_13) (N := 42) (ref := "PagedValuesModel") hx hb hts (fun w h => List.mem_cons_of_mem _ (ly_13 w h)) hown hK hP 0 rfl rfl 3 (by decide) (hts _ (List.mem_cons_of_mem _ k1154)) (fun _ h9 => h9) rfl d15_28_45 ?_
        refine lv_if_ge (tgt := 171) hx hb d15_28_48 rfl (fun c29 => ?_) (fun c29 => ?_)
        ·
          replace h := (if_pos c29).symm.trans h
          have e9 := Option.some.inj h
          subst e10
          have hl := lv_sub hl (l' := [(0, .ref (q 0)), (1, .int v11), (2, .int v12)]) [0, 1, 2] rfl
          exact hj _ _ _ rfl _ _ _ hl hP hD hS
        ·
          replace h := (if_neg c29).symm.trans h
          refine lv_aload_n hx hb d15_28_51 rfl (lv_at hl 0 rfl) ?_
          refine va_get (D := G.1) (ci := 13) (v := .int (v13.1 4)) (C := r_13) (T := f_13) (N := 42) (ref := "PagedValuesModel") hx hb hts (fun w h => List.mem_cons_of_mem _ (ly_13 w h)) hown hK hP 0 rfl rfl 13 (by decide) (hts _ (List.mem_cons_of_mem _ k1164)) (fun _ h9 => h9) rfl d15_28_52 ?_
          refine lv_if_gt (tgt := 62) hx hb d15_28_55 rfl (fun c30 => ?_) (fun c30 => ?_)
          ·
            replace h := (if_pos c30).symm.trans h
            refine lv_aload_n hx hb d15_28_62 rfl (lv_at hl 0 rfl) ?_
            obtain ⟨st32, hc, h⟩ := ob h
            refine sV_v (As := []) (rest := []) ⟨hx, hb, hml, hown, hts⟩ (cm_blanks l G Zd q v13 st32 hc _) (kw_V (n := 0) hts k1297 k1294 k15 k1296 ks35 (by decide +kernel) ⟨Nat.le_of_ble_eq_true rfl, Nat.le_of_ble_eq_true rfl⟩) hP hD hK hS hA hZ (va_recv (ci := 13) (q0 := 0) hK hP rfl rfl) rfl hl.1 rfl (Nat.le_of_ble_eq_true rfl) d15_28_63 ⟨Nat.le_of_ble_eq_true rfl, Nat.le_of_ble_eq_true rfl⟩ (fun u9 H locs hp hP hD hS => ?_)
            clear u9
            clear hp
            clear hc
            refine W.eq (g2 := F0 m 66 ls []) rfl ?_
            have hP : va_P G.1 vwCl (wMs q G.2 st32) H := hP
            have hD : va_D A (wMs q G.2 st32) := hD
            refine lv_aload_n hx hb d15_28_66 rfl (lv_at hl 0 rfl) ?_
            obtain ⟨x34, hc, h⟩ := ob h
            refine sV_i (As := []) (rest := []) ⟨hx, hb, hml, hown, hts⟩ (cm_holder l G Zd q st32 x34 hc _) (kw_V (n := 0) hts k1376 k1373 k15 k1375 ks52 (by decide +kernel) ⟨Nat.le_of_ble_eq_true rfl, Nat.le_of_ble_eq_true rfl⟩) hP hD hK hS hA hZ (va_recv (ci := 13) (q0 := 0) hK hP rfl rfl) rfl hl.1 rfl (Nat.le_of_ble_eq_true rfl) d15_28_67 ⟨Nat.le_of_ble_eq_true rfl, Nat.le_of_ble_eq_true rfl⟩ (fun rr u9 H locs hp hP hD hS => ?_)
            clear u9
            subst rr
            clear hc
            refine W.eq (g2 := F0 m 70 ls [.int x34]) rfl ?_
            have hP : va_P G.1 vwCl (wMs q G.2 st32) H := hP
            have hD : va_D A (wMs q G.2 st32) := hD
            refine lv_iconst (v := 5) hx hb d15_28_70 (by decide) ?_
            obtain ⟨e38, hX, h⟩ := ob h
            have hj : ∀ (H : Heap) (locs : List Loc) (ls : Array Slot), lv_has ls 4 [(0, .ref (q 0)), (1, .int v11), (2, .int v12)] → va_P G.1 vwCl (wMs q G.2 st32) H → va_D A (wMs q G.2 st32) → va_S A s.heap H locs → W p l e (rmD 6 0 0) s m ([.ref (q 0)] : List Value).toArray below meth c H locs 0 0 (MQ below (qV G (fun (_ : Unit) => True) (fun _ => (wMs q G.2 st0)) A) ([.ref (q 0)] : List Value).toArray s 0 0 A) (F0 m 79 ls [.int e38]) := by
              intro H locs ls hl hP hD hS
              refine lv_istore_n (lv' := [(3, .int e38), (0, .ref (q 0)), (1, .int v11), (2, .int v12)]) hx hb d15_28_79 rfl hl (by decide) rfl (fun ls hl => ?_)
              refine lv_aload_n hx hb d15_28_80 rfl (lv_at hl 1 rfl) ?_
              refine lv_iload_n hx hb d15_28_81 rfl (lv_at hl 0 rfl) ?_
              obtain ⟨e41, hX, h⟩ := ob h
              have hj : ∀ (H : Heap) (locs : List Loc) (ls : Array Slot), lv_has ls 4 [(0, .ref (q 0)), (1, .int v11), (2, .int v12), (3, .int e38)] → va_P G.1 vwCl (wMs q G.2 st32) H → va_D A (wMs q G.2 st32) → va_S A s.heap H locs → W p l e (rmD 6 0 0) s m ([.ref (q 0)] : List Value).toArray below meth c H locs 0 0 (MQ below (qV G (fun (_ : Unit) => True) (fun _ => (wMs q G.2 st0)) A) ([.ref (q 0)] : List Value).toArray s 0 0 A) (F0 m 92 ls [.int e41, .ref (q 0)]) := by
                intro H locs ls hl hP hD hS
                obtain ⟨x43, hc, h⟩ := ob h
                refine sV_i (As := [.int e41]) (rest := []) ⟨hx, hb, hml, hown, hts⟩ (cm_sees l G Zd q e41 st32 x43 hc _) (kw_V (n := 1) hts k1301 k1298 k15 k1300 ks36 (by decide +kernel) ⟨Nat.le_of_ble_eq_true rfl, Nat.le_of_ble_eq_true rfl⟩) hP hD hK hS hA hZ (va_recv (ci := 13) (q0 := 0) hK hP rfl rfl) rfl hl.1 rfl (Nat.le_of_ble_eq_true rfl) d15_28_92 ⟨Nat.le_of_ble_eq_true rfl, Nat.le_of_ble_eq_true rfl⟩ (fun rr u9 H locs hp hP hD hS => ?_)
                clear u9
                subst rr
                clear hc
                refine W.eq (g2 := F0 m 95 ls [.int x43]) rfl ?_
                have hP : va_P G.1 vwCl (wMs q G.2 st32) H := hP
                have hD : va_D A (wMs q G.2 st32) := hD
                obtain ⟨e47, hX, h⟩ := ob h
                obtain ⟨v48, v49⟩ := e47
                have hj : ∀ (H : Heap) (locs : List Loc) (ls : Array Slot), lv_has ls 4 [(0, .ref (q 0)), (1, .int v48), (2, .int v12), (3, .int e38)] → va_P G.1 vwCl (wMs q G.2 v49) H → va_D A (wMs q G.2 v49) → va_S A s.heap H locs → W p l e (rmD 6 0 0) s m ([.ref (q 0)] : List Value).toArray below meth c H locs 0 0 (MQ below (qV G (fun (_ : Unit) => True) (fun _ => (wMs q G.2 st0)) A) ([.ref (q 0)] : List Value).toArray s 0 0 A) (F0 m 165 ls []) := by
                  intro H locs ls hl hP hD hS
                  refine lv_iinc (k := 2) (v := v12 + 1) (lv' := [(2, .int (v12 + 1)), (0, .ref (q 0)), (1, .int v48), (3, .int e38)]) hx hb d15_28_165 hl rfl (by first | decide | rfl) (by decide) rfl (fun ls hl => ?_)
                  refine lv_goto (tgt := 37) hx hb d15_28_168 rfl ?_
                  have hl := lv_sub hl (l' := [(0, .ref (q 0)), (1, .int v48), (2, .int (v12 + 1))]) [1, 2, 0] rfl
                  exact ih _ _ _ h _ _ _ hl hP hD hS
                clear h
                refine lv_if_eq (tgt := 107) hx hb d15_28_95 rfl (fun c46 => ?_) (fun c46 => ?_)
                ·
                  replace h := (if_pos c46).symm.trans hX
                  refine lv_iload_n hx hb d15_28_107 rfl (lv_at hl 1 rfl) ?_
                  obtain ⟨e51, hX, h⟩ := ob h
                  have hj : ∀ (H : Heap) (locs : List Loc) (ls : Array Slot), lv_has ls 4 [(0, .ref (q 0)), (1, .int v11), (2, .int v12), (3, .int e38)] → va_P G.1 vwCl (wMs q G.2 e51) H → va_D A (wMs q G.2 e51) → va_S A s.heap H locs → W p l e (rmD 6 0 0) s m ([.ref (q 0)] : List Value).toArray below meth c H locs 0 0 (MQ below (qV G (fun (_ : Unit) => True) (fun _ => (wMs q G.2 st0)) A) ([.ref (q 0)] : List Value).toArray s 0 0 A) (F0 m 121 ls []) := by
                    intro H locs ls hl hP hD hS
                    refine lv_iload_n hx hb d15_28_121 rfl (lv_at hl 3 rfl) ?_
                    obtain ⟨e54, hX, h⟩ := ob h
                    have hj : ∀ (H : Heap) (locs : List Loc) (ls : Array Slot), lv_has ls 4 [(0, .ref (q 0)), (1, .int v11), (2, .int v12), (3, .int e38)] → va_P G.1 vwCl (wMs q G.2 e54) H → va_D A (wMs q G.2 e54) → va_S A s.heap H locs → W p l e (rmD 6 0 0) s m ([.ref (q 0)] : List Value).toArray below meth c H locs 0 0 (MQ below (qV G (fun (_ : Unit) => True) (fun _ => (wMs q G.2 st0)) A) ([.ref (q 0)] : List Value).toArray s 0 0 A) (F0 m 145 ls []) := by
                      intro H locs ls hl hP hD hS
                      refine lv_aload_n hx hb d15_28_145 rfl (lv_at hl 0 rfl) ?_
                      refine va_get (D := G.1) (ci := 13) (v := .int (e54.1 2)) (C := r_13) (T := f_13) (N := 42) (ref := "PagedValuesModel") hx hb hts (fun w h => List.mem_cons_of_mem _ (ly_13 w h)) hown hK hP 0 rfl rfl 3 (by decide) (hts _ (List.mem_cons_of_mem _ k1154)) (fun _ h9 => h9) rfl d15_28_146 ?_
                      obtain ⟨e57, hX, h⟩ := ob h
                      obtain ⟨v58, v59⟩ := e57
                      have hj : ∀ (H : Heap) (locs : List Loc) (ls : Array Slot), lv_has ls 4 [(0, .ref (q 0)), (1, .int v11), (2, .int v12), (3, .int e38)] → va_P G.1 vwCl (wMs q G.2 v59) H → va_D A (wMs q G.2 v59) → va_S A s.heap H locs → W p l e (rmD 6 0 0) s m ([.ref (q 0)] : List Value).toArray below meth c H locs 0 0 (MQ below (qV G (fun (_ : Unit) => True) (fun _ => (wMs q G.2 st0)) A) ([.ref (q 0)] : List Value).toArray s 0 0 A) (F0 m 164 ls [.int v58]) := by
                        intro H locs ls hl hP hD hS
                        refine lv_istore_n (lv' := [(1, .int v58), (0, .ref (q 0)), (2, .int v12), (3, .int e38)]) hx hb d15_28_164 rfl hl (by decide) rfl (fun ls hl => ?_)
                        have e9 := Option.some.inj h
                        obtain ⟨q9, e9⟩ := Prod.mk.inj e9
                        subst v48
                        subst v49
                        have hl := lv_sub hl (l' := [(0, .ref (q 0)), (1, .int v58), (2, .int v12), (3, .int e38)]) [1, 0, 2, 3] rfl
                        exact hj _ _ _ hl hP hD hS
                      clear h
                      refine lv_if_ge (tgt := 163) hx hb d15_28_149 rfl (fun c56 => ?_) (fun c56 => ?_)
                      ·
                        replace h := (if_pos c56).symm.trans hX
                        refine lv_iconst (v := 0) hx hb d15_28_163 (by decide) ?_
                        have e9 := Option.some.inj h
                        obtain ⟨q9, e9⟩ := Prod.mk.inj e9
                        subst v58
                        subst v59
                        have hl := lv_sub hl (l' := [(0, .ref (q 0)), (1, .int v11), (2, .int v12), (3, .int e38)]) [0, 1, 2, 3] rfl
                        exact hj _ _ _ hl hP hD hS
                      ·
                        replace h := (if_neg c56).symm.trans hX
                        refine lv_aload_n hx hb d15_28_152 rfl (lv_at hl 0 rfl) ?_
                        obtain ⟨⟨x60, st61⟩, hc, h⟩ := ob h
                        refine sV_i (As := []) (rest := []) ⟨hx, hb, hml, hown, hts⟩ (cm_begins l G Zd q e54 x60 st61 hc _) (kw_V (n := 0) hts k1316 k1313 k15 k1315 ks39 (by decide +kernel) ⟨Nat.le_of_ble_eq_true rfl, Nat.le_of_ble_eq_true rfl⟩) hP hD hK hS hA hZ (va_recv (ci := 13) (q0 := 0) hK hP rfl rfl) rfl hl.1 rfl (Nat.le_of_ble_eq_true rfl) d15_28_153 ⟨Nat.le_of_ble_eq_true rfl, Nat.le_of_ble_eq_true rfl⟩ (fun rr u9 H locs hp hP hD hS => ?_)
                        clear u9
                        subst rr
                        clear hc
                        refine W.eq (g2 := F0 m 156 ls [.int x60]) rfl ?_
                        have hP : va_P G.1 vwCl (wMs q G.2 st61) H := hP
                        have hD : va_D A (wMs q G.2 st61) := hD
                        refine lv_if_eq (tgt := 163) hx hb d15_28_156 rfl (fun c63 => ?_) (fun c63 => ?_)
                        ·
                          replace h := (if_pos c63).symm.trans h
                          refine lv_iconst (v := 0) hx hb d15_28_163 (by decide) ?_
                          have e9 := Option.some.inj h
                          obtain ⟨q9, e9⟩ := Prod.mk.inj e9
                          subst v58
                          subst v59
                          have hl := lv_sub hl (l' := [(0, .ref (q 0)), (1, .int v11), (2, .int v12), (3, .int e38)]) [0, 1, 2, 3] rfl
                          exact hj _ _ _ hl hP hD hS
                        ·
                          replace h := (if_neg c63).symm.trans h
                          refine lv_iconst (v := 1) hx hb d15_28_159 (by decide) ?_
                          refine lv_goto (tgt := 164) hx hb d15_28_160 rfl ?_
                          have e9 := Option.some.inj h
                          obtain ⟨q9, e9⟩ := Prod.mk.inj e9
                          subst v58
                          subst v59
                          have hl := lv_sub hl (l' := [(0, .ref (q 0)), (1, .int v11), (2, .int v12), (3, .int e38)]) [0, 1, 2, 3] rfl
                          exact hj _ _ _ hl hP hD hS
                    clear h
                    refine lv_if_eq (tgt := 134) hx hb d15_28_122 rfl (fun c53 => ?_) (fun c53 => ?_)
                    ·
                      replace h := (if_pos c53).symm.trans hX
                      refine lv_aload_n hx hb d15_28_134 rfl (lv_at hl 0 rfl) ?_
                      refine va_get (D := G.1) (ci := 13) (v := .int (e51.1 2)) (C := r_13) (T := f_13) (N := 42) (ref := "PagedValuesModel") hx hb hts (fun w h => List.mem_cons_of_mem _ (ly_13 w h)) hown hK hP 0 rfl rfl 3 (by decide) (hts _ (List.mem_cons_of_mem _ k1154)) (fun _ h9 => h9) rfl d15_28_135 ?_
                      refine lv_if_ge (tgt := 145) hx hb d15_28_138 rfl (fun c64 => ?_) (fun c64 => ?_)
                      ·
                        replace h := (if_pos c64).symm.trans h
                        have e9 := Option.some.inj h
                        subst e54
                        have hl := lv_sub hl (l' := [(0, .ref (q 0)), (1, .int v11), (2, .int v12), (3, .int e38)]) [0, 1, 2, 3] rfl
                        exact hj _ _ _ hl hP hD hS
                      ·
                        replace h := (if_neg c64).symm.trans h
                        refine lv_aload_n hx hb d15_28_141 rfl (lv_at hl 0 rfl) ?_
                        obtain ⟨st66, hc, h⟩ := ob h
                        refine sV_v (As := []) (rest := []) ⟨hx, hb, hml, hown, hts⟩ (cm_memberName l G Zd q e51 st66 hc _) (kw_V (n := 0) hts k1384 k1381 k15 k1383 ks54 (by decide +kernel) ⟨Nat.le_of_ble_eq_true rfl, Nat.le_of_ble_eq_true rfl⟩) hP hD hK hS hA hZ (va_recv (ci := 13) (q0 := 0) hK hP rfl rfl) rfl hl.1 rfl (Nat.le_of_ble_eq_true rfl) d15_28_142 ⟨Nat.le_of_ble_eq_true rfl, Nat.le_of_ble_eq_true rfl⟩ (fun u9 H locs hp hP hD hS => ?_)
                        clear u9
                        clear hp
                        clear hc
                        refine W.eq (g2 := F0 m 145 ls []) rfl ?_
                        have hP : va_P G.1 vwCl (wMs q G.2 st66) H := hP
                        have hD : va_D A (wMs q G.2 st66) := hD
                        have e9 := Option.some.inj h
                        subst e54
                        have hl := lv_sub hl (l' := [(0, .ref (q 0)), (1, .int v11), (2, .int v12), (3, .int e38)]) [0, 1, 2, 3] rfl
                        exact hj _ _ _ hl hP hD hS
                    ·
                      replace h := (if_neg c53).symm.trans hX
                      refine lv_aload_n hx hb d15_28_125 rfl (lv_at hl 0 rfl) ?_
                      refine lv_lconst (v := 0) hx hb d15_28_126 (by decide) ?_
                      refine lv_lconst (v := 0) hx hb d15_28_127 (by decide) ?_
                      obtain ⟨st69, hc, h⟩ := ob h
                      refine sV_v (As := [.long 0, .long 0]) (rest := []) ⟨hx, hb, hml, hown, hts⟩ (cm_named l G Zd q (0 : Int64) (0 : Int64) e51 st69 hc _) (kw_V (n := 2) hts k1309 k1306 k15 k1308 ks38 (by decide +kernel) ⟨Nat.le_of_ble_eq_true rfl, Nat.le_of_ble_eq_true rfl⟩) hP hD hK hS hA hZ (va_recv (ci := 13) (q0 := 0) hK hP rfl rfl) rfl hl.1 rfl (Nat.le_of_ble_eq_true rfl) d15_28_128 ⟨Nat.le_of_ble_eq_true rfl, Nat.le_of_ble_eq_true rfl⟩ (fun u9 H locs hp hP hD hS => ?_)
                      clear u9
                      clear hp
                      clear hc
                      refine W.eq (g2 := F0 m 131 ls []) rfl ?_
                      have hP : va_P G.1 vwCl (wMs q G.2 st69) H := hP
                      have hD : va_D A (wMs q G.2 st69) := hD
                      refine lv_goto (tgt := 145) hx hb d15_28_131 rfl ?_
                      have e9 := Option.some.inj h
                      subst e54
                      have hl := lv_sub hl (l' := [(0, .ref (q 0)), (1, .int v11), (2, .int v12), (3, .int e38)]) [0, 1, 2, 3] rfl
                      exact hj _ _ _ hl hP hD hS
                  clear h
                  refine lv_if_ne (tgt := 121) hx hb d15_28_108 rfl (fun c50 => ?_) (fun c50 => ?_)
                  ·
                    replace h := (if_neg c50).symm.trans hX
                    have e9 := Option.some.inj h
                    subst e51
                    have hl := lv_sub hl (l' := [(0, .ref (q 0)), (1, .int v11), (2, .int v12), (3, .int e38)]) [0, 1, 2, 3] rfl
                    exact hj _ _ _ hl hP hD hS
                  ·
                    replace h := (if_pos c50).symm.trans hX
                    refine lv_aload_n hx hb d15_28_111 rfl (lv_at hl 0 rfl) ?_
                    refine lv_bipush (v := 44) hx hb d15_28_112 (by decide) ?_
                    obtain ⟨st72, hc, h⟩ := ob h
                    refine sV_v (As := [.int 44]) (rest := []) ⟨hx, hb, hml, hown, hts⟩ (cm_must l G Zd q (44 : Int32) st32 st72 hc _) (kw_V (n := 1) hts k1336 k1333 k15 k1335 ks44 (by decide +kernel) ⟨Nat.le_of_ble_eq_true rfl, Nat.le_of_ble_eq_true rfl⟩) hP hD hK hS hA hZ (va_recv (ci := 13) (q0 := 0) hK hP rfl rfl) rfl hl.1 rfl (Nat.le_of_ble_eq_true rfl) d15_28_114 ⟨Nat.le_of_ble_eq_true rfl, Nat.le_of_ble_eq_true rfl⟩ (fun u9 H locs hp hP hD hS => ?_)
                    clear u9
                    clear hp
                    clear hc
                    refine W.eq (g2 := F0 m 117 ls []) rfl ?_
                    have hP : va_P G.1 vwCl (wMs q G.2 st72) H := hP
                    have hD : va_D A (wMs q G.2 st72) := hD
                    refine lv_aload_n hx hb d15_28_117 rfl (lv_at hl 0 rfl) ?_
                    obtain ⟨st75, hc, h⟩ := ob h
                    refine sV_v (As := []) (rest := []) ⟨hx, hb, hml, hown, hts⟩ (cm_blanks l G Zd q st72 st75 hc _) (kw_V (n := 0) hts k1297 k1294 k15 k1296 ks35 (by decide +kernel) ⟨Nat.le_of_ble_eq_true rfl, Nat.le_of_ble_eq_true rfl⟩) hP hD hK hS hA hZ (va_recv (ci := 13) (q0 := 0) hK hP rfl rfl) rfl hl.1 rfl (Nat.le_of_ble_eq_true rfl) d15_28_118 ⟨Nat.le_of_ble_eq_true rfl, Nat.le_of_ble_eq_true rfl⟩ (fun u9 H locs hp hP hD hS => ?_)
                    clear u9
                    clear hp
                    clear hc
                    refine W.eq (g2 := F0 m 121 ls []) rfl ?_
                    have hP : va_P G.1 vwCl (wMs q G.2 st75) H := hP
                    have hD : va_D A (wMs q G.2 st75) := hD
                    have e9 := Option.some.inj h
                    subst e51
                    have hl := lv_sub hl (l' := [(0, .ref (q 0)), (1, .int v11), (2, .int v12), (3, .int e38)]) [0, 1, 2, 3] rfl
                    exact hj _ _ _ hl hP hD hS
                ·
                  replace h := (if_neg c46).symm.trans hX
                  refine lv_aload_n hx hb d15_28_98 rfl (lv_at hl 0 rfl) ?_
                  obtain ⟨st78, hc, h⟩ := ob h
                  refine sV_v (As := []) (rest := []) ⟨hx, hb, hml, hown, hts⟩ (cm_ends l G Zd q st32 st78 hc _) (kw_V (n := 0) hts k1380 k1377 k15 k1379 ks53 (by decide +kernel) ⟨Nat.le_of_ble_eq_true rfl, Nat.le_of_ble_eq_true rfl⟩) hP hD hK hS hA hZ (va_recv (ci := 13) (q0 := 0) hK hP rfl rfl) rfl hl.1 rfl (Nat.le_of_ble_eq_true rfl) d15_28_99 ⟨Nat.le_of_ble_eq_true rfl, Nat.le_of_ble_eq_true rfl⟩ (fun u9 H locs hp hP hD hS => ?_)
                  clear u9
                  clear hp
                  clear hc
                  refine W.eq (g2 := F0 m 102 ls []) rfl ?_
                  have hP : va_P G.1 vwCl (wMs q G.2 st78) H := hP
                  have hD : va_D A (wMs q G.2 st78) := hD
                  refine lv_iconst (v := 0) hx hb d15_28_102 (by decide) ?_
                  refine lv_istore_n (lv' := [(1, .int 0), (0, .ref (q 0)), (2, .int v12), (3, .int e38)]) hx hb d15_28_103 rfl hl (by decide) rfl (fun ls hl => ?_)
                  refine lv_goto (tgt := 165) hx hb d15_28_104 rfl ?_
                  have e9 := Option.some.inj h
                  obtain ⟨q9, e9⟩ := Prod.mk.inj e9
                  subst v48
                  subst v49
                  have hl := lv_sub hl (l' := [(0, .ref (q 0)), (1, .int 0), (2, .int v12), (3, .int e38)]) [1, 0, 2, 3] rfl
                  exact hj _ _ _ hl hP hD hS
              clear h
              refine lv_if_eq (tgt := 90) hx hb d15_28_82 rfl (fun c40 => ?_) (fun c40 => ?_)
              ·
                replace h := (if_pos c40).symm.trans hX
                refine lv_bipush (v := 125) hx hb d15_28_90 (by decide) ?_
                have e9 := Option.some.inj h
                subst e41
                have hl := lv_sub hl (l' := [(0, .ref (q 0)), (1, .int v11), (2, .int v12), (3, .int e38)]) [1, 2, 3, 0] rfl
                exact hj _ _ _ hl hP hD hS
              ·
                replace h := (if_neg c40).symm.trans hX
                refine lv_bipush (v := 93) hx hb d15_28_85 (by decide) ?_
                refine lv_goto (tgt := 92) hx hb d15_28_87 rfl ?_
                have e9 := Option.some.inj h
                subst e41
                have hl := lv_sub hl (l' := [(0, .ref (q 0)), (1, .int v11), (2, .int v12), (3, .int e38)]) [1, 2, 3, 0] rfl
                exact hj _ _ _ hl hP hD hS
            clear h
            refine lv_icmp_ne (tgt := 78) hx hb d15_28_71 rfl (fun c37 => ?_) (fun c37 => ?_)
            ·
              replace h := (if_neg c37).symm.trans hX
              refine lv_iconst (v := 0) hx hb d15_28_78 (by decide) ?_
              have e9 := Option.some.inj h
              subst e38
              have hl := lv_sub hl (l' := [(0, .ref (q 0)), (1, .int v11), (2, .int v12)]) [0, 1, 2] rfl
              exact hj _ _ _ hl hP hD hS
            ·
              replace h := (if_pos c37).symm.trans hX
              refine lv_iconst (v := 1) hx hb d15_28_74 (by decide) ?_
              refine lv_goto (tgt := 79) hx hb d15_28_75 rfl ?_
              have e9 := Option.some.inj h
              subst e38
              have hl := lv_sub hl (l' := [(0, .ref (q 0)), (1, .int v11), (2, .int v12)]) [0, 1, 2] rfl
              exact hj _ _ _ hl hP hD hS
          ·
            replace h := (if_neg c30).symm.trans h
            refine lv_iload_n hx hb d15_28_58 rfl (lv_at hl 1 rfl) ?_
            refine lv_if_eq (tgt := 171) hx hb d15_28_59 rfl (fun c80 => ?_) (fun c80 => ?_)
            ·
              replace h := (if_pos c80).symm.trans h
              have e9 := Option.some.inj h
              subst e10
              have hl := lv_sub hl (l' := [(0, .ref (q 0)), (1, .int v11), (2, .int v12)]) [0, 1, 2] rfl
              exact hj _ _ _ rfl _ _ _ hl hP hD hS
            ·
              replace h := (if_neg c80).symm.trans h
              refine lv_aload_n hx hb d15_28_62 rfl (lv_at hl 0 rfl) ?_
              obtain ⟨st82, hc, h⟩ := ob h
              refine sV_v (As := []) (rest := []) ⟨hx, hb, hml, hown, hts⟩ (cm_blanks l G Zd q v13 st82 hc _) (kw_V (n := 0) hts k1297 k1294 k15 k1296 ks35 (by decide +kernel) ⟨Nat.le_of_ble_eq_true rfl, Nat.le_of_ble_eq_true rfl⟩) hP hD hK hS hA hZ (va_recv (ci := 13) (q0 := 0) hK hP rfl rfl) rfl hl.1 rfl (Nat.le_of_ble_eq_true rfl) d15_28_63 ⟨Nat.le_of_ble_eq_true rfl, Nat.le_of_ble_eq_true rfl⟩ (fun u9 H locs hp hP hD hS => ?_)
              clear u9
              clear hp
              clear hc
              refine W.eq (g2 := F0 m 66 ls []) rfl ?_
              have hP : va_P G.1 vwCl (wMs q G.2 st82) H := hP
              have hD : va_D A (wMs q G.2 st82) := hD
              refine lv_aload_n hx hb d15_28_66 rfl (lv_at hl 0 rfl) ?_
              obtain ⟨x84, hc, h⟩ := ob h
              refine sV_i (As := []) (rest := []) ⟨hx, hb, hml, hown, hts⟩ (cm_holder l G Zd q st82 x84 hc _) (kw_V (n := 0) hts k1376 k1373 k15 k1375 ks52 (by decide +kernel) ⟨Nat.le_of_ble_eq_true rfl, Nat.le_of_ble_eq_true rfl⟩) hP hD hK hS hA hZ (va_recv (ci := 13) (q0 := 0) hK hP rfl rfl) rfl hl.1 rfl (Nat.le_of_ble_eq_true rfl) d15_28_67 ⟨Nat.le_of_ble_eq_true rfl, Nat.le_of_ble_eq_true rfl⟩ (fun rr u9 H locs hp hP hD hS => ?_)
              clear u9
              subst rr
              clear hc
              refine W.eq (g2 := F0 m 70 ls [.int x84]) rfl ?_
              have hP : va_P G.1 vwCl (wMs q G.2 st82) H := hP
              have hD : va_D A (wMs q G.2 st82) := hD
              refine lv_iconst (v := 5) hx hb d15_28_70 (by decide) ?_
              obtain ⟨e88, hX, h⟩ := ob h
              have hj : ∀ (H : Heap) (locs : List Loc) (ls : Array Slot), lv_has ls 4 [(0, .ref (q 0)), (1, .int v11), (2, .int v12)] → va_P G.1 vwCl (wMs q G.2 st82) H → va_D A (wMs q G.2 st82) → va_S A s.heap H locs → W p l e (rmD 6 0 0) s m ([.ref (q 0)] : List Value).toArray below meth c H locs 0 0 (MQ below (qV G (fun (_ : Unit) => True) (fun _ => (wMs q G.2 st0)) A) ([.ref (q 0)] : List Value).toArray s 0 0 A) (F0 m 79 ls [.int e88]) := by
                intro H locs ls hl hP hD hS
                refine lv_istore_n (lv' := [(3, .int e88), (0, .ref (q 0)), (1, .int v11), (2, .int v12)]) hx hb d15_28_79 rfl hl (by decide) rfl (fun ls hl => ?_)
                refine lv_aload_n hx hb d15_28_80 rfl (lv_at hl 1 rfl) ?_
                refine lv_iload_n hx hb d15_28_81 rfl (lv_at hl 0 rfl) ?_
                obtain ⟨e91, hX, h⟩ := ob h
                have hj : ∀ (H : Heap) (locs : List Loc) (ls : Array Slot), lv_has ls 4 [(0, .ref (q 0)), (1, .int v11), (2, .int v12), (3, .int e88)] → va_P G.1 vwCl (wMs q G.2 st82) H → va_D A (wMs q G.2 st82) → va_S A s.heap H locs → W p l e (rmD 6 0 0) s m ([.ref (q 0)] : List Value).toArray below meth c H locs 0 0 (MQ below (qV G (fun (_ : Unit) => True) (fun _ => (wMs q G.2 st0)) A) ([.ref (q 0)] : List Value).toArray s 0 0 A) (F0 m 92 ls [.int e91, .ref (q 0)]) := by
                  intro H locs ls hl hP hD hS
                  obtain ⟨x93, hc, h⟩ := ob h
                  refine sV_i (As := [.int e91]) (rest := []) ⟨hx, hb, hml, hown, hts⟩ (cm_sees l G Zd q e91 st82 x93 hc _) (kw_V (n := 1) hts k1301 k1298 k15 k1300 ks36 (by decide +kernel) ⟨Nat.le_of_ble_eq_true rfl, Nat.le_of_ble_eq_true rfl⟩) hP hD hK hS hA hZ (va_recv (ci := 13) (q0 := 0) hK hP rfl rfl) rfl hl.1 rfl (Nat.le_of_ble_eq_true rfl) d15_28_92 ⟨Nat.le_of_ble_eq_true rfl, Nat.le_of_ble_eq_true rfl⟩ (fun rr u9 H locs hp hP hD hS => ?_)
                  clear u9
                  subst rr
                  clear hc
                  refine W.eq (g2 := F0 m 95 ls [.int x93]) rfl ?_
                  have hP : va_P G.1 vwCl (wMs q G.2 st82) H := hP
                  have hD : va_D A (wMs q G.2 st82) := hD
                  obtain ⟨e97, hX, h⟩ := ob h
                  obtain ⟨v98, v99⟩ := e97
                  have hj : ∀ (H : Heap) (locs : List Loc) (ls : Array Slot), lv_has ls 4 [(0, .ref (q 0)), (1, .int v98), (2, .int v12), (3, .int e88)] → va_P G.1 vwCl (wMs q G.2 v99) H → va_D A (wMs q G.2 v99) → va_S A s.heap H locs → W p l e (rmD 6 0 0) s m ([.ref (q 0)] : List Value).toArray below meth c H locs 0 0 (MQ below (qV G (fun (_ : Unit) => True) (fun _ => (wMs q G.2 st0)) A) ([.ref (q 0)] : List Value).toArray s 0 0 A) (F0 m 165 ls []) := by
                    intro H locs ls hl hP hD hS
                    refine lv_iinc (k := 2) (v := v12 + 1) (lv' := [(2, .int (v12 + 1)), (0, .ref (q 0)), (1, .int v98), (3, .int e88)]) hx hb d15_28_165 hl rfl (by first | decide | rfl) (by decide) rfl (fun ls hl => ?_)
                    refine lv_goto (tgt := 37) hx hb d15_28_168 rfl ?_
                    have hl := lv_sub hl (l' := [(0, .ref (q 0)), (1, .int v98), (2, .int (v12 + 1))]) [1, 2, 0] rfl
                    exact ih _ _ _ h _ _ _ hl hP hD hS
                  clear h
                  refine lv_if_eq (tgt := 107) hx hb d15_28_95 rfl (fun c96 => ?_) (fun c96 => ?_)
                  ·
                    replace h := (if_pos c96).symm.trans hX
                    refine lv_iload_n hx hb d15_28_107 rfl (lv_at hl 1 rfl) ?_
                    obtain ⟨e101, hX, h⟩ := ob h
                    have hj : ∀ (H : Heap) (locs : List Loc) (ls : Array Slot), lv_has ls 4 [(0, .ref (q 0)), (1, .int v11), (2, .int v12), (3, .int e88)] → va_P G.1 vwCl (wMs q G.2 e101) H → va_D A (wMs q G.2 e101) → va_S A s.heap H locs → W p l e (rmD 6 0 0) s m ([.ref (q 0)] : List Value).toArray below meth c H locs 0 0 (MQ below (qV G (fun (_ : Unit) => True) (fun _ => (wMs q G.2 st0)) A) ([.ref (q 0)] : List Value).toArray s 0 0 A) (F0 m 121 ls []) := by
                      intro H locs ls hl hP hD hS
                      refine lv_iload_n hx hb d15_28_121 rfl (lv_at hl 3 rfl) ?_
                      obtain ⟨e104, hX, h⟩ := ob h
                      have hj : ∀ (H : Heap) (locs : List Loc) (ls : Array Slot), lv_has ls 4 [(0, .ref (q 0)), (1, .int v11), (2, .int v12), (3, .int e88)] → va_P G.1 vwCl (wMs q G.2 e104) H → va_D A (wMs q G.2 e104) → va_S A s.heap H locs → W p l e (rmD 6 0 0) s m ([.ref (q 0)] : List Value).toArray below meth c H locs 0 0 (MQ below (qV G (fun (_ : Unit) => True) (fun _ => (wMs q G.2 st0)) A) ([.ref (q 0)] : List Value).toArray s 0 0 A) (F0 m 145 ls []) := by
                        intro H locs ls hl hP hD hS
                        refine lv_aload_n hx hb d15_28_145 rfl (lv_at hl 0 rfl) ?_
                        refine va_get (D := G.1) (ci := 13) (v := .int (e104.1 2)) (C := r_13) (T := f_13) (N := 42) (ref := "PagedValuesModel") hx hb hts (fun w h => List.mem_cons_of_mem _ (ly_13 w h)) hown hK hP 0 rfl rfl 3 (by decide) (hts _ (List.mem_cons_of_mem _ k1154)) (fun _ h9 => h9) rfl d15_28_146 ?_
                        obtain ⟨e107, hX, h⟩ := ob h
                        obtain ⟨v108, v109⟩ := e107
                        have hj : ∀ (H : Heap) (locs : List Loc) (ls : Array Slot), lv_has ls 4 [(0, .ref (q 0)), (1, .int v11), (2, .int v12), (3, .int e88)] → va_P G.1 vwCl (wMs q G.2 v109) H → va_D A (wMs q G.2 v109) → va_S A s.heap H locs → W p l e (rmD 6 0 0) s m ([.ref (q 0)] : List Value).toArray below meth c H locs 0 0 (MQ below (qV G (fun (_ : Unit) => True) (fun _ => (wMs q G.2 st0)) A) ([.ref (q 0)] : List Value).toArray s 0 0 A) (F0 m 164 ls [.int v108]) := by
                          intro H locs ls hl hP hD hS
                          refine lv_istore_n (lv' := [(1, .int v108), (0, .ref (q 0)), (2, .int v12), (3, .int e88)]) hx hb d15_28_164 rfl hl (by decide) rfl (fun ls hl => ?_)
                          have e9 := Option.some.inj h
                          obtain ⟨q9, e9⟩ := Prod.mk.inj e9
                          subst v98
                          subst v99
                          have hl := lv_sub hl (l' := [(0, .ref (q 0)), (1, .int v108), (2, .int v12), (3, .int e88)]) [1, 0, 2, 3] rfl
                          exact hj _ _ _ hl hP hD hS
                        clear h
                        refine lv_if_ge (tgt := 163) hx hb d15_28_149 rfl (fun c106 => ?_) (fun c106 => ?_)
                        ·
                          replace h := (if_pos c106).symm.trans hX
                          refine lv_iconst (v := 0) hx hb d15_28_163 (by decide) ?_
                          have e9 := Option.some.inj h
                          obtain ⟨q9, e9⟩ := Prod.mk.inj e9
                          subst v108
                          subst v109
                          have hl := lv_sub hl (l' := [(0, .ref (q 0)), (1, .int v11), (2, .int v12), (3, .int e88)]) [0, 1, 2, 3] rfl
                          exact hj _ _ _ hl hP hD hS
                        ·
                          replace h := (if_neg c106).symm.trans hX
                          refine lv_aload_n hx hb d15_28_152 rfl (lv_at hl 0 rfl) ?_
                          obtain ⟨⟨x110, st111⟩, hc, h⟩ := ob h
                          refine sV_i (As := []) (rest := []) ⟨hx, hb, hml, hown, hts⟩ (cm_begins l G Zd q e104 x110 st111 hc _) (kw_V (n := 0) hts k1316 k1313 k15 k1315 ks39 (by decide +kernel) ⟨Nat.le_of_ble_eq_true rfl, Nat.le_of_ble_eq_true rfl⟩) hP hD hK hS hA hZ (va_recv (ci := 13) (q0 := 0) hK hP rfl rfl) rfl hl.1 rfl (Nat.le_of_ble_eq_true rfl) d15_28_153 ⟨Nat.le_of_ble_eq_true rfl, Nat.le_of_ble_eq_true rfl⟩ (fun rr u9 H locs hp hP hD hS => ?_)
                          clear u9
                          subst rr
                          clear hc
                          refine W.eq (g2 := F0 m 156 ls [.int x110]) rfl ?_
                          have hP : va_P G.1 vwCl (wMs q G.2 st111) H := hP
                          have hD : va_D A (wMs q G.2 st111) := hD
                          refine lv_if_eq (tgt := 163) hx hb d15_28_156 rfl (fun c113 => ?_) (fun c113 => ?_)
                          ·
                            replace h := (if_pos c113).symm.trans h
                            refine lv_iconst (v := 0) hx hb d15_28_163 (by decide) ?_
                            have e9 := Option.some.inj h
                            obtain ⟨q9, e9⟩ := Prod.mk.inj e9
                            subst v108
                            subst v109
                            have hl := lv_sub hl (l' := [(0, .ref (q 0)), (1, .int v11), (2, .int v12), (3, .int e88)]) [0, 1, 2, 3] rfl
                            exact hj _ _ _ hl hP hD hS
                          ·
                            replace h := (if_neg c113).symm.trans h
                            refine lv_iconst (v := 1) hx hb d15_28_159 (by decide) ?_
                            refine lv_goto (tgt := 164) hx hb d15_28_160 rfl ?_
                            have e9 := Option.some.inj h
                            obtain ⟨q9, e9⟩ := Prod.mk.inj e9
                            subst v108
                            subst v109
                            have hl := lv_sub hl (l' := [(0, .ref (q 0)), (1, .int v11), (2, .int v12), (3, .int e88)]) [0, 1, 2, 3] rfl
                            exact hj _ _ _ hl hP hD hS
                      clear h
                      refine lv_if_eq (tgt := 134) hx hb d15_28_122 rfl (fun c103 => ?_) (fun c103 => ?_)
                      ·
                        replace h := (if_pos c103).symm.trans hX
                        refine lv_aload_n hx hb d15_28_134 rfl (lv_at hl 0 rfl) ?_
                        refine va_get (D := G.1) (ci := 13) (v := .int (e101.1 2)) (C := r_13) (T := f_13) (N := 42) (ref := "PagedValuesModel") hx hb hts (fun w h => List.mem_cons_of_mem _ (ly_13 w h)) hown hK hP 0 rfl rfl 3 (by decide) (hts _ (List.mem_cons_of_mem _ k1154)) (fun _ h9 => h9) rfl d15_28_135 ?_
                        refine lv_if_ge (tgt := 145) hx hb d15_28_138 rfl (fun c114 => ?_) (fun c114 => ?_)
                        ·
                          replace h := (if_pos c114).symm.trans h
                          have e9 := Option.some.inj h
                          subst e104
                          have hl := lv_sub hl (l' := [(0, .ref (q 0)), (1, .int v11), (2, .int v12), (3, .int e88)]) [0, 1, 2, 3] rfl
                          exact hj _ _ _ hl hP hD hS
                        ·
                          replace h := (if_neg c114).symm.trans h
                          refine lv_aload_n hx hb d15_28_141 rfl (lv_at hl 0 rfl) ?_
                          obtain ⟨st116, hc, h⟩ := ob h
                          refine sV_v (As := []) (rest := []) ⟨hx, hb, hml, hown, hts⟩ (cm_memberName l G Zd q e101 st116 hc _) (kw_V (n := 0) hts k1384 k1381 k15 k1383 ks54 (by decide +kernel) ⟨Nat.le_of_ble_eq_true rfl, Nat.le_of_ble_eq_true rfl⟩) hP hD hK hS hA hZ (va_recv (ci := 13) (q0 := 0) hK hP rfl rfl) rfl hl.1 rfl (Nat.le_of_ble_eq_true rfl) d15_28_142 ⟨Nat.le_of_ble_eq_true rfl, Nat.le_of_ble_eq_true rfl⟩ (fun u9 H locs hp hP hD hS => ?_)
                          clear u9
                          clear hp
                          clear hc
                          refine W.eq (g2 := F0 m 145 ls []) rfl ?_
                          have hP : va_P G.1 vwCl (wMs q G.2 st116) H := hP
                          have hD : va_D A (wMs q G.2 st116) := hD
                          have e9 := Option.some.inj h
                          subst e104
                          have hl := lv_sub hl (l' := [(0, .ref (q 0)), (1, .int v11), (2, .int v12), (3, .int e88)]) [0, 1, 2, 3] rfl
                          exact hj _ _ _ hl hP hD hS
                      ·
                        replace h := (if_neg c103).symm.trans hX
                        refine lv_aload_n hx hb d15_28_125 rfl (lv_at hl 0 rfl) ?_
                        refine lv_lconst (v := 0) hx hb d15_28_126 (by decide) ?_
                        refine lv_lconst (v := 0) hx hb d15_28_127 (by decide) ?_
                        obtain ⟨st119, hc, h⟩ := ob h
                        refine sV_v (As := [.long 0, .long 0]) (rest := []) ⟨hx, hb, hml, hown, hts⟩ (cm_named l G Zd q (0 : Int64) (0 : Int64) e101 st119 hc _) (kw_V (n := 2) hts k1309 k1306 k15 k1308 ks38 (by decide +kernel) ⟨Nat.le_of_ble_eq_true rfl, Nat.le_of_ble_eq_true rfl⟩) hP hD hK hS hA hZ (va_recv (ci := 13) (q0 := 0) hK hP rfl rfl) rfl hl.1 rfl (Nat.le_of_ble_eq_true rfl) d15_28_128 ⟨Nat.le_of_ble_eq_true rfl, Nat.le_of_ble_eq_true rfl⟩ (fun u9 H locs hp hP hD hS => ?_)
                        clear u9
                        clear hp
                        clear hc
                        refine W.eq (g2 := F0 m 131 ls []) rfl ?_
                        have hP : va_P G.1 vwCl (wMs q G.2 st119) H := hP
                        have hD : va_D A (wMs q G.2 st119) := hD
                        refine lv_goto (tgt := 145) hx hb d15_28_131 rfl ?_
                        have e9 := Option.some.inj h
                        subst e104
                        have hl := lv_sub hl (l' := [(0, .ref (q 0)), (1, .int v11), (2, .int v12), (3, .int e88)]) [0, 1, 2, 3] rfl
                        exact hj _ _ _ hl hP hD hS
                    clear h
                    refine lv_if_ne (tgt := 121) hx hb d15_28_108 rfl (fun c100 => ?_) (fun c100 => ?_)
                    ·
                      replace h := (if_neg c100).symm.trans hX
                      have e9 := Option.some.inj h
                      subst e101
                      have hl := lv_sub hl (l' := [(0, .ref (q 0)), (1, .int v11), (2, .int v12), (3, .int e88)]) [0, 1, 2, 3] rfl
                      exact hj _ _ _ hl hP hD hS
                    ·
                      replace h := (if_pos c100).symm.trans hX
                      refine lv_aload_n hx hb d15_28_111 rfl (lv_at hl 0 rfl) ?_
                      refine lv_bipush (v := 44) hx hb d15_28_112 (by decide) ?_
                      obtain ⟨st122, hc, h⟩ := ob h
                      refine sV_v (As := [.int 44]) (rest := []) ⟨hx, hb, hml, hown, hts⟩ (cm_must l G Zd q (44 : Int32) st82 st122 hc _) (kw_V (n := 1) hts k1336 k1333 k15 k1335 ks44 (by decide +kernel) ⟨Nat.le_of_ble_eq_true rfl, Nat.le_of_ble_eq_true rfl⟩) hP hD hK hS hA hZ (va_recv (ci := 13) (q0 := 0) hK hP rfl rfl) rfl hl.1 rfl (Nat.le_of_ble_eq_true rfl) d15_28_114 ⟨Nat.le_of_ble_eq_true rfl, Nat.le_of_ble_eq_true rfl⟩ (fun u9 H locs hp hP hD hS => ?_)
                      clear u9
                      clear hp
                      clear hc
                      refine W.eq (g2 := F0 m 117 ls []) rfl ?_
                      have hP : va_P G.1 vwCl (wMs q G.2 st122) H := hP
                      have hD : va_D A (wMs q G.2 st122) := hD
                      refine lv_aload_n hx hb d15_28_117 rfl (lv_at hl 0 rfl) ?_
                      obtain ⟨st125, hc, h⟩ := ob h
                      refine sV_v (As := []) (rest := []) ⟨hx, hb, hml, hown, hts⟩ (cm_blanks l G Zd q st122 st125 hc _) (kw_V (n := 0) hts k1297 k1294 k15 k1296 ks35 (by decide +kernel) ⟨Nat.le_of_ble_eq_true rfl, Nat.le_of_ble_eq_true rfl⟩) hP hD hK hS hA hZ (va_recv (ci := 13) (q0 := 0) hK hP rfl rfl) rfl hl.1 rfl (Nat.le_of_ble_eq_true rfl) d15_28_118 ⟨Nat.le_of_ble_eq_true rfl, Nat.le_of_ble_eq_true rfl⟩ (fun u9 H locs hp hP hD hS => ?_)
                      clear u9
                      clear hp
                      clear hc
                      refine W.eq (g2 := F0 m 121 ls []) rfl ?_
                      have hP : va_P G.1 vwCl (wMs q G.2 st125) H := hP
                      have hD : va_D A (wMs q G.2 st125) := hD
                      have e9 := Option.some.inj h
                      subst e101
                      have hl := lv_sub hl (l' := [(0, .ref (q 0)), (1, .int v11), (2, .int v12), (3, .int e88)]) [0, 1, 2, 3] rfl
                      exact hj _ _ _ hl hP hD hS
                  ·
                    replace h := (if_neg c96).symm.trans hX
                    refine lv_aload_n hx hb d15_28_98 rfl (lv_at hl 0 rfl) ?_
                    obtain ⟨st128, hc, h⟩ := ob h
                    refine sV_v (As := []) (rest := []) ⟨hx, hb, hml, hown, hts⟩ (cm_ends l G Zd q st82 st128 hc _) (kw_V (n := 0) hts k1380 k1377 k15 k1379 ks53 (by decide +kernel) ⟨Nat.le_of_ble_eq_true rfl, Nat.le_of_ble_eq_true rfl⟩) hP hD hK hS hA hZ (va_recv (ci := 13) (q0 := 0) hK hP rfl rfl) rfl hl.1 rfl (Nat.le_of_ble_eq_true rfl) d15_28_99 ⟨Nat.le_of_ble_eq_true rfl, Nat.le_of_ble_eq_true rfl⟩ (fun u9 H locs hp hP hD hS => ?_)
                    clear u9
                    clear hp
                    clear hc
                    refine W.eq (g2 := F0 m 102 ls []) rfl ?_
                    have hP : va_P G.1 vwCl (wMs q G.2 st128) H := hP
                    have hD : va_D A (wMs q G.2 st128) := hD
                    refine lv_iconst (v := 0) hx hb d15_28_102 (by decide) ?_
                    refine lv_istore_n (lv' := [(1, .int 0), (0, .ref (q 0)), (2, .int v12), (3, .int e88)]) hx hb d15_28_103 rfl hl (by decide) rfl (fun ls hl => ?_)
                    refine lv_goto (tgt := 165) hx hb d15_28_104 rfl ?_
                    have e9 := Option.some.inj h
                    obtain ⟨q9, e9⟩ := Prod.mk.inj e9
                    subst v98
                    subst v99
                    have hl := lv_sub hl (l' := [(0, .ref (q 0)), (1, .int 0), (2, .int v12), (3, .int e88)]) [1, 0, 2, 3] rfl
                    exact hj _ _ _ hl hP hD hS
                clear h
                refine lv_if_eq (tgt := 90) hx hb d15_28_82 rfl (fun c90 => ?_) (fun c90 => ?_)
                ·
                  replace h := (if_pos c90).symm.trans hX
                  refine lv_bipush (v := 125) hx hb d15_28_90 (by decide) ?_
                  have e9 := Option.some.inj h
                  subst e91
                  have hl := lv_sub hl (l' := [(0, .ref (q 0)), (1, .int v11), (2, .int v12), (3, .int e88)]) [1, 2, 3, 0] rfl
                  exact hj _ _ _ hl hP hD hS
                ·
                  replace h := (if_neg c90).symm.trans hX
                  refine lv_bipush (v := 93) hx hb d15_28_85 (by decide) ?_
                  refine lv_goto (tgt := 92) hx hb d15_28_87 rfl ?_
                  have e9 := Option.some.inj h
                  subst e91
                  have hl := lv_sub hl (l' := [(0, .ref (q 0)), (1, .int v11), (2, .int v12), (3, .int e88)]) [1, 2, 3, 0] rfl
                  exact hj _ _ _ hl hP hD hS
              clear h
              refine lv_icmp_ne (tgt := 78) hx hb d15_28_71 rfl (fun c87 => ?_) (fun c87 => ?_)
              ·
                replace h := (if_neg c87).symm.trans hX
                refine lv_iconst (v := 0) hx hb d15_28_78 (by decide) ?_
                have e9 := Option.some.inj h
                subst e88
                have hl := lv_sub hl (l' := [(0, .ref (q 0)), (1, .int v11), (2, .int v12)]) [0, 1, 2] rfl
                exact hj _ _ _ hl hP hD hS
              ·
                replace h := (if_pos c87).symm.trans hX
                refine lv_iconst (v := 1) hx hb d15_28_74 (by decide) ?_
                refine lv_goto (tgt := 79) hx hb d15_28_75 rfl ?_
                have e9 := Option.some.inj h
                subst e88
                have hl := lv_sub hl (l' := [(0, .ref (q 0)), (1, .int v11), (2, .int v12)]) [0, 1, 2] rfl
                exact hj _ _ _ hl hP hD hS
  have hl := lv_sub hl (l' := [(0, .ref (q 0)), (1, .int x7), (2, .int 0)]) [2, 1, 0] rfl
  exact hloop _ _ _ _ hX _ _ _ hl hP hD hS
def m_current (st : MS) : Option (Int32) := (rd (st.2.2.1 16) 2 (1 : Int32)).bind fun x1 => (rd (st.2.2.1 16) 2 (0 : Int32)).bind fun x2 => (if x1 ≤ x2 then (some (0 : Int32)) else (some (1 : Int32))).bind fun e4 => some e4
set_option maxHeartbeats 4000000 in
set_option maxRecDepth 100000 in
theorem cm_current (l : Launch) (G : Gk) (Zd : Nat → Nat) (q : Nat → Nat) (st : MS) (r0 : Int32) (hm : m_current st = some r0) (sz : Nat) : Met l y15_52 (Cond.code y15_52 prog_15_method_52_code 1 (some .int) :: TB) (rmD 0 0 0) (va_Pc [.ref (q 0)] (pcW G Zd (wMs q G.2 st) sz)) (qI G (fun rr (_ : Unit) => rr = r0) (fun _ => (wMs q G.2 st)) (va_A (wMs q G.2 st) sz)) 0 0 (va_A (wMs q G.2 st) sz) := by
  refine go (y := y15_52) (cc := prog_15_method_52_code) (maxL := 1) (ret := (some .int)) (av := [.ref (q 0)]) (Qc := qI G (fun rr (_ : Unit) => rr = r0) (fun _ => (wMs q G.2 st))) "PagedValuesModel" rfl (by decide) (Nat.le_of_ble_eq_true rfl) ?_
  intro p e s m below meth c ls A hx hb hr hlk hml hown hts hin hl hP hD hK hS hA hZ
  have hl : lv_has ls 1 [(0, .ref (q 0))] := hl
  have h := hm
  clear hm
  refine lv_aload_n hx hb d15_52_0 rfl (lv_at hl 0 rfl) ?_
  refine va_get (D := G.1) (ci := 13) (v := .ref (q 23)) (C := r_13) (T := f_13) (N := 42) (ref := "PagedValuesModel") hx hb hts (fun w h => List.mem_cons_of_mem _ (ly_13 w h)) hown hK hP 0 rfl rfl 36 (by decide) (hts _ (List.mem_cons_of_mem _ k1187)) (fun _ h9 => h9) rfl d15_52_1 ?_
  refine lv_iconst (v := 1) hx hb d15_52_4 (by decide) ?_
  obtain ⟨x1, hr, h⟩ := ob h
  obtain ⟨hi, hv⟩ := rd_some hr
  refine va_iald (D := G.1) hx hb hK hP 23 1 rfl rfl (i := (1 : Int32)) hi d15_52_5 ?_
  refine lv_topi (fun y9 ey => ?_)
  have e9 := ey.trans hv
  clear ey
  subst y9
  clear hv hi hr
  refine lv_aload_n hx hb d15_52_6 rfl (lv_at hl 0 rfl) ?_
  refine va_get (D := G.1) (ci := 13) (v := .ref (q 23)) (C := r_13) (T := f_13) (N := 42) (ref := "PagedValuesModel") hx hb hts (fun w h => List.mem_cons_of_mem _ (ly_13 w h)) hown hK hP 0 rfl rfl 36 (by decide) (hts _ (List.mem_cons_of_mem _ k1187)) (fun _ h9 => h9) rfl d15_52_7 ?_
  refine lv_iconst (v := 0) hx hb d15_52_10 (by decide) ?_
  obtain ⟨x2, hr, h⟩ := ob h
  obtain ⟨hi, hv⟩ := rd_some hr
  refine va_iald (D := G.1) hx hb hK hP 23 1 rfl rfl (i := (0 : Int32)) hi d15_52_11 ?_
  refine lv_topi (fun y9 ey => ?_)
  have e9 := ey.trans hv
  clear ey
  subst y9
  clear hv hi hr
  obtain ⟨e4, hX, h⟩ := ob h
  have hj : ∀ (H : Heap) (locs : List Loc) (ls : Array Slot), lv_has ls 1 [(0, .ref (q 0))] → va_P G.1 vwCl (wMs q G.2 st) H → va_D A (wMs q G.2 st) → va_S A s.heap H locs → W p l e (rmD 0 0 0) s m ([.ref (q 0)] : List Value).toArray below meth c H locs 0 0 (MQ below (qI G (fun rr (_ : Unit) => rr = r0) (fun _ => (wMs q G.2 st)) A) ([.ref (q 0)] : List Value).toArray s 0 0 A) (F0 m 20 ls [.int e4]) := by
    intro H locs ls hl hP hD hS
    cases h
    exact fin_i hx hb hr hlk hS () rfl hP hD (Nat.le_of_ble_eq_true rfl) (Nat.le_of_ble_eq_true rfl) d15_52_20
  clear h
  refine lv_icmp_le (tgt := 19) hx hb d15_52_12 rfl (fun c3 => ?_) (fun c3 => ?_)
  ·
    replace h := (if_pos c3).symm.trans hX
    refine lv_iconst (v := 0) hx hb d15_52_19 (by decide) ?_
    have e9 := Option.some.inj h
    subst e4
    have hl := lv_sub hl (l' := [(0, .ref (q 0))]) [0] rfl
    exact hj _ _ _ hl hP hD hS
  ·
    replace h := (if_neg c3).symm.trans hX
    refine lv_iconst (v := 1) hx hb d15_52_15 (by decide) ?_
    refine lv_goto (tgt := 20) hx hb d15_52_16 rfl ?_
    have e9 := Option.some.inj h
    subst e4
    have hl := lv_sub hl (l' := [(0, .ref (q 0))]) [0] rfl
    exact hj _ _ _ hl hP hD hS
def m_reaches (a0 : Int32) (a1 : Int32) (st : MS) : Option (Int32) := (if a0 < (0 : Int32) then (some (0 : Int32)) else (if a0 = a1 then (some (1 : Int32)) else ((some (2 * a0)).bind fun y5 => (rd (st.2.2.1 13) 24 y5).bind fun x6 => if x6 = a1 then (some (1 : Int32)) else ((some (2 * a0)).bind fun y8 => (some (y8 + 1)).bind fun y9 => (rd (st.2.2.1 13) 24 y9).bind fun x10 => if x10 = a1 then (some (1 : Int32)) else (some (0 : Int32)))))).bind fun e2 => (bz e2).bind fun _ => some e2
set_option maxHeartbeats 4000000 in
set_option maxRecDepth 100000 in
theorem cm_reaches (l : Launch) (G : Gk) (Zd : Nat → Nat) (q : Nat → Nat) (a0 : Int32) (a1 : Int32) (st : MS) (r0 : Int32) (hm : m_reaches a0 a1 st = some r0) (sz : Nat) : Met l y15_53 (Cond.code y15_53 prog_15_method_53_code 3 (some .boolean) :: TB) (rmD 0 0 0) (va_Pc [.ref (q 0), .int a0, .int a1] (pcW G Zd (wMs q G.2 st) sz)) (qI G (fun rr (_ : Unit) => rr = r0) (fun _ => (wMs q G.2 st)) (va_A (wMs q G.2 st) sz)) 0 0 (va_A (wMs q G.2 st) sz) := by
  refine go (y := y15_53) (cc := prog_15_method_53_code) (maxL := 3) (ret := (some .boolean)) (av := [.ref (q 0), .int a0, .int a1]) (Qc := qI G (fun rr (_ : Unit) => rr = r0) (fun _ => (wMs q G.2 st))) "PagedValuesModel" rfl (by decide) (Nat.le_of_ble_eq_true rfl) ?_
  intro p e s m below meth c ls A hx hb hr hlk hml hown hts hin hl hP hD hK hS hA hZ
  have hl : lv_has ls 3 [(0, .ref (q 0)), (1, .int a0), (2, .int a1)] := hl
  have h := hm
  clear hm
  refine lv_iload_n hx hb d15_53_0 rfl (lv_at hl 1 rfl) ?_
  obtain ⟨e2, hX, h⟩ := ob h
  have hj : ∀ (H : Heap) (locs : List Loc) (ls : Array Slot), lv_has ls 3 [(0, .ref (q 0)), (1, .int a0), (2, .int a1)] → va_P G.1 vwCl (wMs q G.2 st) H → va_D A (wMs q G.2 st) → va_S A s.heap H locs → W p l e (rmD 0 0 0) s m ([.ref (q 0), .int a0, .int a1] : List Value).toArray below meth c H locs 0 0 (MQ below (qI G (fun rr (_ : Unit) => rr = r0) (fun _ => (wMs q G.2 st)) A) ([.ref (q 0), .int a0, .int a1] : List Value).toArray s 0 0 A) (F0 m 40 ls [.int e2]) := by
    intro H locs ls hl hP hD hS
    obtain ⟨u9, hr9, h⟩ := ob h
    have hi := bz_some hr9
    clear hr9 u9
    cases h
    exact fin_z hx hb hr hlk (nar01 hi) hS () rfl hP hD (Nat.le_of_ble_eq_true rfl) (Nat.le_of_ble_eq_true rfl) d15_53_40
  clear h
  refine lv_if_lt (tgt := 39) hx hb d15_53_1 rfl (fun c1 => ?_) (fun c1 => ?_)
  ·
    replace h := (if_pos c1).symm.trans hX
    refine lv_iconst (v := 0) hx hb d15_53_39 (by decide) ?_
    have e9 := Option.some.inj h
    subst e2
    have hl := lv_sub hl (l' := [(0, .ref (q 0)), (1, .int a0), (2, .int a1)]) [0, 1, 2] rfl
    exact hj _ _ _ hl hP hD hS
  ·
    replace h := (if_neg c1).symm.trans hX
    refine lv_iload_n hx hb d15_53_4 rfl (lv_at hl 1 rfl) ?_
    refine lv_iload_n hx hb d15_53_5 rfl (lv_at hl 2 rfl) ?_
    refine lv_icmp_eq (tgt := 35) hx hb d15_53_6 rfl (fun c4 => ?_) (fun c4 => ?_)
    ·
      replace h := (if_pos c4).symm.trans h
      refine lv_iconst (v := 1) hx hb d15_53_35 (by decide) ?_
      refine lv_goto (tgt := 40) hx hb d15_53_36 rfl ?_
      have e9 := Option.some.inj h
      subst e2
      have hl := lv_sub hl (l' := [(0, .ref (q 0)), (1, .int a0), (2, .int a1)]) [0, 1, 2] rfl
      exact hj _ _ _ hl hP hD hS
    ·
      replace h := (if_neg c4).symm.trans h
      refine lv_aload_n hx hb d15_53_9 rfl (lv_at hl 0 rfl) ?_
      refine va_get (D := G.1) (ci := 13) (v := .ref (q 20)) (C := r_13) (T := f_13) (N := 42) (ref := "PagedValuesModel") hx hb hts (fun w h => List.mem_cons_of_mem _ (ly_13 w h)) hown hK hP 0 rfl rfl 33 (by decide) (hts _ (List.mem_cons_of_mem _ k1184)) (fun _ h9 => h9) rfl d15_53_10 ?_
      refine lv_iconst (v := 2) hx hb d15_53_13 (by decide) ?_
      refine lv_iload_n hx hb d15_53_14 rfl (lv_at hl 1 rfl) ?_
      refine lv_imul hx hb d15_53_15 ?_
      obtain ⟨y5, hr, h⟩ := ob h
      refine lv_topi (fun y9 ey => ?_)
      have e9 := ey.trans (Option.some.inj hr)
      clear ey
      subst y9
      clear hr
      obtain ⟨x6, hr, h⟩ := ob h
      obtain ⟨hi, hv⟩ := rd_some hr
      refine va_iald (D := G.1) hx hb hK hP 20 1 rfl rfl (i := y5) hi d15_53_16 ?_
      refine lv_topi (fun y9 ey => ?_)
      have e9 := ey.trans hv
      clear ey
      subst y9
      clear hv hi hr
      refine lv_iload_n hx hb d15_53_17 rfl (lv_at hl 2 rfl) ?_
      refine lv_icmp_eq (tgt := 35) hx hb d15_53_18 rfl (fun c7 => ?_) (fun c7 => ?_)
      ·
        replace h := (if_pos c7).symm.trans h
        refine lv_iconst (v := 1) hx hb d15_53_35 (by decide) ?_
        refine lv_goto (tgt := 40) hx hb d15_53_36 rfl ?_
        have e9 := Option.some.inj h
        subst e2
        have hl := lv_sub hl (l' := [(0, .ref (q 0)), (1, .int a0), (2, .int a1)]) [0, 1, 2] rfl
        exact hj _ _ _ hl hP hD hS
      ·
        replace h := (if_neg c7).symm.trans h
        refine lv_aload_n hx hb d15_53_21 rfl (lv_at hl 0 rfl) ?_
        refine va_get (D := G.1) (ci := 13) (v := .ref (q 20)) (C := r_13) (T := f_13) (N := 42) (ref := "PagedValuesModel") hx hb hts (fun w h => List.mem_cons_of_mem _ (ly_13 w h)) hown hK hP 0 rfl rfl 33 (by decide) (hts _ (List.mem_cons_of_mem _ k1184)) (fun _ h9 => h9) rfl d15_53_22 ?_
        refine lv_iconst (v := 2) hx hb d15_53_25 (by decide) ?_
        refine lv_iload_n hx hb d15_53_26 rfl (lv_at hl 1 rfl) ?_
        refine lv_imul hx hb d15_53_27 ?_
        obtain ⟨y8, hr, h⟩ := ob h
        refine lv_topi (fun y9 ey => ?_)
        have e9 := ey.trans (Option.some.inj hr)
        clear ey
        subst y9
        clear hr
        refine lv_iconst (v := 1) hx hb d15_53_28 (by decide) ?_
        refine lv_iadd hx hb d15_53_29 ?_
        obtain ⟨y9, hr, h⟩ := ob h
        refine lv_topi (fun y9 ey => ?_)
        have e9 := ey.trans (Option.some.inj hr)
        clear ey
        subst y9
        clear hr
        obtain ⟨x10, hr, h⟩ := ob h
        obtain ⟨hi, hv⟩ := rd_some hr
        refine va_iald (D := G.1) hx hb hK hP 20 1 rfl rfl (i := y9) hi d15_53_30 ?_
        refine lv_topi (fun y9 ey => ?_)
        have e9 := ey.trans hv
        clear ey
        subst y9
        clear hv hi hr
        refine lv_iload_n hx hb d15_53_31 rfl (lv_at hl 2 rfl) ?_
        refine lv_icmp_ne (tgt := 39) hx hb d15_53_32 rfl (fun c11 => ?_) (fun c11 => ?_)
        ·
          replace h := (if_neg c11).symm.trans h
          refine lv_iconst (v := 0) hx hb d15_53_39 (by decide) ?_
          have e9 := Option.some.inj h
          subst e2
          have hl := lv_sub hl (l' := [(0, .ref (q 0)), (1, .int a0), (2, .int a1)]) [0, 1, 2] rfl
          exact hj _ _ _ hl hP hD hS
        ·
          replace h := (if_pos c11).symm.trans h
          refine lv_iconst (v := 1) hx hb d15_53_35 (by decide) ?_
          refine lv_goto (tgt := 40) hx hb d15_53_36 rfl ?_
          have e9 := Option.some.inj h
          subst e2
          have hl := lv_sub hl (l' := [(0, .ref (q 0)), (1, .int a0), (2, .int a1)]) [0, 1, 2] rfl
          exact hj _ _ _ hl hP hD hS
def m_isFree_l1 (a0 : Int32) (st : MS) : Nat → (Int32 × Int32) → Option (Int32 × Int32)
  | 0, _ => none
  | n9 + 1, e9 => if (3 : Int32) ≤ e9.2 then (some (e9.1, e9.2)) else ((if e9.1 = (0 : Int32) then ((rd (st.2.2.1 17) 3 e9.2).bind fun x21 => if x21 = (0 : Int32) then (some (0 : Int32)) else ((rd (st.2.2.1 18) 3 e9.2).bind fun x23 => (m_reaches x23 a0 st).bind fun x24 => if x24 = (0 : Int32) then (some (0 : Int32)) else (some (1 : Int32)))) else (some (1 : Int32))).bind fun e19 => m_isFree_l1 a0 st n9 (e19, e9.2 + 1))
theorem m_isFree_l1_s (a0 : Int32) (st : MS) (n9 : Nat) (e9 : Int32 × Int32) : m_isFree_l1 a0 st (n9 + 1) e9 = (if (3 : Int32) ≤ e9.2 then (some (e9.1, e9.2)) else ((if e9.1 = (0 : Int32) then ((rd (st.2.2.1 17) 3 e9.2).bind fun x21 => if x21 = (0 : Int32) then (some (0 : Int32)) else ((rd (st.2.2.1 18) 3 e9.2).bind fun x23 => (m_reaches x23 a0 st).bind fun x24 => if x24 = (0 : Int32) then (some (0 : Int32)) else (some (1 : Int32)))) else (some (1 : Int32))).bind fun e19 => m_isFree_l1 a0 st n9 (e19, e9.2 + 1))) := rfl
def m_isFree (a0 : Int32) (st : MS) : Option (Int32) := (rd (st.2.2.1 15) 2 (0 : Int32)).bind fun x1 => (m_reaches x1 a0 st).bind fun x2 => (if x2 = (0 : Int32) then ((rd (st.2.2.1 15) 2 (1 : Int32)).bind fun x28 => (m_reaches x28 a0 st).bind fun x29 => if x29 = (0 : Int32) then (some (0 : Int32)) else (some (1 : Int32))) else (some (1 : Int32))).bind fun e6 => (m_isFree_l1 a0 st 4096 (e6, (0 : Int32))).bind fun e8 => (if e8.1 = (0 : Int32) then (some (1 : Int32)) else (some (0 : Int32))).bind fun e15 => (bz e15).bind fun _ => some e15
set_option maxHeartbeats 4000000 in
set_option maxRecDepth 100000 in
theorem cm_isFree (l : Launch) (G : Gk) (Zd : Nat → Nat) (q : Nat → Nat) (a0 : Int32) (st : MS) (r0 : Int32) (hm : m_isFree a0 st = some r0) (sz : Nat) : Met l y15_54 (Cond.code y15_54 prog_15_method_54_code 4 (some .boolean) :: TB) (rmD 1 0 0) (va_Pc [.ref (q 0), .int a0] (pcW G Zd (wMs q G.2 st) sz)) (qI G (fun rr (_ : Unit) => rr = r0) (fun _ => (wMs q G.2 st)) (va_A (wMs q G.2 st) sz)) 0 0 (va_A (wMs q G.2 st) sz) := by
  refine go (y := y15_54) (cc := prog_15_method_54_code) (maxL := 4) (ret := (some .boolean)) (av := [.ref (q 0), .int a0]) (Qc := qI G (fun rr (_ : Unit) => rr = r0) (fun _ => (wMs q G.2 st))) "PagedValuesModel" rfl (by decide) (Nat.le_of_ble_eq_true rfl) ?_
  intro p e s m below meth c ls A hx hb hr hlk hml hown hts hin hl hP hD hK hS hA hZ
  have hl : lv_has ls 4 [(0, .ref (q 0)), (1, .int a0)] := hl
  have h := hm
  clear hm
  refine lv_aload_n hx hb d15_54_0 rfl (lv_at hl 0 rfl) ?_
  refine lv_aload_n hx hb d15_54_1 rfl (lv_at hl 0 rfl) ?_
  refine va_get (D := G.1) (ci := 13) (v := .ref (q 22)) (C := r_13) (T := f_13) (N := 42) (ref := "PagedValuesModel") hx hb hts (fun w h => List.mem_cons_of_mem _ (ly_13 w h)) hown hK hP 0 rfl rfl 35 (by decide) (hts _ (List.mem_cons_of_mem _ k1186)) (fun _ h9 => h9) rfl d15_54_2 ?_
  refine lv_iconst (v := 0) hx hb d15_54_5 (by decide) ?_
  obtain ⟨x1, hr, h⟩ := ob h
  obtain ⟨hi, hv⟩ := rd_some hr
  refine va_iald (D := G.1) hx hb hK hP 22 1 rfl rfl (i := (0 : Int32)) hi d15_54_6 ?_
  refine lv_topi (fun y9 ey => ?_)
  have e9 := ey.trans hv
  clear ey
  subst y9
  clear hv hi hr
  refine lv_iload_n hx hb d15_54_7 rfl (lv_at hl 1 rfl) ?_
  obtain ⟨x2, hc, h⟩ := ob h
  refine sV_i (As := [.int x1, .int a0]) (rest := []) ⟨hx, hb, hml, hown, hts⟩ (cm_reaches l G Zd q x1 a0 st x2 hc _) (kw_V (n := 2) hts k1412 k1409 k15 k1411 ks61 (by decide +kernel) ⟨Nat.le_of_ble_eq_true rfl, Nat.le_of_ble_eq_true rfl⟩) hP hD hK hS hA hZ (va_recv (ci := 13) (q0 := 0) hK hP rfl rfl) rfl hl.1 rfl (Nat.le_of_ble_eq_true rfl) d15_54_8 ⟨Nat.le_of_ble_eq_true rfl, Nat.le_of_ble_eq_true rfl⟩ (fun rr u9 H locs hp hP hD hS => ?_)
  clear u9
  subst rr
  clear hc
  refine W.eq (g2 := F0 m 11 ls [.int x2]) rfl ?_
  have hP : va_P G.1 vwCl (wMs q G.2 st) H := hP
  have hD : va_D A (wMs q G.2 st) := hD
  obtain ⟨e6, hX, h⟩ := ob h
  have hj : ∀ (H : Heap) (locs : List Loc) (ls : Array Slot), lv_has ls 4 [(0, .ref (q 0)), (1, .int a0)] → va_P G.1 vwCl (wMs q G.2 st) H → va_D A (wMs q G.2 st) → va_S A s.heap H locs → W p l e (rmD 1 0 0) s m ([.ref (q 0), .int a0] : List Value).toArray below meth c H locs 0 0 (MQ below (qI G (fun rr (_ : Unit) => rr = r0) (fun _ => (wMs q G.2 st)) A) ([.ref (q 0), .int a0] : List Value).toArray s 0 0 A) (F0 m 33 ls [.int e6]) := by
    intro H locs ls hl hP hD hS
    refine lv_istore_n (lv' := [(2, .int e6), (0, .ref (q 0)), (1, .int a0)]) hx hb d15_54_33 rfl hl (by decide) rfl (fun ls hl => ?_)
    refine lv_iconst (v := 0) hx hb d15_54_34 (by decide) ?_
    refine lv_istore_n (lv' := [(3, .int 0), (2, .int e6), (0, .ref (q 0)), (1, .int a0)]) hx hb d15_54_35 rfl hl (by decide) rfl (fun ls hl => ?_)
    obtain ⟨e8, hX, hrest⟩ := ob h
    clear h
    have hj : ∀ (v12 : Int32) (v13 : Int32), e8 = (v12, v13) → ∀ (H : Heap) (locs : List Loc) (ls : Array Slot), lv_has ls 4 [(0, .ref (q 0)), (1, .int a0), (2, .int v12), (3, .int v13)] → va_P G.1 vwCl (wMs q G.2 st) H → va_D A (wMs q G.2 st) → va_S A s.heap H locs → W p l e (rmD 1 0 0) s m ([.ref (q 0), .int a0] : List Value).toArray below meth c H locs 0 0 (MQ below (qI G (fun rr (_ : Unit) => rr = r0) (fun _ => (wMs q G.2 st)) A) ([.ref (q 0), .int a0] : List Value).toArray s 0 0 A) (F0 m 80 ls []) := by
      intro v12 v13 he H locs ls hl hP hD hS
      subst e8
      have h := hrest
      refine lv_iload_n hx hb d15_54_80 rfl (lv_at hl 2 rfl) ?_
      obtain ⟨e15, hX, h⟩ := ob h
      have hj : ∀ (H : Heap) (locs : List Loc) (ls : Array Slot), lv_has ls 4 [(0, .ref (q 0)), (1, .int a0), (2, .int v12), (3, .int v13)] → va_P G.1 vwCl (wMs q G.2 st) H → va_D A (wMs q G.2 st) → va_S A s.heap H locs → W p l e (rmD 1 0 0) s m ([.ref (q 0), .int a0] : List Value).toArray below meth c H locs 0 0 (MQ below (qI G (fun rr (_ : Unit) => rr = r0) (fun _ => (wMs q G.2 st)) A) ([.ref (q 0), .int a0] : List Value).toArray s 0 0 A) (F0 m 89 ls [.int e15]) := by
        intro H locs ls hl hP hD hS
        obtain ⟨u9, hr9, h⟩ := ob h
        have hi := bz_some hr9
        clear hr9 u9
        cases h
        exact fin_z hx hb hr hlk (nar01 hi) hS () rfl hP hD (Nat.le_of_ble_eq_true rfl) (Nat.le_of_ble_eq_true rfl) d15_54_89
      clear h
      refine lv_if_ne (tgt := 88) hx hb d15_54_81 rfl (fun c14 => ?_) (fun c14 => ?_)
      ·
        replace h := (if_neg c14).symm.trans hX
        refine lv_iconst (v := 0) hx hb d15_54_88 (by decide) ?_
        have e9 := Option.some.inj h
        subst e15
        have hl := lv_sub hl (l' := [(0, .ref (q 0)), (1, .int a0), (2, .int v12), (3, .int v13)]) [0, 1, 2, 3] rfl
        exact hj _ _ _ hl hP hD hS
      ·
        replace h := (if_pos c14).symm.trans hX
        refine lv_iconst (v := 1) hx hb d15_54_84 (by decide) ?_
        refine lv_goto (tgt := 89) hx hb d15_54_85 rfl ?_
        have e9 := Option.some.inj h
        subst e15
        have hl := lv_sub hl (l' := [(0, .ref (q 0)), (1, .int a0), (2, .int v12), (3, .int v13)]) [0, 1, 2, 3] rfl
        exact hj _ _ _ hl hP hD hS
    have hloop : ∀ (n9 : Nat) (v9 : Int32) (v10 : Int32), m_isFree_l1 a0 st n9 (v9, v10) = some e8 → ∀ (H : Heap) (locs : List Loc) (ls : Array Slot), lv_has ls 4 [(0, .ref (q 0)), (1, .int a0), (2, .int v9), (3, .int v10)] → va_P G.1 vwCl (wMs q G.2 st) H → va_D A (wMs q G.2 st) → va_S A s.heap H locs → W p l e (rmD 1 0 0) s m ([.ref (q 0), .int a0] : List Value).toArray below meth c H locs 0 0 (MQ below (qI G (fun rr (_ : Unit) => rr = r0) (fun _ => (wMs q G.2 st)) A) ([.ref (q 0), .int a0] : List Value).toArray s 0 0 A) (F0 m 36 ls []) := by
      intro n9
      induction n9 with
      | zero =>
        intro v9 v10 h
        cases h
      | succ n9 ih =>
        intro v9 v10 h H locs ls hl hP hD hS
        replace h := (m_isFree_l1_s a0 st n9 (v9, v10)).symm.trans h
        refine lv_iload_n hx hb d15_54_36 rfl (lv_at hl 3 rfl) ?_
        refine lv_iconst (v := 3) hx hb d15_54_37 (by decide) ?_
        refine lv_icmp_ge (tgt := 80) hx hb d15_54_38 rfl (fun c17 => ?_) (fun c17 => ?_)
        ·
          replace h := (if_pos c17).symm.trans h
          have e9 := Option.some.inj h
          subst e8
          have hl := lv_sub hl (l' := [(0, .ref (q 0)), (1, .int a0), (2, .int v9), (3, .int v10)]) [0, 1, 2, 3] rfl
          exact hj _ _ rfl _ _ _ hl hP hD hS
        ·
          replace h := (if_neg c17).symm.trans h
          refine lv_iload_n hx hb d15_54_41 rfl (lv_at hl 2 rfl) ?_
          obtain ⟨e19, hX, h⟩ := ob h
          have hj : ∀ (H : Heap) (locs : List Loc) (ls : Array Slot), lv_has ls 4 [(0, .ref (q 0)), (1, .int a0), (2, .int v9), (3, .int v10)] → va_P G.1 vwCl (wMs q G.2 st) H → va_D A (wMs q G.2 st) → va_S A s.heap H locs → W p l e (rmD 1 0 0) s m ([.ref (q 0), .int a0] : List Value).toArray below meth c H locs 0 0 (MQ below (qI G (fun rr (_ : Unit) => rr = r0) (fun _ => (wMs q G.2 st)) A) ([.ref (q 0), .int a0] : List Value).toArray s 0 0 A) (F0 m 73 ls [.int e19]) := by
            intro H locs ls hl hP hD hS
            refine lv_istore_n (lv' := [(2, .int e19), (0, .ref (q 0)), (1, .int a0), (3, .int v10)]) hx hb d15_54_73 rfl hl (by decide) rfl (fun ls hl => ?_)
            refine lv_iinc (k := 3) (v := v10 + 1) (lv' := [(3, .int (v10 + 1)), (2, .int e19), (0, .ref (q 0)), (1, .int a0)]) hx hb d15_54_74 hl rfl (by first | decide | rfl) (by decide) rfl (fun ls hl => ?_)
            refine lv_goto (tgt := 36) hx hb d15_54_77 rfl ?_
            have hl := lv_sub hl (l' := [(0, .ref (q 0)), (1, .int a0), (2, .int e19), (3, .int (v10 + 1))]) [2, 3, 1, 0] rfl
            exact ih _ _ h _ _ _ hl hP hD hS
          clear h
          refine lv_if_ne (tgt := 68) hx hb d15_54_42 rfl (fun c18 => ?_) (fun c18 => ?_)
          ·
            replace h := (if_neg c18).symm.trans hX
            refine lv_iconst (v := 1) hx hb d15_54_68 (by decide) ?_
            refine lv_goto (tgt := 73) hx hb d15_54_69 rfl ?_
            have e9 := Option.some.inj h
            subst e19
            have hl := lv_sub hl (l' := [(0, .ref (q 0)), (1, .int a0), (2, .int v9), (3, .int v10)]) [0, 1, 2, 3] rfl
            exact hj _ _ _ hl hP hD hS
          ·
            replace h := (if_pos c18).symm.trans hX
            refine lv_aload_n hx hb d15_54_45 rfl (lv_at hl 0 rfl) ?_
            refine va_get (D := G.1) (ci := 13) (v := .ref (q 24)) (C := r_13) (T := f_13) (N := 42) (ref := "PagedValuesModel") hx hb hts (fun w h => List.mem_cons_of_mem _ (ly_13 w h)) hown hK hP 0 rfl rfl 37 (by decide) (hts _ (List.mem_cons_of_mem _ k1188)) (fun _ h9 => h9) rfl d15_54_46 ?_
            refine lv_iload_n hx hb d15_54_49 rfl (lv_at hl 3 rfl) ?_
            obtain ⟨x21, hr, h⟩ := ob h
            obtain ⟨hi, hv⟩ := rd_some hr
            refine va_zald (D := G.1) hx hb hK hP 24 3 rfl rfl (i := v10) hi d15_54_50 ?_
            refine lv_topi (fun y9 ey => ?_)
            have e9 := ey.trans hv
            clear ey
            subst y9
            clear hv hi hr
            refine lv_if_eq (tgt := 72) hx hb d15_54_51 rfl (fun c22 => ?_) (fun c22 => ?_)
            ·
              replace h := (if_pos c22).symm.trans h
              refine lv_iconst (v := 0) hx hb d15_54_72 (by decide) ?_
              have e9 := Option.some.inj h
              subst e19
              have hl := lv_sub hl (l' := [(0, .ref (q 0)), (1, .int a0), (2, .int v9), (3, .int v10)]) [0, 1, 2, 3] rfl
              exact hj _ _ _ hl hP hD hS
            ·
              replace h := (if_neg c22).symm.trans h
              refine lv_aload_n hx hb d15_54_54 rfl (lv_at hl 0 rfl) ?_
              refine lv_aload_n hx hb d15_54_55 rfl (lv_at hl 0 rfl) ?_
              refine va_get (D := G.1) (ci := 13) (v := .ref (q 25)) (C := r_13) (T := f_13) (N := 42) (ref := "PagedValuesModel") hx hb hts (fun w h => List.mem_cons_of_mem _ (ly_13 w h)) hown hK hP 0 rfl rfl 38 (by decide) (hts _ (List.mem_cons_of_mem _ k1189)) (fun _ h9 => h9) rfl d15_54_56 ?_
              refine lv_iload_n hx hb d15_54_59 rfl (lv_at hl 3 rfl) ?_
              obtain ⟨x23, hr, h⟩ := ob h
              obtain ⟨hi, hv⟩ := rd_some hr
              refine va_iald (D := G.1) hx hb hK hP 25 1 rfl rfl (i := v10) hi d15_54_60 ?_
              refine lv_topi (fun y9 ey => ?_)
              have e9 := ey.trans hv
              clear ey
              subst y9
              clear hv hi hr
              refine lv_iload_n hx hb d15_54_61 rfl (lv_at hl 1 rfl) ?_
              obtain ⟨x24, hc, h⟩ := ob h
              refine sV_i (As := [.int x23, .int a0]) (rest := []) ⟨hx, hb, hml, hown, hts⟩ (cm_reaches l G Zd q x23 a0 st x24 hc _) (kw_V (n := 2) hts k1412 k1409 k15 k1411 ks61 (by decide +kernel) ⟨Nat.le_of_ble_eq_true rfl, Nat.le_of_ble_eq_true rfl⟩) hP hD hK hS hA hZ (va_recv (ci := 13) (q0 := 0) hK hP rfl rfl) rfl hl.1 rfl (Nat.le_of_ble_eq_true rfl) d15_54_62 ⟨Nat.le_of_ble_eq_true rfl, Nat.le_of_ble_eq_true rfl⟩ (fun rr u9 H locs hp hP hD hS => ?_)
              clear u9
              subst rr
              clear hc
              refine W.eq (g2 := F0 m 65 ls [.int x24]) rfl ?_
              have hP : va_P G.1 vwCl (wMs q G.2 st) H := hP
              have hD : va_D A (wMs q G.2 st) := hD
              refine lv_if_eq (tgt := 72) hx hb d15_54_65 rfl (fun c27 => ?_) (fun c27 => ?_)
              ·
                replace h := (if_pos c27).symm.trans h
                refine lv_iconst (v := 0) hx hb d15_54_72 (by decide) ?_
                have e9 := Option.some.inj h
                subst e19
                have hl := lv_sub hl (l' := [(0, .ref (q 0)), (1, .int a0), (2, .int v9), (3, .int v10)]) [0, 1, 2, 3] rfl
                exact hj _ _ _ hl hP hD hS
              ·
                replace h := (if_neg c27).symm.trans h
                refine lv_iconst (v := 1) hx hb d15_54_68 (by decide) ?_
                refine lv_goto (tgt := 73) hx hb d15_54_69 rfl ?_
                have e9 := Option.some.inj h
                subst e19
                have hl := lv_sub hl (l' := [(0, .ref (q 0)), (1, .int a0), (2, .int v9), (3, .int v10)]) [0, 1, 2, 3] rfl
                exact hj _ _ _ hl hP hD hS
    have hl := lv_sub hl (l' := [(0, .ref (q 0)), (1, .int a0), (2, .int e6), (3, .int 0)]) [2, 3, 1, 0] rfl
    exact hloop _ _ _ hX _ _ _ hl hP hD hS
  clear h
  refine lv_if_ne (tgt := 28) hx hb d15_54_11 rfl (fun c5 => ?_) (fun c5 => ?_)
  ·
    replace h := (if_neg c5).symm.trans hX
    refine lv_iconst (v := 1) hx hb d15_54_28 (by decide) ?_
    refine lv_goto (tgt := 33) hx hb d15_54_29 rfl ?_
    have e9 := Option.some.inj h
    subst e6
    have hl := lv_sub hl (l' := [(0, .ref (q 0)), (1, .int a0)]) [0, 1] rfl
    exact hj _ _ _ hl hP hD hS
  ·
    replace h := (if_pos c5).symm.trans hX
    refine lv_aload_n hx hb d15_54_14 rfl (lv_at hl 0 rfl) ?_
    refine lv_aload_n hx hb d15_54_15 rfl (lv_at hl 0 rfl) ?_
    refine va_get (D := G.1) (ci := 13) (v := .ref (q 22)) (C := r_13) (T := f_13) (N := 42) (ref := "PagedValuesModel") hx hb hts (fun w h => List.mem_cons_of_mem _ (ly_13 w h)) hown hK hP 0 rfl rfl 35 (by decide) (hts _ (List.mem_cons_of_mem _ k1186)) (fun _ h9 => h9) rfl d15_54_16 ?_
    refine lv_iconst (v := 1) hx hb d15_54_19 (by decide) ?_
    obtain ⟨x28, hr, h⟩ := ob h
    obtain ⟨hi, hv⟩ := rd_some hr
    refine va_iald (D := G.1) hx hb hK hP 22 1 rfl rfl (i := (1 : Int32)) hi d15_54_20 ?_
    refine lv_topi (fun y9 ey => ?_)
    have e9 := ey.trans hv
    clear ey
    subst y9
    clear hv hi hr
    refine lv_iload_n hx hb d15_54_21 rfl (lv_at hl 1 rfl) ?_
    obtain ⟨x29, hc, h⟩ := ob h
    refine sV_i (As := [.int x28, .int a0]) (rest := []) ⟨hx, hb, hml, hown, hts⟩ (cm_reaches l G Zd q x28 a0 st x29 hc _) (kw_V (n := 2) hts k1412 k1409 k15 k1411 ks61 (by decide +kernel) ⟨Nat.le_of_ble_eq_true rfl, Nat.le_of_ble_eq_true rfl⟩) hP hD hK hS hA hZ (va_recv (ci := 13) (q0 := 0) hK hP rfl rfl) rfl hl.1 rfl (Nat.le_of_ble_eq_true rfl) d15_54_22 ⟨Nat.le_of_ble_eq_true rfl, Nat.le_of_ble_eq_true rfl⟩ (fun rr u9 H locs hp hP hD hS => ?_)
    clear u9
    subst rr
    clear hc
    refine W.eq (g2 := F0 m 25 ls [.int x29]) rfl ?_
    have hP : va_P G.1 vwCl (wMs q G.2 st) H := hP
    have hD : va_D A (wMs q G.2 st) := hD
    refine lv_if_eq (tgt := 32) hx hb d15_54_25 rfl (fun c32 => ?_) (fun c32 => ?_)
    ·
      replace h := (if_pos c32).symm.trans h
      refine lv_iconst (v := 0) hx hb d15_54_32 (by decide) ?_
      have e9 := Option.some.inj h
      subst e6
      have hl := lv_sub hl (l' := [(0, .ref (q 0)), (1, .int a0)]) [0, 1] rfl
      exact hj _ _ _ hl hP hD hS
    ·
      replace h := (if_neg c32).symm.trans h
      refine lv_iconst (v := 1) hx hb d15_54_28 (by decide) ?_
      refine lv_goto (tgt := 33) hx hb d15_54_29 rfl ?_
      have e9 := Option.some.inj h
      subst e6
      have hl := lv_sub hl (l' := [(0, .ref (q 0)), (1, .int a0)]) [0, 1] rfl
      exact hj _ _ _ hl hP hD hS
def m_freePage_l1 (a0 : Int32) (st : MS) : Nat → (Int32) → Option ((Int32) ⊕ (Int32))
  | 0, _ => none
  | n9 + 1, e9 => if (12 : Int32) ≤ e9 then (some (.inr e9)) else (if e9 = a0 then (m_freePage_l1 a0 st n9 (e9 + 1)) else ((m_isFree e9 st).bind fun x7 => if x7 = (0 : Int32) then (m_freePage_l1 a0 st n9 (e9 + 1)) else (some (.inl e9))))
theorem m_freePage_l1_s (a0 : Int32) (st : MS) (n9 : Nat) (e9 : Int32) : m_freePage_l1 a0 st (n9 + 1) e9 = (if (12 : Int32) ≤ e9 then (some (.inr e9)) else (if e9 = a0 then (m_freePage_l1 a0 st n9 (e9 + 1)) else ((m_isFree e9 st).bind fun x7 => if x7 = (0 : Int32) then (m_freePage_l1 a0 st n9 (e9 + 1)) else (some (.inl e9))))) := rfl
def m_freePage (a0 : Int32) (st : MS) : Option (Int32) := (m_freePage_l1 a0 st 4096 (0 : Int32)).bind fun e1 => match e1 with | .inl o9 => some o9 | .inr e8 => some ((-1) : Int32)
set_option maxHeartbeats 4000000 in
set_option maxRecDepth 100000 in
theorem cm_freePage (l : Launch) (G : Gk) (Zd : Nat → Nat) (q : Nat → Nat) (a0 : Int32) (st : MS) (r0 : Int32) (hm : m_freePage a0 st = some r0) (sz : Nat) : Met l y15_55 (Cond.code y15_55 prog_15_method_55_code 3 (some .int) :: TB) (rmD 2 0 0) (va_Pc [.ref (q 0), .int a0] (pcW G Zd (wMs q G.2 st) sz)) (qI G (fun rr (_ : Unit) => rr = r0) (fun _ => (wMs q G.2 st)) (va_A (wMs q G.2 st) sz)) 0 0 (va_A (wMs q G.2 st) sz) := by
  refine go (y := y15_55) (cc := prog_15_method_55_code) (maxL := 3) (ret := (some .int)) (av := [.ref (q 0), .int a0]) (Qc := qI G (fun rr (_ : Unit) => rr = r0) (fun _ => (wMs q G.2 st))) "PagedValuesModel" rfl (by decide) (Nat.le_of_ble_eq_true rfl) ?_
  intro p e s m below meth c ls A hx hb hr hlk hml hown hts hin hl hP hD hK hS hA hZ
  have hl : lv_has ls 3 [(0, .ref (q 0)), (1, .int a0)] := hl
  have h := hm
  clear hm
  refine lv_iconst (v := 0) hx hb d15_55_0 (by decide) ?_
  refine lv_istore_n (lv' := [(2, .int 0), (0, .ref (q 0)), (1, .int a0)]) hx hb d15_55_1 rfl hl (by decide) rfl (fun ls hl => ?_)
  obtain ⟨e1, hX, hrest⟩ := ob h
  clear h
  have hj : ∀ (v4 : Int32), e1 = .inr (v4) → ∀ (H : Heap) (locs : List Loc) (ls : Array Slot), lv_has ls 3 [(0, .ref (q 0)), (1, .int a0), (2, .int v4)] → va_P G.1 vwCl (wMs q G.2 st) H → va_D A (wMs q G.2 st) → va_S A s.heap H locs → W p l e (rmD 2 0 0) s m ([.ref (q 0), .int a0] : List Value).toArray below meth c H locs 0 0 (MQ below (qI G (fun rr (_ : Unit) => rr = r0) (fun _ => (wMs q G.2 st)) A) ([.ref (q 0), .int a0] : List Value).toArray s 0 0 A) (F0 m 29 ls []) := by
    intro v4 he H locs ls hl hP hD hS
    subst e1
    have h := hrest
    refine lv_iconst (v := (-1)) hx hb d15_55_29 (by decide) ?_
    cases h
    exact fin_i hx hb hr hlk hS () rfl hP hD (Nat.le_of_ble_eq_true rfl) (Nat.le_of_ble_eq_true rfl) d15_55_30
  have hloop : ∀ (n9 : Nat) (v2 : Int32), m_freePage_l1 a0 st n9 (v2) = some e1 → ∀ (H : Heap) (locs : List Loc) (ls : Array Slot), lv_has ls 3 [(0, .ref (q 0)), (1, .int a0), (2, .int v2)] → va_P G.1 vwCl (wMs q G.2 st) H → va_D A (wMs q G.2 st) → va_S A s.heap H locs → W p l e (rmD 2 0 0) s m ([.ref (q 0), .int a0] : List Value).toArray below meth c H locs 0 0 (MQ below (qI G (fun rr (_ : Unit) => rr = r0) (fun _ => (wMs q G.2 st)) A) ([.ref (q 0), .int a0] : List Value).toArray s 0 0 A) (F0 m 2 ls []) := by
    intro n9
    induction n9 with
    | zero =>
      intro v2 h
      cases h
    | succ n9 ih =>
      intro v2 h H locs ls hl hP hD hS
      replace h := (m_freePage_l1_s a0 st n9 (v2)).symm.trans h
      refine lv_iload_n hx hb d15_55_2 rfl (lv_at hl 2 rfl) ?_
      refine lv_bipush (v := 12) hx hb d15_55_3 (by decide) ?_
      refine lv_icmp_ge (tgt := 29) hx hb d15_55_5 rfl (fun c5 => ?_) (fun c5 => ?_)
      ·
        replace h := (if_pos c5).symm.trans h
        have e9 := Option.some.inj h
        subst e1
        have hl := lv_sub hl (l' := [(0, .ref (q 0)), (1, .int a0), (2, .int v2)]) [0, 1, 2] rfl
        exact hj _ rfl _ _ _ hl hP hD hS
      ·
        replace h := (if_neg c5).symm.trans h
        refine lv_iload_n hx hb d15_55_8 rfl (lv_at hl 2 rfl) ?_
        refine lv_iload_n hx hb d15_55_9 rfl (lv_at hl 1 rfl) ?_
        refine lv_icmp_eq (tgt := 23) hx hb d15_55_10 rfl (fun c6 => ?_) (fun c6 => ?_)
        ·
          replace h := (if_pos c6).symm.trans h
          refine lv_iinc (k := 2) (v := v2 + 1) (lv' := [(2, .int (v2 + 1)), (0, .ref (q 0)), (1, .int a0)]) hx hb d15_55_23 hl rfl (by first | decide | rfl) (by decide) rfl (fun ls hl => ?_)
          refine lv_goto (tgt := 2) hx hb d15_55_26 rfl ?_
          have hl := lv_sub hl (l' := [(0, .ref (q 0)), (1, .int a0), (2, .int (v2 + 1))]) [1, 2, 0] rfl
          exact ih _ h _ _ _ hl hP hD hS
        ·
          replace h := (if_neg c6).symm.trans h
          refine lv_aload_n hx hb d15_55_13 rfl (lv_at hl 0 rfl) ?_
          refine lv_iload_n hx hb d15_55_14 rfl (lv_at hl 2 rfl) ?_
          obtain ⟨x7, hc, h⟩ := ob h
          refine sV_i (As := [.int v2]) (rest := []) ⟨hx, hb, hml, hown, hts⟩ (cm_isFree l G Zd q v2 st x7 hc _) (kw_V (n := 1) hts k1408 k1405 k15 k1407 ks60 (by decide +kernel) ⟨Nat.le_of_ble_eq_true rfl, Nat.le_of_ble_eq_true rfl⟩) hP hD hK hS hA hZ (va_recv (ci := 13) (q0 := 0) hK hP rfl rfl) rfl hl.1 rfl (Nat.le_of_ble_eq_true rfl) d15_55_15 ⟨Nat.le_of_ble_eq_true rfl, Nat.le_of_ble_eq_true rfl⟩ (fun rr u9 H locs hp hP hD hS => ?_)
          clear u9
          subst rr
          clear hc
          refine W.eq (g2 := F0 m 18 ls [.int x7]) rfl ?_
          have hP : va_P G.1 vwCl (wMs q G.2 st) H := hP
          have hD : va_D A (wMs q G.2 st) := hD
          refine lv_if_eq (tgt := 23) hx hb d15_55_18 rfl (fun c10 => ?_) (fun c10 => ?_)
          ·
            replace h := (if_pos c10).symm.trans h
            refine lv_iinc (k := 2) (v := v2 + 1) (lv' := [(2, .int (v2 + 1)), (0, .ref (q 0)), (1, .int a0)]) hx hb d15_55_23 hl rfl (by first | decide | rfl) (by decide) rfl (fun ls hl => ?_)
            refine lv_goto (tgt := 2) hx hb d15_55_26 rfl ?_
            have hl := lv_sub hl (l' := [(0, .ref (q 0)), (1, .int a0), (2, .int (v2 + 1))]) [1, 2, 0] rfl
            exact ih _ h _ _ _ hl hP hD hS
          ·
            replace h := (if_neg c10).symm.trans h
            refine lv_iload_n hx hb d15_55_21 rfl (lv_at hl 2 rfl) ?_
            cases h
            cases hrest
            exact fin_i hx hb hr hlk hS () rfl hP hD (Nat.le_of_ble_eq_true rfl) (Nat.le_of_ble_eq_true rfl) d15_55_22
  have hl := lv_sub hl (l' := [(0, .ref (q 0)), (1, .int a0), (2, .int 0)]) [1, 2, 0] rfl
  exact hloop _ _ hX _ _ _ hl hP hD hS
def m_block_l1  : Nat → (Int32 × MS) → Option (Int32 × MS)
  | 0, _ => none
  | n9 + 1, e9 => if (3 : Int32) ≤ e9.1 then (some (e9.1, e9.2)) else ((ix 3 e9.1).bind fun k24z => (some (vp_nar .boolean (0 : Int32))).bind fun y25 => m_block_l1  n9 (e9.1 + 1, (e9.2.1, e9.2.2.1, va_up e9.2.2.2.1 17 (upd (e9.2.2.2.1 17) k24z y25), e9.2.2.2.2)))
theorem m_block_l1_s  (n9 : Nat) (e9 : Int32 × MS) : m_block_l1  (n9 + 1) e9 = (if (3 : Int32) ≤ e9.1 then (some (e9.1, e9.2)) else ((ix 3 e9.1).bind fun k24z => (some (vp_nar .boolean (0 : Int32))).bind fun y25 => m_block_l1  n9 (e9.1 + 1, (e9.2.1, e9.2.2.1, va_up e9.2.2.2.1 17 (upd (e9.2.2.2.1 17) k24z y25), e9.2.2.2.2)))) := rfl
def m_block (st : MS) : Option (Int32 × MS) := (some ((st.1 14) + 1)).bind fun y1 => (if (st.1 12) ≤ (0 : Int32) then (some ((-1) : Int32)) else ((some ((st.1 12) - 1)).bind fun y26 => some y26)).bind fun e3 => (if e3 = (0 : Int32) then (some (1 : Int32)) else (some (0 : Int32))).bind fun e6 => (if (0 : Int32) ≤ e3 then (some e3) else (some (0 : Int32))).bind fun e9 => (if e6 = (0 : Int32) then (some (upd (upd st.1 14 y1) 12 e9, st.2.1, st.2.2.1, st.2.2.2)) else ((m_block_l1  4096 ((0 : Int32), (upd (upd (upd (upd st.1 14 y1) 12 e9) 13 1) 0 0, st.2.1, st.2.2.1, st.2.2.2))).bind fun e17 => some e17.2)).bind fun e12 => (if e6 = (0 : Int32) then (some (1 : Int32)) else (some (0 : Int32))).bind fun e15 => (bz e15).bind fun _ => some (e15, e12)
set_option maxHeartbeats 4000000 in
set_option maxRecDepth 100000 in
theorem cm_block (l : Launch) (G : Gk) (Zd : Nat → Nat) (q : Nat → Nat) (st : MS) (r0 : Int32) (st0 : MS) (hm : m_block st = some (r0, st0)) (sz : Nat) : Met l y15_58 (Cond.code y15_58 prog_15_method_58_code 3 (some .boolean) :: TB) (rmD 0 0 0) (va_Pc [.ref (q 0)] (pcW G Zd (wMs q G.2 st) sz)) (qI G (fun rr (_ : Unit) => rr = r0) (fun _ => (wMs q G.2 st0)) (va_A (wMs q G.2 st) sz)) 0 0 (va_A (wMs q G.2 st) sz) := by
  refine go (y := y15_58) (cc := prog_15_method_58_code) (maxL := 3) (ret := (some .boolean)) (av := [.ref (q 0)]) (Qc := qI G (fun rr (_ : Unit) => rr = r0) (fun _ => (wMs q G.2 st0))) "PagedValuesModel" rfl (by decide) (Nat.le_of_ble_eq_true rfl) ?_
  intro p e s m below meth c ls A hx hb hr hlk hml hown hts hin hl hP hD hK hS hA hZ
  have hl : lv_has ls 3 [(0, .ref (q 0))] := hl
  have h := hm
  clear hm
  refine lv_aload_n hx hb d15_58_0 rfl (lv_at hl 0 rfl) ?_
  refine lv_dup hx hb d15_58_1 rfl ?_
  refine va_get (D := G.1) (ci := 13) (v := .int (st.1 14)) (C := r_13) (T := f_13) (N := 42) (ref := "PagedValuesModel") hx hb hts (fun w h => List.mem_cons_of_mem _ (ly_13 w h)) hown hK hP 0 rfl rfl 41 (by decide) (hts _ (List.mem_cons_of_mem _ k1192)) (fun _ h9 => h9) rfl d15_58_2 ?_
  refine lv_iconst (v := 1) hx hb d15_58_5 (by decide) ?_
  refine lv_iadd hx hb d15_58_6 ?_
  obtain ⟨y1, hr, h⟩ := ob h
  refine lv_topi (fun y9 ey => ?_)
  have e9 := ey.trans (Option.some.inj hr)
  clear ey
  subst y9
  clear hr
  refine va_put (D := G.1) (ci := 13) (v := .int y1) (ty := .int) (C := r_13) (T := f_13) (N := 42) (ref := "PagedValuesModel") hx hb hts (fun w h => List.mem_cons_of_mem _ (ly_13 w h)) ft_13 ft_13_ok nm_13 hown hK hP hD hS 0 rfl rfl 41 (by decide) (hts _ (List.mem_cons_of_mem _ k1192)) (fun _ h9 => h9) rfl (by decide +kernel) rfl rfl (Nat.le_of_ble_eq_true rfl) d15_58_7 (fun H locs hP hD hS => ?_)
  have hP : va_P G.1 vwCl (wMs q G.2 (upd st.1 14 y1, st.2.1, st.2.2.1, st.2.2.2)) H := hP
  have hD : va_D A (wMs q G.2 (upd st.1 14 y1, st.2.1, st.2.2.1, st.2.2.2)) := hD
  refine lv_aload_n hx hb d15_58_10 rfl (lv_at hl 0 rfl) ?_
  refine lv_aload_n hx hb d15_58_11 rfl (lv_at hl 0 rfl) ?_
  refine va_get (D := G.1) (ci := 13) (v := .int (st.1 12)) (C := r_13) (T := f_13) (N := 42) (ref := "PagedValuesModel") hx hb hts (fun w h => List.mem_cons_of_mem _ (ly_13 w h)) hown hK hP 0 rfl rfl 39 (by decide) (hts _ (List.mem_cons_of_mem _ k1190)) (fun _ h9 => h9) rfl d15_58_12 ?_
  obtain ⟨e3, hX, h⟩ := ob h
  have hj : ∀ (H : Heap) (locs : List Loc) (ls : Array Slot), lv_has ls 3 [(0, .ref (q 0))] → va_P G.1 vwCl (wMs q G.2 (upd st.1 14 y1, st.2.1, st.2.2.1, st.2.2.2)) H → va_D A (wMs q G.2 (upd st.1 14 y1, st.2.1, st.2.2.1, st.2.2.2)) → va_S A s.heap H locs → W p l e (rmD 0 0 0) s m ([.ref (q 0)] : List Value).toArray below meth c H locs 0 0 (MQ below (qI G (fun rr (_ : Unit) => rr = r0) (fun _ => (wMs q G.2 st0)) A) ([.ref (q 0)] : List Value).toArray s 0 0 A) (F0 m 28 ls [.int e3, .ref (q 0)]) := by
    intro H locs ls hl hP hD hS
    refine va_put (D := G.1) (ci := 13) (v := .int e3) (ty := .int) (C := r_13) (T := f_13) (N := 42) (ref := "PagedValuesModel") hx hb hts (fun w h => List.mem_cons_of_mem _ (ly_13 w h)) ft_13 ft_13_ok nm_13 hown hK hP hD hS 0 rfl rfl 39 (by decide) (hts _ (List.mem_cons_of_mem _ k1190)) (fun _ h9 => h9) rfl (by decide +kernel) rfl rfl (Nat.le_of_ble_eq_true rfl) d15_58_28 (fun H locs hP hD hS => ?_)
    have hP : va_P G.1 vwCl (wMs q G.2 (upd (upd st.1 14 y1) 12 e3, st.2.1, st.2.2.1, st.2.2.2)) H := hP
    have hD : va_D A (wMs q G.2 (upd (upd st.1 14 y1) 12 e3, st.2.1, st.2.2.1, st.2.2.2)) := hD
    refine lv_aload_n hx hb d15_58_31 rfl (lv_at hl 0 rfl) ?_
    refine va_get (D := G.1) (ci := 13) (v := .int e3) (C := r_13) (T := f_13) (N := 42) (ref := "PagedValuesModel") hx hb hts (fun w h => List.mem_cons_of_mem _ (ly_13 w h)) hown hK hP 0 rfl rfl 39 (by decide) (hts _ (List.mem_cons_of_mem _ k1190)) (fun _ h9 => h9) rfl d15_58_32 ?_
    obtain ⟨e6, hX, h⟩ := ob h
    have hj : ∀ (H : Heap) (locs : List Loc) (ls : Array Slot), lv_has ls 3 [(0, .ref (q 0))] → va_P G.1 vwCl (wMs q G.2 (upd (upd st.1 14 y1) 12 e3, st.2.1, st.2.2.1, st.2.2.2)) H → va_D A (wMs q G.2 (upd (upd st.1 14 y1) 12 e3, st.2.1, st.2.2.1, st.2.2.2)) → va_S A s.heap H locs → W p l e (rmD 0 0 0) s m ([.ref (q 0)] : List Value).toArray below meth c H locs 0 0 (MQ below (qI G (fun rr (_ : Unit) => rr = r0) (fun _ => (wMs q G.2 st0)) A) ([.ref (q 0)] : List Value).toArray s 0 0 A) (F0 m 43 ls [.int e6]) := by
      intro H locs ls hl hP hD hS
      refine lv_istore_n (lv' := [(1, .int e6), (0, .ref (q 0))]) hx hb d15_58_43 rfl hl (by decide) rfl (fun ls hl => ?_)
      refine lv_aload_n hx hb d15_58_44 rfl (lv_at hl 1 rfl) ?_
      refine lv_aload_n hx hb d15_58_45 rfl (lv_at hl 1 rfl) ?_
      refine va_get (D := G.1) (ci := 13) (v := .int e3) (C := r_13) (T := f_13) (N := 42) (ref := "PagedValuesModel") hx hb hts (fun w h => List.mem_cons_of_mem _ (ly_13 w h)) hown hK hP 0 rfl rfl 39 (by decide) (hts _ (List.mem_cons_of_mem _ k1190)) (fun _ h9 => h9) rfl d15_58_46 ?_
      obtain ⟨e9, hX, h⟩ := ob h
      have hj : ∀ (H : Heap) (locs : List Loc) (ls : Array Slot), lv_has ls 3 [(0, .ref (q 0)), (1, .int e6)] → va_P G.1 vwCl (wMs q G.2 (upd (upd st.1 14 y1) 12 e3, st.2.1, st.2.2.1, st.2.2.2)) H → va_D A (wMs q G.2 (upd (upd st.1 14 y1) 12 e3, st.2.1, st.2.2.1, st.2.2.2)) → va_S A s.heap H locs → W p l e (rmD 0 0 0) s m ([.ref (q 0)] : List Value).toArray below meth c H locs 0 0 (MQ below (qI G (fun rr (_ : Unit) => rr = r0) (fun _ => (wMs q G.2 st0)) A) ([.ref (q 0)] : List Value).toArray s 0 0 A) (F0 m 60 ls [.int e9, .ref (q 0)]) := by
        intro H locs ls hl hP hD hS
        refine va_put (D := G.1) (ci := 13) (v := .int e9) (ty := .int) (C := r_13) (T := f_13) (N := 42) (ref := "PagedValuesModel") hx hb hts (fun w h => List.mem_cons_of_mem _ (ly_13 w h)) ft_13 ft_13_ok nm_13 hown hK hP hD hS 0 rfl rfl 39 (by decide) (hts _ (List.mem_cons_of_mem _ k1190)) (fun _ h9 => h9) rfl (by decide +kernel) rfl rfl (Nat.le_of_ble_eq_true rfl) d15_58_60 (fun H locs hP hD hS => ?_)
        have hP : va_P G.1 vwCl (wMs q G.2 (upd (upd st.1 14 y1) 12 e9, st.2.1, st.2.2.1, st.2.2.2)) H := hP
        have hD : va_D A (wMs q G.2 (upd (upd st.1 14 y1) 12 e9, st.2.1, st.2.2.1, st.2.2.2)) := hD
        refine lv_iload_n hx hb d15_58_63 rfl (lv_at hl 1 rfl) ?_
        obtain ⟨e12, hX, h⟩ := ob h
        have hj : ∀ (H : Heap) (locs : List Loc) (ls : Array Slot), lv_has ls 3 [(0, .ref (q 0)), (1, .int e6)] → va_P G.1 vwCl (wMs q G.2 e12) H → va_D A (wMs q G.2 e12) → va_S A s.heap H locs → W p l e (rmD 0 0 0) s m ([.ref (q 0)] : List Value).toArray below meth c H locs 0 0 (MQ below (qI G (fun rr (_ : Unit) => rr = r0) (fun _ => (wMs q G.2 st0)) A) ([.ref (q 0)] : List Value).toArray s 0 0 A) (F0 m 97 ls []) := by
          intro H locs ls hl hP hD hS
          refine lv_iload_n hx hb d15_58_97 rfl (lv_at hl 1 rfl) ?_
          obtain ⟨e15, hX, h⟩ := ob h
          have hj : ∀ (H : Heap) (locs : List Loc) (ls : Array Slot), lv_has ls 3 [(0, .ref (q 0)), (1, .int e6)] → va_P G.1 vwCl (wMs q G.2 e12) H → va_D A (wMs q G.2 e12) → va_S A s.heap H locs → W p l e (rmD 0 0 0) s m ([.ref (q 0)] : List Value).toArray below meth c H locs 0 0 (MQ below (qI G (fun rr (_ : Unit) => rr = r0) (fun _ => (wMs q G.2 st0)) A) ([.ref (q 0)] : List Value).toArray s 0 0 A) (F0 m 106 ls [.int e15]) := by
            intro H locs ls hl hP hD hS
            obtain ⟨u9, hr9, h⟩ := ob h
            have hi := bz_some hr9
            clear hr9 u9
            cases h
            exact fin_z hx hb hr hlk (nar01 hi) hS () rfl hP hD (Nat.le_of_ble_eq_true rfl) (Nat.le_of_ble_eq_true rfl) d15_58_106
          clear h
          refine lv_if_ne (tgt := 105) hx hb d15_58_98 rfl (fun c14 => ?_) (fun c14 => ?_)
          ·
            replace h := (if_neg c14).symm.trans hX
            refine lv_iconst (v := 0) hx hb d15_58_105 (by decide) ?_
            have e9 := Option.some.inj h
            subst e15
            have hl := lv_sub hl (l' := [(0, .ref (q 0)), (1, .int e6)]) [0, 1] rfl
            exact hj _ _ _ hl hP hD hS
          ·
            replace h := (if_pos c14).symm.trans hX
            refine lv_iconst (v := 1) hx hb d15_58_101 (by decide) ?_
            refine lv_goto (tgt := 106) hx hb d15_58_102 rfl ?_
            have e9 := Option.some.inj h
            subst e15
            have hl := lv_sub hl (l' := [(0, .ref (q 0)), (1, .int e6)]) [0, 1] rfl
            exact hj _ _ _ hl hP hD hS
        clear h
        refine lv_if_eq (tgt := 97) hx hb d15_58_64 rfl (fun c11 => ?_) (fun c11 => ?_)
        ·
          replace h := (if_pos c11).symm.trans hX
          have e9 := Option.some.inj h
          subst e12
          have hl := lv_sub hl (l' := [(0, .ref (q 0)), (1, .int e6)]) [0, 1] rfl
          exact hj _ _ _ hl hP hD hS
        ·
          replace h := (if_neg c11).symm.trans hX
          refine lv_aload_n hx hb d15_58_67 rfl (lv_at hl 0 rfl) ?_
          refine lv_iconst (v := 1) hx hb d15_58_68 (by decide) ?_
          refine va_put (D := G.1) (ci := 13) (v := .int 1) (ty := .boolean) (C := r_13) (T := f_13) (N := 42) (ref := "PagedValuesModel") hx hb hts (fun w h => List.mem_cons_of_mem _ (ly_13 w h)) ft_13 ft_13_ok nm_13 hown hK hP hD hS 0 rfl rfl 40 (by decide) (hts _ (List.mem_cons_of_mem _ k1191)) (fun _ h9 => h9) rfl (by decide +kernel) (by decide) (by decide) (Nat.le_of_ble_eq_true rfl) d15_58_69 (fun H locs hP hD hS => ?_)
          have hP : va_P G.1 vwCl (wMs q G.2 (upd (upd (upd st.1 14 y1) 12 e9) 13 1, st.2.1, st.2.2.1, st.2.2.2)) H := hP
          have hD : va_D A (wMs q G.2 (upd (upd (upd st.1 14 y1) 12 e9) 13 1, st.2.1, st.2.2.1, st.2.2.2)) := hD
          refine lv_aload_n hx hb d15_58_72 rfl (lv_at hl 0 rfl) ?_
          refine lv_iconst (v := 0) hx hb d15_58_73 (by decide) ?_
          refine va_put (D := G.1) (ci := 13) (v := .int 0) (ty := .int) (C := r_13) (T := f_13) (N := 42) (ref := "PagedValuesModel") hx hb hts (fun w h => List.mem_cons_of_mem _ (ly_13 w h)) ft_13 ft_13_ok nm_13 hown hK hP hD hS 0 rfl rfl 1 (by decide) (hts _ (List.mem_cons_of_mem _ k1152)) (fun _ h9 => h9) rfl (by decide +kernel) rfl rfl (Nat.le_of_ble_eq_true rfl) d15_58_74 (fun H locs hP hD hS => ?_)
          have hP : va_P G.1 vwCl (wMs q G.2 (upd (upd (upd (upd st.1 14 y1) 12 e9) 13 1) 0 0, st.2.1, st.2.2.1, st.2.2.2)) H := hP
          have hD : va_D A (wMs q G.2 (upd (upd (upd (upd st.1 14 y1) 12 e9) 13 1) 0 0, st.2.1, st.2.2.1, st.2.2.2)) := hD
          refine lv_iconst (v := 0) hx hb d15_58_77 (by decide) ?_
          refine lv_istore_n (lv' := [(2, .int 0), (0, .ref (q 0)), (1, .int e6)]) hx hb d15_58_78 rfl hl (by decide) rfl (fun ls hl => ?_)
          obtain ⟨e17, hX, hrest⟩ := ob h
          clear h
          have hj : ∀ (v21 : Int32) (v22 : MS), e17 = (v21, v22) → ∀ (H : Heap) (locs : List Loc) (ls : Array Slot), lv_has ls 3 [(0, .ref (q 0)), (1, .int e6), (2, .int v21)] → va_P G.1 vwCl (wMs q G.2 v22) H → va_D A (wMs q G.2 v22) → va_S A s.heap H locs → W p l e (rmD 0 0 0) s m ([.ref (q 0)] : List Value).toArray below meth c H locs 0 0 (MQ below (qI G (fun rr (_ : Unit) => rr = r0) (fun _ => (wMs q G.2 st0)) A) ([.ref (q 0)] : List Value).toArray s 0 0 A) (F0 m 97 ls []) := by
            intro v21 v22 he H locs ls hl hP hD hS
            subst e17
            have h := hrest
            have e9 := Option.some.inj h
            subst e12
            have hl := lv_sub hl (l' := [(0, .ref (q 0)), (1, .int e6)]) [0, 1] rfl
            exact hj _ _ _ hl hP hD hS
          have hloop : ∀ (n9 : Nat) (v18 : Int32) (v19 : MS), m_block_l1  n9 (v18, v19) = some e17 → ∀ (H : Heap) (locs : List Loc) (ls : Array Slot), lv_has ls 3 [(0, .ref (q 0)), (1, .int e6), (2, .int v18)] → va_P G.1 vwCl (wMs q G.2 v19) H → va_D A (wMs q G.2 v19) → va_S A s.heap H locs → W p l e (rmD 0 0 0) s m ([.ref (q 0)] : List Value).toArray below meth c H locs 0 0 (MQ below (qI G (fun rr (_ : Unit) => rr = r0) (fun _ => (wMs q G.2 st0)) A) ([.ref (q 0)] : List Value).toArray s 0 0 A) (F0 m 79 ls []) := by
            intro n9
            induction n9 with
            | zero =>
              intro v18 v19 h
              cases h
            | succ n9 ih =>
              intro v18 v19 h H locs ls hl hP hD hS
              replace h := (m_block_l1_s  n9 (v18, v19)).symm.trans h
              refine lv_iload_n hx hb d15_58_79 rfl (lv_at hl 2 rfl) ?_
              refine lv_iconst (v := 3) hx hb d15_58_80 (by decide) ?_
              refine lv_icmp_ge (tgt := 97) hx hb d15_58_81 rfl (fun c23 => ?_) (fun c23 => ?_)
              ·
                replace h := (if_pos c23).symm.trans h
                have e9 := Option.some.inj h
                subst e17
                have hl := lv_sub hl (l' := [(0, .ref (q 0)), (1, .int e6), (2, .int v18)]) [0, 1, 2] rfl
                exact hj _ _ rfl _ _ _ hl hP hD hS
              ·
                replace h := (if_neg c23).symm.trans h
                refine lv_aload_n hx hb d15_58_84 rfl (lv_at hl 0 rfl) ?_
                refine va_get (D := G.1) (ci := 13) (v := .ref (q 24)) (C := r_13) (T := f_13) (N := 42) (ref := "PagedValuesModel") hx hb hts (fun w h => List.mem_cons_of_mem _ (ly_13 w h)) hown hK hP 0 rfl rfl 37 (by decide) (hts _ (List.mem_cons_of_mem _ k1188)) (fun _ h9 => h9) rfl d15_58_85 ?_
                refine lv_iload_n hx hb d15_58_88 rfl (lv_at hl 2 rfl) ?_
                refine lv_iconst (v := 0) hx hb d15_58_89 (by decide) ?_
                obtain ⟨k24z, hr, h⟩ := ob h
                obtain ⟨hi, hk⟩ := ix_some hr
                clear hr
                refine va_zast (D := G.1) hx hb hK hP hD hS 24 3 rfl rfl (i := v18) (x := (0 : Int32)) hi d15_58_90 (fun H locs hP hD hS => ?_)
                rw [hk] at hP hD
                clear hk hi
                obtain ⟨y25, hr, h⟩ := ob h
                rw [Option.some.inj hr] at hP hD
                clear hr
                have hP : va_P G.1 vwCl (wMs q G.2 (v19.1, v19.2.1, va_up v19.2.2.1 17 (upd (v19.2.2.1 17) k24z y25), v19.2.2.2)) H := hP
                have hD : va_D A (wMs q G.2 (v19.1, v19.2.1, va_up v19.2.2.1 17 (upd (v19.2.2.1 17) k24z y25), v19.2.2.2)) := hD
                refine lv_iinc (k := 2) (v := v18 + 1) (lv' := [(2, .int (v18 + 1)), (0, .ref (q 0)), (1, .int e6)]) hx hb d15_58_91 hl rfl (by first | decide | rfl) (by decide) rfl (fun ls hl => ?_)
                refine lv_goto (tgt := 79) hx hb d15_58_94 rfl ?_
                have hl := lv_sub hl (l' := [(0, .ref (q 0)), (1, .int e6), (2, .int (v18 + 1))]) [1, 2, 0] rfl
                exact ih _ _ h _ _ _ hl hP hD hS
          have hl := lv_sub hl (l' := [(0, .ref (q 0)), (1, .int e6), (2, .int 0)]) [1, 2, 0] rfl
          exact hloop _ _ _ hX _ _ _ hl hP hD hS
      clear h
      refine lv_if_ge (tgt := 56) hx hb d15_58_49 rfl (fun c8 => ?_) (fun c8 => ?_)
      ·
        replace h := (if_pos c8).symm.trans hX
        refine lv_aload_n hx hb d15_58_56 rfl (lv_at hl 1 rfl) ?_
        refine va_get (D := G.1) (ci := 13) (v := .int e3) (C := r_13) (T := f_13) (N := 42) (ref := "PagedValuesModel") hx hb hts (fun w h => List.mem_cons_of_mem _ (ly_13 w h)) hown hK hP 0 rfl rfl 39 (by decide) (hts _ (List.mem_cons_of_mem _ k1190)) (fun _ h9 => h9) rfl d15_58_57 ?_
        have e9 := Option.some.inj h
        subst e9
        have hl := lv_sub hl (l' := [(0, .ref (q 0)), (1, .int e6)]) [1, 0] rfl
        exact hj _ _ _ hl hP hD hS
      ·
        replace h := (if_neg c8).symm.trans hX
        refine lv_iconst (v := 0) hx hb d15_58_52 (by decide) ?_
        refine lv_goto (tgt := 60) hx hb d15_58_53 rfl ?_
        have e9 := Option.some.inj h
        subst e9
        have hl := lv_sub hl (l' := [(0, .ref (q 0)), (1, .int e6)]) [1, 0] rfl
        exact hj _ _ _ hl hP hD hS
    clear h
    refine lv_if_ne (tgt := 42) hx hb d15_58_35 rfl (fun c5 => ?_) (fun c5 => ?_)
    ·
      replace h := (if_neg c5).symm.trans hX
      refine lv_iconst (v := 0) hx hb d15_58_42 (by decide) ?_
      have e9 := Option.some.inj h
      subst e6
      have hl := lv_sub hl (l' := [(0, .ref (q 0))]) [0] rfl
      exact hj _ _ _ hl hP hD hS
    ·
      replace h := (if_pos c5).symm.trans hX
      refine lv_iconst (v := 1) hx hb d15_58_38 (by decide) ?_
      refine lv_goto (tgt := 43) hx hb d15_58_39 rfl ?_
      have e9 := Option.some.inj h
      subst e6
      have hl := lv_sub hl (l' := [(0, .ref (q 0))]) [0] rfl
      exact hj _ _ _ hl hP hD hS
  clear h
  refine lv_if_le (tgt := 27) hx hb d15_58_15 rfl (fun c2 => ?_) (fun c2 => ?_)
  ·
    replace h := (if_pos c2).symm.trans hX
    refine lv_iconst (v := (-1)) hx hb d15_58_27 (by decide) ?_
    have e9 := Option.some.inj h
    subst e3
    have hl := lv_sub hl (l' := [(0, .ref (q 0))]) [0] rfl
    exact hj _ _ _ hl hP hD hS
  ·
    replace h := (if_neg c2).symm.trans hX
    refine lv_aload_n hx hb d15_58_18 rfl (lv_at hl 0 rfl) ?_
    refine va_get (D := G.1) (ci := 13) (v := .int (st.1 12)) (C := r_13) (T := f_13) (N := 42) (ref := "PagedValuesModel") hx hb hts (fun w h => List.mem_cons_of_mem _ (ly_13 w h)) hown hK hP 0 rfl rfl 39 (by decide) (hts _ (List.mem_cons_of_mem _ k1190)) (fun _ h9 => h9) rfl d15_58_19 ?_
    refine lv_iconst (v := 1) hx hb d15_58_22 (by decide) ?_
    refine lv_isub hx hb d15_58_23 ?_
    obtain ⟨y26, hr, h⟩ := ob h
    refine lv_topi (fun y9 ey => ?_)
    have e9 := ey.trans (Option.some.inj hr)
    clear ey
    subst y9
    clear hr
    refine lv_goto (tgt := 28) hx hb d15_58_24 rfl ?_
    have e9 := Option.some.inj h
    subst e3
    have hl := lv_sub hl (l' := [(0, .ref (q 0))]) [0] rfl
    exact hj _ _ _ hl hP hD hS
def m_rowOf (a0 : Int32) (a1 : Int32) (st : MS) : Option (Int32) := (if a0 < (0 : Int32) then (some ((-1) : Int32)) else ((m_within a1 (0 : Int32) (7 : Int32)).bind fun x15 => if x15 = (0 : Int32) then (some ((-1) : Int32)) else ((some (2 * a0)).bind fun y19 => (some (a1 / 4)).bind fun y20 => (some (y19 + y20)).bind fun y21 => (rd (st.2.2.1 13) 24 y21).bind fun x22 => some x22))).bind fun e2 => (if e2 < (0 : Int32) then (some ((-1) : Int32)) else ((some (4 * e2)).bind fun y7 => (some (a1 - a1 / 4 * 4)).bind fun y8 => (some (y7 + y8)).bind fun y9 => (rd (st.2.2.1 14) 48 y9).bind fun x10 => if x10 = (0 : Int32) then (some ((-1) : Int32)) else ((some (4 * e2)).bind fun y12 => (some (a1 - a1 / 4 * 4)).bind fun y13 => (some (y12 + y13)).bind fun y14 => some y14))).bind fun e5 => some e5
set_option maxHeartbeats 4000000 in
set_option maxRecDepth 100000 in
theorem cm_rowOf (l : Launch) (G : Gk) (Zd : Nat → Nat) (q : Nat → Nat) (a0 : Int32) (a1 : Int32) (st : MS) (r0 : Int32) (hm : m_rowOf a0 a1 st = some r0) (sz : Nat) : Met l y15_56 (Cond.code y15_56 prog_15_method_56_code 4 (some .int) :: TB) (rmD 1 0 0) (va_Pc [.ref (q 0), .int a0, .int a1] (pcW G Zd (wMs q G.2 st) sz)) (qI G (fun rr (_ : Unit) => rr = r0) (fun _ => (wMs q G.2 st)) (va_A (wMs q G.2 st) sz)) 0 0 (va_A (wMs q G.2 st) sz) := by
  refine go (y := y15_56) (cc := prog_15_method_56_code) (maxL := 4) (ret := (some .int)) (av := [.ref (q 0), .int a0, .int a1]) (Qc := qI G (fun rr (_ : Unit) => rr = r0) (fun _ => (wMs q G.2 st))) "PagedValuesModel" rfl (by decide) (Nat.le_of_ble_eq_true rfl) ?_
  intro p e s m below meth c ls A hx hb hr hlk hml hown hts hin hl hP hD hK hS hA hZ
  have hl : lv_has ls 4 [(0, .ref (q 0)), (1, .int a0), (2, .int a1)] := hl
  have h := hm
  clear hm
  refine lv_iload_n hx hb d15_56_0 rfl (lv_at hl 1 rfl) ?_
  obtain ⟨e2, hX, h⟩ := ob h
  have hj : ∀ (H : Heap) (locs : List Loc) (ls : Array Slot), lv_has ls 4 [(0, .ref (q 0)), (1, .int a0), (2, .int a1)] → va_P G.1 vwCl (wMs q G.2 st) H → va_D A (wMs q G.2 st) → va_S A s.heap H locs → W p l e (rmD 1 0 0) s m ([.ref (q 0), .int a0, .int a1] : List Value).toArray below meth c H locs 0 0 (MQ below (qI G (fun rr (_ : Unit) => rr = r0) (fun _ => (wMs q G.2 st)) A) ([.ref (q 0), .int a0, .int a1] : List Value).toArray s 0 0 A) (F0 m 30 ls [.int e2]) := by
    intro H locs ls hl hP hD hS
    refine lv_istore_n (lv' := [(3, .int e2), (0, .ref (q 0)), (1, .int a0), (2, .int a1)]) hx hb d15_56_30 rfl hl (by decide) rfl (fun ls hl => ?_)
    refine lv_iload_n hx hb d15_56_31 rfl (lv_at hl 0 rfl) ?_
    obtain ⟨e5, hX, h⟩ := ob h
    have hj : ∀ (H : Heap) (locs : List Loc) (ls : Array Slot), lv_has ls 4 [(0, .ref (q 0)), (1, .int a0), (2, .int a1), (3, .int e2)] → va_P G.1 vwCl (wMs q G.2 st) H → va_D A (wMs q G.2 st) → va_S A s.heap H locs → W p l e (rmD 1 0 0) s m ([.ref (q 0), .int a0, .int a1] : List Value).toArray below meth c H locs 0 0 (MQ below (qI G (fun rr (_ : Unit) => rr = r0) (fun _ => (wMs q G.2 st)) A) ([.ref (q 0), .int a0, .int a1] : List Value).toArray s 0 0 A) (F0 m 61 ls [.int e5]) := by
      intro H locs ls hl hP hD hS
      cases h
      exact fin_i hx hb hr hlk hS () rfl hP hD (Nat.le_of_ble_eq_true rfl) (Nat.le_of_ble_eq_true rfl) d15_56_61
    clear h
    refine lv_if_lt (tgt := 60) hx hb d15_56_32 rfl (fun c4 => ?_) (fun c4 => ?_)
    ·
      replace h := (if_pos c4).symm.trans hX
      refine lv_iconst (v := (-1)) hx hb d15_56_60 (by decide) ?_
      have e9 := Option.some.inj h
      subst e5
      have hl := lv_sub hl (l' := [(0, .ref (q 0)), (1, .int a0), (2, .int a1), (3, .int e2)]) [1, 2, 3, 0] rfl
      exact hj _ _ _ hl hP hD hS
    ·
      replace h := (if_neg c4).symm.trans hX
      refine lv_aload_n hx hb d15_56_35 rfl (lv_at hl 1 rfl) ?_
      refine va_get (D := G.1) (ci := 13) (v := .ref (q 21)) (C := r_13) (T := f_13) (N := 42) (ref := "PagedValuesModel") hx hb hts (fun w h => List.mem_cons_of_mem _ (ly_13 w h)) hown hK hP 0 rfl rfl 34 (by decide) (hts _ (List.mem_cons_of_mem _ k1185)) (fun _ h9 => h9) rfl d15_56_36 ?_
      refine lv_iconst (v := 4) hx hb d15_56_39 (by decide) ?_
      refine lv_iload_n hx hb d15_56_40 rfl (lv_at hl 0 rfl) ?_
      refine lv_imul hx hb d15_56_41 ?_
      obtain ⟨y7, hr, h⟩ := ob h
      refine lv_topi (fun y9 ey => ?_)
      have e9 := ey.trans (Option.some.inj hr)
      clear ey
      subst y9
      clear hr
      refine lv_iload_n hx hb d15_56_42 rfl (lv_at hl 3 rfl) ?_
      refine lv_iconst (v := 4) hx hb d15_56_43 (by decide) ?_
      refine lv_irem hx hb d15_56_44 (by decide) ?_
      obtain ⟨y8, hr, h⟩ := ob h
      refine lv_topi (fun y9 ey => ?_)
      have e9 := ey.trans (Option.some.inj hr)
      clear ey
      subst y9
      clear hr
      refine lv_iadd hx hb d15_56_45 ?_
      obtain ⟨y9, hr, h⟩ := ob h
      refine lv_topi (fun y9 ey => ?_)
      have e9 := ey.trans (Option.some.inj hr)
      clear ey
      subst y9
      clear hr
      obtain ⟨x10, hr, h⟩ := ob h
      obtain ⟨hi, hv⟩ := rd_some hr
      refine va_zald (D := G.1) hx hb hK hP 21 3 rfl rfl (i := y9) hi d15_56_46 ?_
      refine lv_topi (fun y9 ey => ?_)
      have e9 := ey.trans hv
      clear ey
      subst y9
      clear hv hi hr
      refine lv_if_eq (tgt := 60) hx hb d15_56_47 rfl (fun c11 => ?_) (fun c11 => ?_)
      ·
        replace h := (if_pos c11).symm.trans h
        refine lv_iconst (v := (-1)) hx hb d15_56_60 (by decide) ?_
        have e9 := Option.some.inj h
        subst e5
        have hl := lv_sub hl (l' := [(0, .ref (q 0)), (1, .int a0), (2, .int a1), (3, .int e2)]) [1, 2, 3, 0] rfl
        exact hj _ _ _ hl hP hD hS
      ·
        replace h := (if_neg c11).symm.trans h
        refine lv_iconst (v := 4) hx hb d15_56_50 (by decide) ?_
        refine lv_iload_n hx hb d15_56_51 rfl (lv_at hl 0 rfl) ?_
        refine lv_imul hx hb d15_56_52 ?_
        obtain ⟨y12, hr, h⟩ := ob h
        refine lv_topi (fun y9 ey => ?_)
        have e9 := ey.trans (Option.some.inj hr)
        clear ey
        subst y9
        clear hr
        refine lv_iload_n hx hb d15_56_53 rfl (lv_at hl 3 rfl) ?_
        refine lv_iconst (v := 4) hx hb d15_56_54 (by decide) ?_
        refine lv_irem hx hb d15_56_55 (by decide) ?_
        obtain ⟨y13, hr, h⟩ := ob h
        refine lv_topi (fun y9 ey => ?_)
        have e9 := ey.trans (Option.some.inj hr)
        clear ey
        subst y9
        clear hr
        refine lv_iadd hx hb d15_56_56 ?_
        obtain ⟨y14, hr, h⟩ := ob h
        refine lv_topi (fun y9 ey => ?_)
        have e9 := ey.trans (Option.some.inj hr)
        clear ey
        subst y9
        clear hr
        refine lv_goto (tgt := 61) hx hb d15_56_57 rfl ?_
        have e9 := Option.some.inj h
        subst e5
        have hl := lv_sub hl (l' := [(0, .ref (q 0)), (1, .int a0), (2, .int a1), (3, .int e2)]) [1, 2, 3, 0] rfl
        exact hj _ _ _ hl hP hD hS
  clear h
  refine lv_if_lt (tgt := 14) hx hb d15_56_1 rfl (fun c1 => ?_) (fun c1 => ?_)
  ·
    replace h := (if_pos c1).symm.trans hX
    refine lv_iconst (v := (-1)) hx hb d15_56_14 (by decide) ?_
    refine lv_goto (tgt := 30) hx hb d15_56_15 rfl ?_
    have e9 := Option.some.inj h
    subst e2
    have hl := lv_sub hl (l' := [(0, .ref (q 0)), (1, .int a0), (2, .int a1)]) [0, 1, 2] rfl
    exact hj _ _ _ hl hP hD hS
  ·
    replace h := (if_neg c1).symm.trans hX
    refine lv_iload_n hx hb d15_56_4 rfl (lv_at hl 2 rfl) ?_
    refine lv_iconst (v := 0) hx hb d15_56_5 (by decide) ?_
    refine lv_bipush (v := 7) hx hb d15_56_6 (by decide) ?_
    obtain ⟨x15, hc, h⟩ := ob h
    refine sS_i (As := [.int a1, .int 0, .int 7]) (rest := []) ⟨hx, hb, hml, hown, hts⟩ (cm_within l G Zd _ a1 (0 : Int32) (7 : Int32) x15 hc _) (kw_S (n := 3) hts k1289 k1287 k15 k1288 (by decide +kernel) ⟨Nat.le_of_ble_eq_true rfl, Nat.le_of_ble_eq_true rfl⟩) hP hD hK hS hA hZ rfl hl.1 rfl (Nat.le_of_ble_eq_true rfl) d15_56_8 ⟨Nat.le_of_ble_eq_true rfl, Nat.le_of_ble_eq_true rfl⟩ (fun rr u9 H locs hp hP hD hS => ?_)
    clear u9
    subst rr
    clear hc
    refine W.eq (g2 := F0 m 11 ls [.int x15]) rfl ?_
    have hP : va_P G.1 vwCl (wMs q G.2 st) H := hP
    have hD : va_D A (wMs q G.2 st) := hD
    refine lv_if_ne (tgt := 18) hx hb d15_56_11 rfl (fun c18 => ?_) (fun c18 => ?_)
    ·
      replace h := (if_neg c18).symm.trans h
      refine lv_aload_n hx hb d15_56_18 rfl (lv_at hl 0 rfl) ?_
      refine va_get (D := G.1) (ci := 13) (v := .ref (q 20)) (C := r_13) (T := f_13) (N := 42) (ref := "PagedValuesModel") hx hb hts (fun w h => List.mem_cons_of_mem _ (ly_13 w h)) hown hK hP 0 rfl rfl 33 (by decide) (hts _ (List.mem_cons_of_mem _ k1184)) (fun _ h9 => h9) rfl d15_56_19 ?_
      refine lv_iconst (v := 2) hx hb d15_56_22 (by decide) ?_
      refine lv_iload_n hx hb d15_56_23 rfl (lv_at hl 1 rfl) ?_
      refine lv_imul hx hb d15_56_24 ?_
      obtain ⟨y19, hr, h⟩ := ob h
      refine lv_topi (fun y9 ey => ?_)
      have e9 := ey.trans (Option.some.inj hr)
      clear ey
      subst y9
      clear hr
      refine lv_iload_n hx hb d15_56_25 rfl (lv_at hl 2 rfl) ?_
      refine lv_iconst (v := 4) hx hb d15_56_26 (by decide) ?_
      refine lv_idiv hx hb d15_56_27 (by decide) ?_
      obtain ⟨y20, hr, h⟩ := ob h
      refine lv_topi (fun y9 ey => ?_)
      have e9 := ey.trans (Option.some.inj hr)
      clear ey
      subst y9
      clear hr
      refine lv_iadd hx hb d15_56_28 ?_
      obtain ⟨y21, hr, h⟩ := ob h
      refine lv_topi (fun y9 ey => ?_)
      have e9 := ey.trans (Option.some.inj hr)
      clear ey
      subst y9
      clear hr
      obtain ⟨x22, hr, h⟩ := ob h
      obtain ⟨hi, hv⟩ := rd_some hr
      refine va_iald (D := G.1) hx hb hK hP 20 1 rfl rfl (i := y21) hi d15_56_29 ?_
      refine lv_topi (fun y9 ey => ?_)
      have e9 := ey.trans hv
      clear ey
      subst y9
      clear hv hi hr
      have e9 := Option.some.inj h
      subst e2
      have hl := lv_sub hl (l' := [(0, .ref (q 0)), (1, .int a0), (2, .int a1)]) [0, 1, 2] rfl
      exact hj _ _ _ hl hP hD hS
    ·
      replace h := (if_pos c18).symm.trans h
      refine lv_iconst (v := (-1)) hx hb d15_56_14 (by decide) ?_
      refine lv_goto (tgt := 30) hx hb d15_56_15 rfl ?_
      have e9 := Option.some.inj h
      subst e2
      have hl := lv_sub hl (l' := [(0, .ref (q 0)), (1, .int a0), (2, .int a1)]) [0, 1, 2] rfl
      exact hj _ _ _ hl hP hD hS
def m_copy_l1 (a0 : Int32) (a1 : Int32) (a2 : Int32) : Nat → (Int32 × MS) → Option (Int32 × MS)
  | 0, _ => none
  | n9 + 1, e9 => if a2 ≤ e9.1 then (some (e9.1, e9.2)) else ((some (a1 + e9.1)).bind fun y8 => (some (a0 + e9.1)).bind fun y9 => (rd (e9.2.2.2.1 1) 2100 y9).bind fun x10 => (ix 2100 y8).bind fun k11z => (some (vp_nar .byte x10)).bind fun y12 => (some (a1 + e9.1)).bind fun y13 => (some (a0 + e9.1)).bind fun y14 => (rd (e9.2.2.2.1 2) 2100 y14).bind fun x15 => (ix 2100 y13).bind fun k16z => (some (vp_nar .byte x15)).bind fun y17 => (some (a1 + e9.1)).bind fun y18 => (some (a0 + e9.1)).bind fun y19 => (rd (e9.2.2.2.2 0) 2100 y19).bind fun x20 => (ix 2100 y18).bind fun k21z => (some (a1 + e9.1)).bind fun y22 => (some (a0 + e9.1)).bind fun y23 => (rd (e9.2.2.2.2 1) 2100 y23).bind fun x24 => (ix 2100 y22).bind fun k25z => (some (a1 + e9.1)).bind fun y26 => (some (a0 + e9.1)).bind fun y27 => (rd (e9.2.2.2.2 2) 2100 y27).bind fun x28 => (ix 2100 y26).bind fun k29z => (some (a1 + e9.1)).bind fun y30 => (some (a0 + e9.1)).bind fun y31 => (rd (e9.2.2.2.2 3) 2100 y31).bind fun x32 => (ix 2100 y30).bind fun k33z => m_copy_l1 a0 a1 a2 n9 (e9.1 + 1, (e9.2.1, e9.2.2.1, va_up (va_up e9.2.2.2.1 1 (upd (e9.2.2.2.1 1) k11z y12)) 2 (upd (e9.2.2.2.1 2) k16z y17), va_up (va_up (va_up (va_up e9.2.2.2.2 0 (vp_updL (e9.2.2.2.2 0) k21z x20)) 1 (vp_updL (e9.2.2.2.2 1) k25z x24)) 2 (vp_updL (e9.2.2.2.2 2) k29z x28)) 3 (vp_updL (e9.2.2.2.2 3) k33z x32))))
theorem m_copy_l1_s (a0 : Int32) (a1 : Int32) (a2 : Int32) (n9 : Nat) (e9 : Int32 × MS) : m_copy_l1 a0 a1 a2 (n9 + 1) e9 = (if a2 ≤ e9.1 then (some (e9.1, e9.2)) else ((some (a1 + e9.1)).bind fun y8 => (some (a0 + e9.1)).bind fun y9 => (rd (e9.2.2.2.1 1) 2100 y9).bind fun x10 => (ix 2100 y8).bind fun k11z => (some (vp_nar .byte x10)).bind fun y12 => (some (a1 + e9.1)).bind fun y13 => (some (a0 + e9.1)).bind fun y14 => (rd (e9.2.2.2.1 2) 2100 y14).bind fun x15 => (ix 2100 y13).bind fun k16z => (some (vp_nar .byte x15)).bind fun y17 => (some (a1 + e9.1)).bind fun y18 => (some (a0 + e9.1)).bind fun y19 => (rd (e9.2.2.2.2 0) 2100 y19).bind fun x20 => (ix 2100 y18).bind fun k21z => (some (a1 + e9.1)).bind fun y22 => (some (a0 + e9.1)).bind fun y23 => (rd (e9.2.2.2.2 1) 2100 y23).bind fun x24 => (ix 2100 y22).bind fun k25z => (some (a1 + e9.1)).bind fun y26 => (some (a0 + e9.1)).bind fun y27 => (rd (e9.2.2.2.2 2) 2100 y27).bind fun x28 => (ix 2100 y26).bind fun k29z => (some (a1 + e9.1)).bind fun y30 => (some (a0 + e9.1)).bind fun y31 => (rd (e9.2.2.2.2 3) 2100 y31).bind fun x32 => (ix 2100 y30).bind fun k33z => m_copy_l1 a0 a1 a2 n9 (e9.1 + 1, (e9.2.1, e9.2.2.1, va_up (va_up e9.2.2.2.1 1 (upd (e9.2.2.2.1 1) k11z y12)) 2 (upd (e9.2.2.2.1 2) k16z y17), va_up (va_up (va_up (va_up e9.2.2.2.2 0 (vp_updL (e9.2.2.2.2 0) k21z x20)) 1 (vp_updL (e9.2.2.2.2 1) k25z x24)) 2 (vp_updL (e9.2.2.2.2 2) k29z x28)) 3 (vp_updL (e9.2.2.2.2 3) k33z x32))))) := rfl
def m_copy (a0 : Int32) (a1 : Int32) (a2 : Int32) (st : MS) : Option (MS) := (m_copy_l1 a0 a1 a2 4096 ((0 : Int32), st)).bind fun e1 => some e1.2
set_option maxHeartbeats 4000000 in
set_option maxRecDepth 100000 in
theorem cm_copy (l : Launch) (G : Gk) (Zd : Nat → Nat) (q : Nat → Nat) (a0 : Int32) (a1 : Int32) (a2 : Int32) (st : MS) (st0 : MS) (hm : m_copy a0 a1 a2 st = some st0) (sz : Nat) : Met l y15_29 (Cond.code y15_29 prog_15_method_29_code 5 none :: TB) (rmD 0 0 0) (va_Pc [.ref (q 0), .int a0, .int a1, .int a2] (pcW G Zd (wMs q G.2 st) sz)) (qV G (fun (_ : Unit) => True) (fun _ => (wMs q G.2 st0)) (va_A (wMs q G.2 st) sz)) 0 0 (va_A (wMs q G.2 st) sz) := by
  refine go (y := y15_29) (cc := prog_15_method_29_code) (maxL := 5) (ret := none) (av := [.ref (q 0), .int a0, .int a1, .int a2]) (Qc := qV G (fun (_ : Unit) => True) (fun _ => (wMs q G.2 st0))) "PagedValuesModel" rfl (by decide) (Nat.le_of_ble_eq_true rfl) ?_
  intro p e s m below meth c ls A hx hb hr hlk hml hown hts hin hl hP hD hK hS hA hZ
  have hl : lv_has ls 5 [(0, .ref (q 0)), (1, .int a0), (2, .int a1), (3, .int a2)] := hl
  have h := hm
  clear hm
  refine lv_iconst (v := 0) hx hb d15_29_0 (by decide) ?_
  refine lv_istore (lv' := [(4, .int 0), (0, .ref (q 0)), (1, .int a0), (2, .int a1), (3, .int a2)]) hx hb d15_29_1 hl (by decide) rfl (fun ls hl => ?_)
  obtain ⟨e1, hX, hrest⟩ := ob h
  clear h
  have hj : ∀ (v5 : Int32) (v6 : MS), e1 = (v5, v6) → ∀ (H : Heap) (locs : List Loc) (ls : Array Slot), lv_has ls 5 [(0, .ref (q 0)), (1, .int a0), (2, .int a1), (3, .int a2), (4, .int v5)] → va_P G.1 vwCl (wMs q G.2 v6) H → va_D A (wMs q G.2 v6) → va_S A s.heap H locs → W p l e (rmD 0 0 0) s m ([.ref (q 0), .int a0, .int a1, .int a2] : List Value).toArray below meth c H locs 0 0 (MQ below (qV G (fun (_ : Unit) => True) (fun _ => (wMs q G.2 st0)) A) ([.ref (q 0), .int a0, .int a1, .int a2] : List Value).toArray s 0 0 A) (F0 m 123 ls []) := by
    intro v5 v6 he H locs ls hl hP hD hS
    subst e1
    have h := hrest
    cases h
    exact fin_v hx hb hr hlk hS () trivial hP hD (Nat.le_of_ble_eq_true rfl) (Nat.le_of_ble_eq_true rfl) d15_29_123
  have hloop : ∀ (n9 : Nat) (v2 : Int32) (v3 : MS), m_copy_l1 a0 a1 a2 n9 (v2, v3) = some e1 → ∀ (H : Heap) (locs : List Loc) (ls : Array Slot), lv_has ls 5 [(0, .ref (q 0)), (1, .int a0), (2, .int a1), (3, .int a2), (4, .int v2)] → va_P G.1 vwCl (wMs q G.2 v3) H → va_D A (wMs q G.2 v3) → va_S A s.heap H locs → W p l e (rmD 0 0 0) s m ([.ref (q 0), .int a0, .int a1, .int a2] : List Value).toArray below meth c H locs 0 0 (MQ below (qV G (fun (_ : Unit) => True) (fun _ => (wMs q G.2 st0)) A) ([.ref (q 0), .int a0, .int a1, .int a2] : List Value).toArray s 0 0 A) (F0 m 3 ls []) := by
    intro n9
    induction n9 with
    | zero =>
      intro v2 v3 h
      cases h
    | succ n9 ih =>
      intro v2 v3 h H locs ls hl hP hD hS
      replace h := (m_copy_l1_s a0 a1 a2 n9 (v2, v3)).symm.trans h
      refine lv_iload hx hb d15_29_3 (lv_at hl 4 rfl) ?_
      refine lv_iload_n hx hb d15_29_5 rfl (lv_at hl 3 rfl) ?_
      refine lv_icmp_ge (tgt := 123) hx hb d15_29_6 rfl (fun c7 => ?_) (fun c7 => ?_)
      ·
        replace h := (if_pos c7).symm.trans h
        have e9 := Option.some.inj h
        subst e1
        have hl := lv_sub hl (l' := [(0, .ref (q 0)), (1, .int a0), (2, .int a1), (3, .int a2), (4, .int v2)]) [0, 1, 2, 3, 4] rfl
        exact hj _ _ rfl _ _ _ hl hP hD hS
      ·
        replace h := (if_neg c7).symm.trans h
        refine lv_aload_n hx hb d15_29_9 rfl (lv_at hl 0 rfl) ?_
        refine va_get (D := G.1) (ci := 13) (v := .ref (q 2)) (C := r_13) (T := f_13) (N := 42) (ref := "PagedValuesModel") hx hb hts (fun w h => List.mem_cons_of_mem _ (ly_13 w h)) hown hK hP 0 rfl rfl 4 (by decide) (hts _ (List.mem_cons_of_mem _ k1155)) (fun _ h9 => h9) rfl d15_29_10 ?_
        refine lv_iload_n hx hb d15_29_13 rfl (lv_at hl 2 rfl) ?_
        refine lv_iload hx hb d15_29_14 (lv_at hl 4 rfl) ?_
        refine lv_iadd hx hb d15_29_16 ?_
        obtain ⟨y8, hr, h⟩ := ob h
        refine lv_topi (fun y9 ey => ?_)
        have e9 := ey.trans (Option.some.inj hr)
        clear ey
        subst y9
        clear hr
        refine lv_aload_n hx hb d15_29_17 rfl (lv_at hl 0 rfl) ?_
        refine va_get (D := G.1) (ci := 13) (v := .ref (q 2)) (C := r_13) (T := f_13) (N := 42) (ref := "PagedValuesModel") hx hb hts (fun w h => List.mem_cons_of_mem _ (ly_13 w h)) hown hK hP 0 rfl rfl 4 (by decide) (hts _ (List.mem_cons_of_mem _ k1155)) (fun _ h9 => h9) rfl d15_29_18 ?_
        refine lv_iload_n hx hb d15_29_21 rfl (lv_at hl 1 rfl) ?_
        refine lv_iload hx hb d15_29_22 (lv_at hl 4 rfl) ?_
        refine lv_iadd hx hb d15_29_24 ?_
        obtain ⟨y9, hr, h⟩ := ob h
        refine lv_topi (fun y9 ey => ?_)
        have e9 := ey.trans (Option.some.inj hr)
        clear ey
        subst y9
        clear hr
        obtain ⟨x10, hr, h⟩ := ob h
        obtain ⟨hi, hv⟩ := rd_some hr
        refine va_bald (D := G.1) hx hb hK hP 2 2 rfl rfl (i := y9) hi d15_29_25 ?_
        refine lv_topi (fun y9 ey => ?_)
        have e9 := ey.trans hv
        clear ey
        subst y9
        clear hv hi hr
        obtain ⟨k11z, hr, h⟩ := ob h
        obtain ⟨hi, hk⟩ := ix_some hr
        clear hr
        refine va_bast (D := G.1) hx hb hK hP hD hS 2 2 rfl rfl (i := y8) (x := x10) hi d15_29_26 (fun H locs hP hD hS => ?_)
        rw [hk] at hP hD
        clear hk hi
        obtain ⟨y12, hr, h⟩ := ob h
        rw [Option.some.inj hr] at hP hD
        clear hr
        have hP : va_P G.1 vwCl (wMs q G.2 (v3.1, v3.2.1, va_up v3.2.2.1 1 (upd (v3.2.2.1 1) k11z y12), v3.2.2.2)) H := hP
        have hD : va_D A (wMs q G.2 (v3.1, v3.2.1, va_up v3.2.2.1 1 (upd (v3.2.2.1 1) k11z y12), v3.2.2.2)) := hD
        refine lv_aload_n hx hb d15_29_27 rfl (lv_at hl 0 rfl) ?_
        refine va_get (D := G.1) (ci := 13) (v := .ref (q 3)) (C := r_13) (T := f_13) (N := 42) (ref := "PagedValuesModel") hx hb hts (fun w h => List.mem_cons_of_mem _ (ly_13 w h)) hown hK hP 0 rfl rfl 5 (by decide) (hts _ (List.mem_cons_of_mem _ k1156)) (fun _ h9 => h9) rfl d15_29_28 ?_
        refine lv_iload_n hx hb d15_29_31 rfl (lv_at hl 2 rfl) ?_
        refine lv_iload hx hb d15_29_32 (lv_at hl 4 rfl) ?_
        refine lv_iadd hx hb d15_29_34 ?_
        obtain ⟨y13, hr, h⟩ := ob h
        refine lv_topi (fun y9 ey => ?_)
        have e9 := ey.trans (Option.some.inj hr)
        clear ey
        subst y9
        clear hr
        refine lv_aload_n hx hb d15_29_35 rfl (lv_at hl 0 rfl) ?_
        refine va_get (D := G.1) (ci := 13) (v := .ref (q 3)) (C := r_13) (T := f_13) (N := 42) (ref := "PagedValuesModel") hx hb hts (fun w h => List.mem_cons_of_mem _ (ly_13 w h)) hown hK hP 0 rfl rfl 5 (by decide) (hts _ (List.mem_cons_of_mem _ k1156)) (fun _ h9 => h9) rfl d15_29_36 ?_
        refine lv_iload_n hx hb d15_29_39 rfl (lv_at hl 1 rfl) ?_
        refine lv_iload hx hb d15_29_40 (lv_at hl 4 rfl) ?_
        refine lv_iadd hx hb d15_29_42 ?_
        obtain ⟨y14, hr, h⟩ := ob h
        refine lv_topi (fun y9 ey => ?_)
        have e9 := ey.trans (Option.some.inj hr)
        clear ey
        subst y9
        clear hr
        obtain ⟨x15, hr, h⟩ := ob h
        obtain ⟨hi, hv⟩ := rd_some hr
        refine va_bald (D := G.1) hx hb hK hP 3 2 rfl rfl (i := y14) hi d15_29_43 ?_
        refine lv_topi (fun y9 ey => ?_)
        have e9 := ey.trans hv
        clear ey
        subst y9
        clear hv hi hr
        obtain ⟨k16z, hr, h⟩ := ob h
        obtain ⟨hi, hk⟩ := ix_some hr
        clear hr
        refine va_bast (D := G.1) hx hb hK hP hD hS 3 2 rfl rfl (i := y13) (x := x15) hi d15_29_44 (fun H locs hP hD hS => ?_)
        rw [hk] at hP hD
        clear hk hi
        obtain ⟨y17, hr, h⟩ := ob h
        rw [Option.some.inj hr] at hP hD
        clear hr
        have hP : va_P G.1 vwCl (wMs q G.2 (v3.1, v3.2.1, va_up (va_up v3.2.2.1 1 (upd (v3.2.2.1 1) k11z y12)) 2 (upd (v3.2.2.1 2) k16z y17), v3.2.2.2)) H := hP
        have hD : va_D A (wMs q G.2 (v3.1, v3.2.1, va_up (va_up v3.2.2.1 1 (upd (v3.2.2.1 1) k11z y12)) 2 (upd (v3.2.2.1 2) k16z y17), v3.2.2.2)) := hD
        refine lv_aload_n hx hb d15_29_45 rfl (lv_at hl 0 rfl) ?_
        refine va_get (D := G.1) (ci := 13) (v := .ref (q 4)) (C := r_13) (T := f_13) (N := 42) (ref := "PagedValuesModel") hx hb hts (fun w h => List.mem_cons_of_mem _ (ly_13 w h)) hown hK hP 0 rfl rfl 6 (by decide) (hts _ (List.mem_cons_of_mem _ k1157)) (fun _ h9 => h9) rfl d15_29_46 ?_
        refine lv_iload_n hx hb d15_29_49 rfl (lv_at hl 2 rfl) ?_
        refine lv_iload hx hb d15_29_50 (lv_at hl 4 rfl) ?_
        refine lv_iadd hx hb d15_29_52 ?_
        obtain ⟨y18, hr, h⟩ := ob h
        refine lv_topi (fun y9 ey => ?_)
        have e9 := ey.trans (Option.some.inj hr)
        clear ey
        subst y9
        clear hr
        refine lv_aload_n hx hb d15_29_53 rfl (lv_at hl 0 rfl) ?_
        refine va_get (D := G.1) (ci := 13) (v := .ref (q 4)) (C := r_13) (T := f_13) (N := 42) (ref := "PagedValuesModel") hx hb hts (fun w h => List.mem_cons_of_mem _ (ly_13 w h)) hown hK hP 0 rfl rfl 6 (by decide) (hts _ (List.mem_cons_of_mem _ k1157)) (fun _ h9 => h9) rfl d15_29_54 ?_
        refine lv_iload_n hx hb d15_29_57 rfl (lv_at hl 1 rfl) ?_
        refine lv_iload hx hb d15_29_58 (lv_at hl 4 rfl) ?_
        refine lv_iadd hx hb d15_29_60 ?_
        obtain ⟨y19, hr, h⟩ := ob h
        refine lv_topi (fun y9 ey => ?_)
        have e9 := ey.trans (Option.some.inj hr)
        clear ey
        subst y9
        clear hr
        obtain ⟨x20, hr, h⟩ := ob h
        obtain ⟨hi, hv⟩ := rd_some hr
        refine va_lald (D := G.1) hx hb hK hP 4 4 rfl rfl (i := y19) hi d15_29_61 ?_
        refine lv_topl (fun y9 ey => ?_)
        have e9 := ey.trans hv
        clear ey
        subst y9
        clear hv hi hr
        obtain ⟨k21z, hr, h⟩ := ob h
        obtain ⟨hi, hk⟩ := ix_some hr
        clear hr
        refine va_last (D := G.1) hx hb hK hP hD hS 4 4 rfl rfl (i := y18) (x := x20) hi d15_29_62 (fun H locs hP hD hS => ?_)
        rw [hk] at hP hD
        clear hk hi
        have hP : va_P G.1 vwCl (wMs q G.2 (v3.1, v3.2.1, va_up (va_up v3.2.2.1 1 (upd (v3.2.2.1 1) k11z y12)) 2 (upd (v3.2.2.1 2) k16z y17), va_up v3.2.2.2 0 (vp_updL (v3.2.2.2 0) k21z x20))) H := hP
        have hD : va_D A (wMs q G.2 (v3.1, v3.2.1, va_up (va_up v3.2.2.1 1 (upd (v3.2.2.1 1) k11z y12)) 2 (upd (v3.2.2.1 2) k16z y17), va_up v3.2.2.2 0 (vp_updL (v3.2.2.2 0) k21z x20))) := hD
        refine lv_aload_n hx hb d15_29_63 rfl (lv_at hl 0 rfl) ?_
        refine va_get (D := G.1) (ci := 13) (v := .ref (q 5)) (C := r_13) (T := f_13) (N := 42) (ref := "PagedValuesModel") hx hb hts (fun w h => List.mem_cons_of_mem _ (ly_13 w h)) hown hK hP 0 rfl rfl 7 (by decide) (hts _ (List.mem_cons_of_mem _ k1158)) (fun _ h9 => h9) rfl d15_29_64 ?_
        refine lv_iload_n hx hb d15_29_67 rfl (lv_at hl 2 rfl) ?_
        refine lv_iload hx hb d15_29_68 (lv_at hl 4 rfl) ?_
        refine lv_iadd hx hb d15_29_70 ?_
        obtain ⟨y22, hr, h⟩ := ob h
        refine lv_topi (fun y9 ey => ?_)
        have e9 := ey.trans (Option.some.inj hr)
        clear ey
        subst y9
        clear hr
        refine lv_aload_n hx hb d15_29_71 rfl (lv_at hl 0 rfl) ?_
        refine va_get (D := G.1) (ci := 13) (v := .ref (q 5)) (C := r_13) (T := f_13) (N := 42) (ref := "PagedValuesModel") hx hb hts (fun w h => List.mem_cons_of_mem _ (ly_13 w h)) hown hK hP 0 rfl rfl 7 (by decide) (hts _ (List.mem_cons_of_mem _ k1158)) (fun _ h9 => h9) rfl d15_29_72 ?_
        refine lv_iload_n hx hb d15_29_75 rfl (lv_at hl 1 rfl) ?_
        refine lv_iload hx hb d15_29_76 (lv_at hl 4 rfl) ?_
        refine lv_iadd hx hb d15_29_78 ?_
        obtain ⟨y23, hr, h⟩ := ob h
        refine lv_topi (fun y9 ey => ?_)
        have e9 := ey.trans (Option.some.inj hr)
        clear ey
        subst y9
        clear hr
        obtain ⟨x24, hr, h⟩ := ob h
        obtain ⟨hi, hv⟩ := rd_some hr
        refine va_lald (D := G.1) hx hb hK hP 5 4 rfl rfl (i := y23) hi d15_29_79 ?_
        refine lv_topl (fun y9 ey => ?_)
        have e9 := ey.trans hv
        clear ey
        subst y9
        clear hv hi hr
        obtain ⟨k25z, hr, h⟩ := ob h
        obtain ⟨hi, hk⟩ := ix_some hr
        clear hr
        refine va_last (D := G.1) hx hb hK hP hD hS 5 4 rfl rfl (i := y22) (x := x24) hi d15_29_80 (fun H locs hP hD hS => ?_)
        rw [hk] at hP hD
        clear hk hi
        have hP : va_P G.1 vwCl (wMs q G.2 (v3.1, v3.2.1, va_up (va_up v3.2.2.1 1 (upd (v3.2.2.1 1) k11z y12)) 2 (upd (v3.2.2.1 2) k16z y17), va_up (va_up v3.2.2.2 0 (vp_updL (v3.2.2.2 0) k21z x20)) 1 (vp_updL (v3.2.2.2 1) k25z x24))) H := hP
        have hD : va_D A (wMs q G.2 (v3.1, v3.2.1, va_up (va_up v3.2.2.1 1 (upd (v3.2.2.1 1) k11z y12)) 2 (upd (v3.2.2.1 2) k16z y17), va_up (va_up v3.2.2.2 0 (vp_updL (v3.2.2.2 0) k21z x20)) 1 (vp_updL (v3.2.2.2 1) k25z x24))) := hD
        refine lv_aload_n hx hb d15_29_81 rfl (lv_at hl 0 rfl) ?_
        refine va_get (D := G.1) (ci := 13) (v := .ref (q 6)) (C := r_13) (T := f_13) (N := 42) (ref := "PagedValuesModel") hx hb hts (fun w h => List.mem_cons_of_mem _ (ly_13 w h)) hown hK hP 0 rfl rfl 8 (by decide) (hts _ (List.mem_cons_of_mem _ k1159)) (fun _ h9 => h9) rfl d15_29_82 ?_
        refine lv_iload_n hx hb d15_29_85 rfl (lv_at hl 2 rfl) ?_
        refine lv_iload hx hb d15_29_86 (lv_at hl 4 rfl) ?_
        refine lv_iadd hx hb d15_29_88 ?_
        obtain ⟨y26, hr, h⟩ := ob h
        refine lv_topi (fun y9 ey => ?_)
        have e9 := ey.trans (Option.some.inj hr)
        clear ey
        subst y9
        clear hr
        refine lv_aload_n hx hb d15_29_89 rfl (lv_at hl 0 rfl) ?_
        refine va_get (D := G.1) (ci := 13) (v := .ref (q 6)) (C := r_13) (T := f_13) (N := 42) (ref := "PagedValuesModel") hx hb hts (fun w h => List.mem_cons_of_mem _ (ly_13 w h)) hown hK hP 0 rfl rfl 8 (by decide) (hts _ (List.mem_cons_of_mem _ k1159)) (fun _ h9 => h9) rfl d15_29_90 ?_
        refine lv_iload_n hx hb d15_29_93 rfl (lv_at hl 1 rfl) ?_
        refine lv_iload hx hb d15_29_94 (lv_at hl 4 rfl) ?_
        refine lv_iadd hx hb d15_29_96 ?_
        obtain ⟨y27, hr, h⟩ := ob h
        refine lv_topi (fun y9 ey => ?_)
        have e9 := ey.trans (Option.some.inj hr)
        clear ey
        subst y9
        clear hr
        obtain ⟨x28, hr, h⟩ := ob h
        obtain ⟨hi, hv⟩ := rd_some hr
        refine va_lald (D := G.1) hx hb hK hP 6 4 rfl rfl (i := y27) hi d15_29_97 ?_
        refine lv_topl (fun y9 ey => ?_)
        have e9 := ey.trans hv
        clear ey
        subst y9
        clear hv hi hr
        obtain ⟨k29z, hr, h⟩ := ob h
        obtain ⟨hi, hk⟩ := ix_some hr
        clear hr
        refine va_last (D := G.1) hx hb hK hP hD hS 6 4 rfl rfl (i := y26) (x := x28) hi d15_29_98 (fun H locs hP hD hS => ?_)
        rw [hk] at hP hD
        clear hk hi
        have hP : va_P G.1 vwCl (wMs q G.2 (v3.1, v3.2.1, va_up (va_up v3.2.2.1 1 (upd (v3.2.2.1 1) k11z y12)) 2 (upd (v3.2.2.1 2) k16z y17), va_up (va_up (va_up v3.2.2.2 0 (vp_updL (v3.2.2.2 0) k21z x20)) 1 (vp_updL (v3.2.2.2 1) k25z x24)) 2 (vp_updL (v3.2.2.2 2) k29z x28))) H := hP
        have hD : va_D A (wMs q G.2 (v3.1, v3.2.1, va_up (va_up v3.2.2.1 1 (upd (v3.2.2.1 1) k11z y12)) 2 (upd (v3.2.2.1 2) k16z y17), va_up (va_up (va_up v3.2.2.2 0 (vp_updL (v3.2.2.2 0) k21z x20)) 1 (vp_updL (v3.2.2.2 1) k25z x24)) 2 (vp_updL (v3.2.2.2 2) k29z x28))) := hD
        refine lv_aload_n hx hb d15_29_99 rfl (lv_at hl 0 rfl) ?_
        refine va_get (D := G.1) (ci := 13) (v := .ref (q 7)) (C := r_13) (T := f_13) (N := 42) (ref := "PagedValuesModel") hx hb hts (fun w h => List.mem_cons_of_mem _ (ly_13 w h)) hown hK hP 0 rfl rfl 9 (by decide) (hts _ (List.mem_cons_of_mem _ k1160)) (fun _ h9 => h9) rfl d15_29_100 ?_
        refine lv_iload_n hx hb d15_29_103 rfl (lv_at hl 2 rfl) ?_
        refine lv_iload hx hb d15_29_104 (lv_at hl 4 rfl) ?_
        refine lv_iadd hx hb d15_29_106 ?_
        obtain ⟨y30, hr, h⟩ := ob h
        refine lv_topi (fun y9 ey => ?_)
        have e9 := ey.trans (Option.some.inj hr)
        clear ey
        subst y9
        clear hr
        refine lv_aload_n hx hb d15_29_107 rfl (lv_at hl 0 rfl) ?_
        refine va_get (D := G.1) (ci := 13) (v := .ref (q 7)) (C := r_13) (T := f_13) (N := 42) (ref := "PagedValuesModel") hx hb hts (fun w h => List.mem_cons_of_mem _ (ly_13 w h)) hown hK hP 0 rfl rfl 9 (by decide) (hts _ (List.mem_cons_of_mem _ k1160)) (fun _ h9 => h9) rfl d15_29_108 ?_
        refine lv_iload_n hx hb d15_29_111 rfl (lv_at hl 1 rfl) ?_
        refine lv_iload hx hb d15_29_112 (lv_at hl 4 rfl) ?_
        refine lv_iadd hx hb d15_29_114 ?_
        obtain ⟨y31, hr, h⟩ := ob h
        refine lv_topi (fun y9 ey => ?_)
        have e9 := ey.trans (Option.some.inj hr)
        clear ey
        subst y9
        clear hr
        obtain ⟨x32, hr, h⟩ := ob h
        obtain ⟨hi, hv⟩ := rd_some hr
        refine va_lald (D := G.1) hx hb hK hP 7 4 rfl rfl (i := y31) hi d15_29_115 ?_
        refine lv_topl (fun y9 ey => ?_)
        have e9 := ey.trans hv
        clear ey
        subst y9
        clear hv hi hr
        obtain ⟨k33z, hr, h⟩ := ob h
        obtain ⟨hi, hk⟩ := ix_some hr
        clear hr
        refine va_last (D := G.1) hx hb hK hP hD hS 7 4 rfl rfl (i := y30) (x := x32) hi d15_29_116 (fun H locs hP hD hS => ?_)
        rw [hk] at hP hD
        clear hk hi
        have hP : va_P G.1 vwCl (wMs q G.2 (v3.1, v3.2.1, va_up (va_up v3.2.2.1 1 (upd (v3.2.2.1 1) k11z y12)) 2 (upd (v3.2.2.1 2) k16z y17), va_up (va_up (va_up (va_up v3.2.2.2 0 (vp_updL (v3.2.2.2 0) k21z x20)) 1 (vp_updL (v3.2.2.2 1) k25z x24)) 2 (vp_updL (v3.2.2.2 2) k29z x28)) 3 (vp_updL (v3.2.2.2 3) k33z x32))) H := hP
        have hD : va_D A (wMs q G.2 (v3.1, v3.2.1, va_up (va_up v3.2.2.1 1 (upd (v3.2.2.1 1) k11z y12)) 2 (upd (v3.2.2.1 2) k16z y17), va_up (va_up (va_up (va_up v3.2.2.2 0 (vp_updL (v3.2.2.2 0) k21z x20)) 1 (vp_updL (v3.2.2.2 1) k25z x24)) 2 (vp_updL (v3.2.2.2 2) k29z x28)) 3 (vp_updL (v3.2.2.2 3) k33z x32))) := hD
        refine lv_iinc (k := 4) (v := v2 + 1) (lv' := [(4, .int (v2 + 1)), (0, .ref (q 0)), (1, .int a0), (2, .int a1), (3, .int a2)]) hx hb d15_29_117 hl rfl (by first | decide | rfl) (by decide) rfl (fun ls hl => ?_)
        refine lv_goto (tgt := 3) hx hb d15_29_120 rfl ?_
        have hl := lv_sub hl (l' := [(0, .ref (q 0)), (1, .int a0), (2, .int a1), (3, .int a2), (4, .int (v2 + 1))]) [1, 2, 3, 4, 0] rfl
        exact ih _ _ h _ _ _ hl hP hD hS
  have hl := lv_sub hl (l' := [(0, .ref (q 0)), (1, .int a0), (2, .int a1), (3, .int a2), (4, .int 0)]) [1, 2, 3, 4, 0] rfl
  exact hloop _ _ _ hX _ _ _ hl hP hD hS
