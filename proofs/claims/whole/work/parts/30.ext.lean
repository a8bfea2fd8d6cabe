theorem d15_91_0 : decode prog_15_method_91_code 0 = .ok (.aload_n 0, 1) := by decide +kernel
theorem d15_91_1 : decode prog_15_method_91_code 1 = .ok (.getfield 308, 3) := by decide +kernel
theorem d15_91_4 : decode prog_15_method_91_code 4 = .ok (.ifCond .ne 13, 3) := by decide +kernel
theorem d15_91_17 : decode prog_15_method_91_code 17 = .ok (.iconst 0, 1) := by decide +kernel
theorem d15_91_18 : decode prog_15_method_91_code 18 = .ok (.ireturn, 1) := by decide +kernel
theorem d15_91_7 : decode prog_15_method_91_code 7 = .ok (.iload_n 1, 1) := by decide +kernel
theorem d15_91_8 : decode prog_15_method_91_code 8 = .ok (.iconst 1, 1) := by decide +kernel
theorem d15_91_9 : decode prog_15_method_91_code 9 = .ok (.bipush 20, 2) := by decide +kernel
theorem d15_91_11 : decode prog_15_method_91_code 11 = .ok (.invokestatic 260, 3) := by decide +kernel
theorem d15_91_14 : decode prog_15_method_91_code 14 = .ok (.ifCond .ne 5, 3) := by decide +kernel
theorem d15_91_19 : decode prog_15_method_91_code 19 = .ok (.aload_n 0, 1) := by decide +kernel
theorem d15_91_20 : decode prog_15_method_91_code 20 = .ok (.iload_n 1, 1) := by decide +kernel
theorem d15_91_21 : decode prog_15_method_91_code 21 = .ok (.putfield 305, 3) := by decide +kernel
theorem d15_91_24 : decode prog_15_method_91_code 24 = .ok (.iconst 1, 1) := by decide +kernel
theorem d15_91_25 : decode prog_15_method_91_code 25 = .ok (.ireturn, 1) := by decide +kernel
def y15_91 : MethodName := { cls := "PagedValuesModel", name := "fuse", desc := "(I)Z" }
def m_fuse (a0 : Int32) (st : MS) : Option (Int32 × MS) := if (st.1 13) = (0 : Int32) then ((m_within a0 (1 : Int32) (20 : Int32)).bind fun x2 => if x2 = (0 : Int32) then (some ((0 : Int32), st)) else (some ((1 : Int32), (upd st.1 12 a0, st.2.1, st.2.2.1, st.2.2.2)))) else (some ((0 : Int32), st))
set_option maxHeartbeats 4000000 in
set_option maxRecDepth 100000 in
theorem cm_fuse (l : Launch) (G : Gk) (Zd : Nat → Nat) (q : Nat → Nat) (a0 : Int32) (st : MS) (r0 : Int32) (st0 : MS) (hm : m_fuse a0 st = some (r0, st0)) (sz : Nat) : Met l y15_91 (Cond.code y15_91 prog_15_method_91_code 2 (some .boolean) :: TB) (rmD 1 0 0) (va_Pc [.ref (q 0), .int a0] (pcW G Zd (wMs q G.2 st) sz)) (qI G (fun rr (_ : Unit) => rr = r0) (fun _ => (wMs q G.2 st0)) (va_A (wMs q G.2 st) sz)) 0 0 (va_A (wMs q G.2 st) sz) := by
  refine go (y := y15_91) (cc := prog_15_method_91_code) (maxL := 2) (ret := (some .boolean)) (av := [.ref (q 0), .int a0]) (Qc := qI G (fun rr (_ : Unit) => rr = r0) (fun _ => (wMs q G.2 st0))) "PagedValuesModel" rfl (by decide) (Nat.le_of_ble_eq_true rfl) ?_
  intro p e s m below meth c ls A hx hb hr hlk hml hown hts hin hl hP hD hK hS hA hZ
  have hl : lv_has ls 2 [(0, .ref (q 0)), (1, .int a0)] := hl
  have h := hm
  clear hm
  refine lv_aload_n hx hb d15_91_0 rfl (lv_at hl 0 rfl) ?_
  refine va_get (D := G.1) (ci := 13) (v := .int (st.1 13)) (C := r_13) (T := f_13) (N := 42) (ref := "PagedValuesModel") hx hb hts (fun w h => List.mem_cons_of_mem _ (ly_13 w h)) hown hK hP 0 rfl rfl 40 (by decide) (hts _ (List.mem_cons_of_mem _ k1191)) (fun _ h9 => h9) rfl d15_91_1 ?_
  refine lv_if_ne (tgt := 17) hx hb d15_91_4 rfl (fun c1 => ?_) (fun c1 => ?_)
  ·
    replace h := (if_neg c1).symm.trans h
    refine lv_iconst (v := 0) hx hb d15_91_17 (by decide) ?_
    cases h
    exact fin_z hx hb hr hlk (by decide) hS () rfl hP hD (Nat.le_of_ble_eq_true rfl) (Nat.le_of_ble_eq_true rfl) d15_91_18
  ·
    replace h := (if_pos c1).symm.trans h
    refine lv_iload_n hx hb d15_91_7 rfl (lv_at hl 1 rfl) ?_
    refine lv_iconst (v := 1) hx hb d15_91_8 (by decide) ?_
    refine lv_bipush (v := 20) hx hb d15_91_9 (by decide) ?_
    obtain ⟨x2, hc, h⟩ := ob h
    refine sS_i (As := [.int a0, .int 1, .int 20]) (rest := []) ⟨hx, hb, hml, hown, hts⟩ (cm_within l G Zd _ a0 (1 : Int32) (20 : Int32) x2 hc _) (kw_S (n := 3) hts k1289 k1287 k15 k1288 (by decide +kernel) ⟨Nat.le_of_ble_eq_true rfl, Nat.le_of_ble_eq_true rfl⟩) hP hD hK hS hA hZ rfl hl.1 rfl (Nat.le_of_ble_eq_true rfl) d15_91_11 ⟨Nat.le_of_ble_eq_true rfl, Nat.le_of_ble_eq_true rfl⟩ (fun rr u9 H locs hp hP hD hS => ?_)
    clear u9
    subst rr
    clear hc
    refine W.eq (g2 := F0 m 14 ls [.int x2]) rfl ?_
    have hP : va_P G.1 vwCl (wMs q G.2 st) H := hP
    have hD : va_D A (wMs q G.2 st) := hD
    refine lv_if_ne (tgt := 19) hx hb d15_91_14 rfl (fun c5 => ?_) (fun c5 => ?_)
    ·
      replace h := (if_neg c5).symm.trans h
      refine lv_aload_n hx hb d15_91_19 rfl (lv_at hl 0 rfl) ?_
      refine lv_iload_n hx hb d15_91_20 rfl (lv_at hl 1 rfl) ?_
      refine va_put (D := G.1) (ci := 13) (v := .int a0) (ty := .int) (C := r_13) (T := f_13) (N := 42) (ref := "PagedValuesModel") hx hb hts (fun w h => List.mem_cons_of_mem _ (ly_13 w h)) ft_13 ft_13_ok nm_13 hown hK hP hD hS 0 rfl rfl 39 (by decide) (hts _ (List.mem_cons_of_mem _ k1190)) (fun _ h9 => h9) rfl (by decide +kernel) rfl rfl (Nat.le_of_ble_eq_true rfl) d15_91_21 (fun H locs hP hD hS => ?_)
      have hP : va_P G.1 vwCl (wMs q G.2 (upd st.1 12 a0, st.2.1, st.2.2.1, st.2.2.2)) H := hP
      have hD : va_D A (wMs q G.2 (upd st.1 12 a0, st.2.1, st.2.2.1, st.2.2.2)) := hD
      refine lv_iconst (v := 1) hx hb d15_91_24 (by decide) ?_
      cases h
      exact fin_z hx hb hr hlk (by decide) hS () rfl hP hD (Nat.le_of_ble_eq_true rfl) (Nat.le_of_ble_eq_true rfl) d15_91_25
    ·
      replace h := (if_pos c5).symm.trans h
      refine lv_iconst (v := 0) hx hb d15_91_17 (by decide) ?_
      cases h
      exact fin_z hx hb hr hlk (by decide) hS () rfl hP hD (Nat.le_of_ble_eq_true rfl) (Nat.le_of_ble_eq_true rfl) d15_91_18
theorem d15_92_0 : decode prog_15_method_92_code 0 = .ok (.aload_n 0, 1) := by decide +kernel
theorem d15_92_1 : decode prog_15_method_92_code 1 = .ok (.getfield 308, 3) := by decide +kernel
theorem d15_92_4 : decode prog_15_method_92_code 4 = .ok (.istore_n 1, 1) := by decide +kernel
theorem d15_92_5 : decode prog_15_method_92_code 5 = .ok (.aload_n 0, 1) := by decide +kernel
theorem d15_92_6 : decode prog_15_method_92_code 6 = .ok (.iconst 0, 1) := by decide +kernel
theorem d15_92_7 : decode prog_15_method_92_code 7 = .ok (.putfield 308, 3) := by decide +kernel
theorem d15_92_10 : decode prog_15_method_92_code 10 = .ok (.iload_n 1, 1) := by decide +kernel
theorem d15_92_11 : decode prog_15_method_92_code 11 = .ok (.ireturn, 1) := by decide +kernel
def y15_92 : MethodName := { cls := "PagedValuesModel", name := "restart", desc := "()Z" }
def m_restart (st : MS) : Option (Int32 × MS) := (bz (st.1 13)).bind fun _ => some (st.1 13, (upd st.1 13 0, st.2.1, st.2.2.1, st.2.2.2))
set_option maxHeartbeats 4000000 in
set_option maxRecDepth 100000 in
theorem cm_restart (l : Launch) (G : Gk) (Zd : Nat → Nat) (q : Nat → Nat) (st : MS) (r0 : Int32) (st0 : MS) (hm : m_restart st = some (r0, st0)) (sz : Nat) : Met l y15_92 (Cond.code y15_92 prog_15_method_92_code 2 (some .boolean) :: TB) (rmD 0 0 0) (va_Pc [.ref (q 0)] (pcW G Zd (wMs q G.2 st) sz)) (qI G (fun rr (_ : Unit) => rr = r0) (fun _ => (wMs q G.2 st0)) (va_A (wMs q G.2 st) sz)) 0 0 (va_A (wMs q G.2 st) sz) := by
  refine go (y := y15_92) (cc := prog_15_method_92_code) (maxL := 2) (ret := (some .boolean)) (av := [.ref (q 0)]) (Qc := qI G (fun rr (_ : Unit) => rr = r0) (fun _ => (wMs q G.2 st0))) "PagedValuesModel" rfl (by decide) (Nat.le_of_ble_eq_true rfl) ?_
  intro p e s m below meth c ls A hx hb hr hlk hml hown hts hin hl hP hD hK hS hA hZ
  have hl : lv_has ls 2 [(0, .ref (q 0))] := hl
  have h := hm
  clear hm
  refine lv_aload_n hx hb d15_92_0 rfl (lv_at hl 0 rfl) ?_
  refine va_get (D := G.1) (ci := 13) (v := .int (st.1 13)) (C := r_13) (T := f_13) (N := 42) (ref := "PagedValuesModel") hx hb hts (fun w h => List.mem_cons_of_mem _ (ly_13 w h)) hown hK hP 0 rfl rfl 40 (by decide) (hts _ (List.mem_cons_of_mem _ k1191)) (fun _ h9 => h9) rfl d15_92_1 ?_
  refine lv_istore_n (lv' := [(1, .int (st.1 13)), (0, .ref (q 0))]) hx hb d15_92_4 rfl hl (by decide) rfl (fun ls hl => ?_)
  refine lv_aload_n hx hb d15_92_5 rfl (lv_at hl 1 rfl) ?_
  refine lv_iconst (v := 0) hx hb d15_92_6 (by decide) ?_
  refine va_put (D := G.1) (ci := 13) (v := .int 0) (ty := .boolean) (C := r_13) (T := f_13) (N := 42) (ref := "PagedValuesModel") hx hb hts (fun w h => List.mem_cons_of_mem _ (ly_13 w h)) ft_13 ft_13_ok nm_13 hown hK hP hD hS 0 rfl rfl 40 (by decide) (hts _ (List.mem_cons_of_mem _ k1191)) (fun _ h9 => h9) rfl (by decide +kernel) (by decide) (by decide) (Nat.le_of_ble_eq_true rfl) d15_92_7 (fun H locs hP hD hS => ?_)
  have hP : va_P G.1 vwCl (wMs q G.2 (upd st.1 13 0, st.2.1, st.2.2.1, st.2.2.2)) H := hP
  have hD : va_D A (wMs q G.2 (upd st.1 13 0, st.2.1, st.2.2.1, st.2.2.2)) := hD
  refine lv_iload_n hx hb d15_92_10 rfl (lv_at hl 0 rfl) ?_
  obtain ⟨u9, hr9, h⟩ := ob h
  have hi := bz_some hr9
  clear hr9 u9
  cases h
  exact fin_z hx hb hr hlk (nar01 hi) hS () rfl hP hD (Nat.le_of_ble_eq_true rfl) (Nat.le_of_ble_eq_true rfl) d15_92_11
theorem d15_93_0 : decode prog_15_method_93_code 0 = .ok (.iload_n 1, 1) := by decide +kernel
theorem d15_93_1 : decode prog_15_method_93_code 1 = .ok (.iconst 0, 1) := by decide +kernel
theorem d15_93_2 : decode prog_15_method_93_code 2 = .ok (.bipush 11, 2) := by decide +kernel
theorem d15_93_4 : decode prog_15_method_93_code 4 = .ok (.invokestatic 260, 3) := by decide +kernel
theorem d15_93_7 : decode prog_15_method_93_code 7 = .ok (.ifCond .ne 7, 3) := by decide +kernel
theorem d15_93_14 : decode prog_15_method_93_code 14 = .ok (.aload_n 0, 1) := by decide +kernel
theorem d15_93_15 : decode prog_15_method_93_code 15 = .ok (.iload_n 1, 1) := by decide +kernel
theorem d15_93_16 : decode prog_15_method_93_code 16 = .ok (.invokevirtual 296, 3) := by decide +kernel
theorem d15_93_19 : decode prog_15_method_93_code 19 = .ok (.ifCond .eq 7, 3) := by decide +kernel
theorem d15_93_26 : decode prog_15_method_93_code 26 = .ok (.aload_n 0, 1) := by decide +kernel
theorem d15_93_27 : decode prog_15_method_93_code 27 = .ok (.getfield 68, 3) := by decide +kernel
theorem d15_93_30 : decode prog_15_method_93_code 30 = .ok (.iload_n 1, 1) := by decide +kernel
theorem d15_93_31 : decode prog_15_method_93_code 31 = .ok (.iaload, 1) := by decide +kernel
theorem d15_93_22 : decode prog_15_method_93_code 22 = .ok (.iconst 0, 1) := by decide +kernel
theorem d15_93_23 : decode prog_15_method_93_code 23 = .ok (.goto 9, 3) := by decide +kernel
theorem d15_93_10 : decode prog_15_method_93_code 10 = .ok (.iconst (-1), 1) := by decide +kernel
theorem d15_93_11 : decode prog_15_method_93_code 11 = .ok (.goto 21, 3) := by decide +kernel
theorem d15_93_32 : decode prog_15_method_93_code 32 = .ok (.ireturn, 1) := by decide +kernel
def y15_93 : MethodName := { cls := "PagedValuesModel", name := "page", desc := "(I)I" }
def m_page (a0 : Int32) (st : MS) : Option (Int32) := (m_within a0 (0 : Int32) (11 : Int32)).bind fun x1 => (if x1 = (0 : Int32) then (some ((-1) : Int32)) else ((m_isFree a0 st).bind fun x7 => if x7 = (0 : Int32) then ((rd (st.2.2.1 12) 12 a0).bind fun x11 => some x11) else (some (0 : Int32)))).bind fun e5 => some e5
set_option maxHeartbeats 4000000 in
set_option maxRecDepth 100000 in
theorem cm_page (l : Launch) (G : Gk) (Zd : Nat → Nat) (q : Nat → Nat) (a0 : Int32) (st : MS) (r0 : Int32) (hm : m_page a0 st = some r0) (sz : Nat) : Met l y15_93 (Cond.code y15_93 prog_15_method_93_code 2 (some .int) :: TB) (rmD 2 0 0) (va_Pc [.ref (q 0), .int a0] (pcW G Zd (wMs q G.2 st) sz)) (qI G (fun rr (_ : Unit) => rr = r0) (fun _ => (wMs q G.2 st)) (va_A (wMs q G.2 st) sz)) 0 0 (va_A (wMs q G.2 st) sz) := by
  refine go (y := y15_93) (cc := prog_15_method_93_code) (maxL := 2) (ret := (some .int)) (av := [.ref (q 0), .int a0]) (Qc := qI G (fun rr (_ : Unit) => rr = r0) (fun _ => (wMs q G.2 st))) "PagedValuesModel" rfl (by decide) (Nat.le_of_ble_eq_true rfl) ?_
  intro p e s m below meth c ls A hx hb hr hlk hml hown hts hin hl hP hD hK hS hA hZ
  have hl : lv_has ls 2 [(0, .ref (q 0)), (1, .int a0)] := hl
  have h := hm
  clear hm
  refine lv_iload_n hx hb d15_93_0 rfl (lv_at hl 1 rfl) ?_
  refine lv_iconst (v := 0) hx hb d15_93_1 (by decide) ?_
  refine lv_bipush (v := 11) hx hb d15_93_2 (by decide) ?_
  obtain ⟨x1, hc, h⟩ := ob h
  refine sS_i (As := [.int a0, .int 0, .int 11]) (rest := []) ⟨hx, hb, hml, hown, hts⟩ (cm_within l G Zd _ a0 (0 : Int32) (11 : Int32) x1 hc _) (kw_S (n := 3) hts k1289 k1287 k15 k1288 (by decide +kernel) ⟨Nat.le_of_ble_eq_true rfl, Nat.le_of_ble_eq_true rfl⟩) hP hD hK hS hA hZ rfl hl.1 rfl (Nat.le_of_ble_eq_true rfl) d15_93_4 ⟨Nat.le_of_ble_eq_true rfl, Nat.le_of_ble_eq_true rfl⟩ (fun rr u9 H locs hp hP hD hS => ?_)
  clear u9
  subst rr
  clear hc
  refine W.eq (g2 := F0 m 7 ls [.int x1]) rfl ?_
  have hP : va_P G.1 vwCl (wMs q G.2 st) H := hP
  have hD : va_D A (wMs q G.2 st) := hD
  obtain ⟨e5, hX, h⟩ := ob h
  have hj : ∀ (H : Heap) (locs : List Loc) (ls : Array Slot), lv_has ls 2 [(0, .ref (q 0)), (1, .int a0)] → va_P G.1 vwCl (wMs q G.2 st) H → va_D A (wMs q G.2 st) → va_S A s.heap H locs → W p l e (rmD 2 0 0) s m ([.ref (q 0), .int a0] : List Value).toArray below meth c H locs 0 0 (MQ below (qI G (fun rr (_ : Unit) => rr = r0) (fun _ => (wMs q G.2 st)) A) ([.ref (q 0), .int a0] : List Value).toArray s 0 0 A) (F0 m 32 ls [.int e5]) := by
    intro H locs ls hl hP hD hS
    cases h
    exact fin_i hx hb hr hlk hS () rfl hP hD (Nat.le_of_ble_eq_true rfl) (Nat.le_of_ble_eq_true rfl) d15_93_32
  clear h
  refine lv_if_ne (tgt := 14) hx hb d15_93_7 rfl (fun c4 => ?_) (fun c4 => ?_)
  ·
    replace h := (if_neg c4).symm.trans hX
    refine lv_aload_n hx hb d15_93_14 rfl (lv_at hl 0 rfl) ?_
    refine lv_iload_n hx hb d15_93_15 rfl (lv_at hl 1 rfl) ?_
    obtain ⟨x7, hc, h⟩ := ob h
    refine sV_i (As := [.int a0]) (rest := []) ⟨hx, hb, hml, hown, hts⟩ (cm_isFree l G Zd q a0 st x7 hc _) (kw_V (n := 1) hts k1408 k1405 k15 k1407 ks60 (by decide +kernel) ⟨Nat.le_of_ble_eq_true rfl, Nat.le_of_ble_eq_true rfl⟩) hP hD hK hS hA hZ (va_recv (ci := 13) (q0 := 0) hK hP rfl rfl) rfl hl.1 rfl (Nat.le_of_ble_eq_true rfl) d15_93_16 ⟨Nat.le_of_ble_eq_true rfl, Nat.le_of_ble_eq_true rfl⟩ (fun rr u9 H locs hp hP hD hS => ?_)
    clear u9
    subst rr
    clear hc
    refine W.eq (g2 := F0 m 19 ls [.int x7]) rfl ?_
    have hP : va_P G.1 vwCl (wMs q G.2 st) H := hP
    have hD : va_D A (wMs q G.2 st) := hD
    refine lv_if_eq (tgt := 26) hx hb d15_93_19 rfl (fun c10 => ?_) (fun c10 => ?_)
    ·
      replace h := (if_pos c10).symm.trans h
      refine lv_aload_n hx hb d15_93_26 rfl (lv_at hl 0 rfl) ?_
      refine va_get (D := G.1) (ci := 13) (v := .ref (q 19)) (C := r_13) (T := f_13) (N := 42) (ref := "PagedValuesModel") hx hb hts (fun w h => List.mem_cons_of_mem _ (ly_13 w h)) hown hK hP 0 rfl rfl 32 (by decide) (hts _ (List.mem_cons_of_mem _ k1183)) (fun _ h9 => h9) rfl d15_93_27 ?_
      refine lv_iload_n hx hb d15_93_30 rfl (lv_at hl 1 rfl) ?_
      obtain ⟨x11, hr, h⟩ := ob h
      obtain ⟨hi, hv⟩ := rd_some hr
      refine va_iald (D := G.1) hx hb hK hP 19 1 rfl rfl (i := a0) hi d15_93_31 ?_
      refine lv_topi (fun y9 ey => ?_)
      have e9 := ey.trans hv
      clear ey
      subst y9
      clear hv hi hr
      have e9 := Option.some.inj h
      subst e5
      have hl := lv_sub hl (l' := [(0, .ref (q 0)), (1, .int a0)]) [0, 1] rfl
      exact hj _ _ _ hl hP hD hS
    ·
      replace h := (if_neg c10).symm.trans h
      refine lv_iconst (v := 0) hx hb d15_93_22 (by decide) ?_
      refine lv_goto (tgt := 32) hx hb d15_93_23 rfl ?_
      have e9 := Option.some.inj h
      subst e5
      have hl := lv_sub hl (l' := [(0, .ref (q 0)), (1, .int a0)]) [0, 1] rfl
      exact hj _ _ _ hl hP hD hS
  ·
    replace h := (if_pos c4).symm.trans hX
    refine lv_iconst (v := (-1)) hx hb d15_93_10 (by decide) ?_
    refine lv_goto (tgt := 32) hx hb d15_93_11 rfl ?_
    have e9 := Option.some.inj h
    subst e5
    have hl := lv_sub hl (l' := [(0, .ref (q 0)), (1, .int a0)]) [0, 1] rfl
    exact hj _ _ _ hl hP hD hS
theorem d15_94_0 : decode prog_15_method_94_code 0 = .ok (.iconst 0, 1) := by decide +kernel
theorem d15_94_1 : decode prog_15_method_94_code 1 = .ok (.istore_n 2, 1) := by decide +kernel
theorem d15_94_2 : decode prog_15_method_94_code 2 = .ok (.iconst 0, 1) := by decide +kernel
theorem d15_94_3 : decode prog_15_method_94_code 3 = .ok (.istore_n 3, 1) := by decide +kernel
theorem d15_94_32 : decode prog_15_method_94_code 32 = .ok (.iload_n 1, 1) := by decide +kernel
theorem d15_94_33 : decode prog_15_method_94_code 33 = .ok (.tableswitch 97 0 6 #[43, 48, 62, 64, 69, 74, 84], 43) := by decide +kernel
theorem d15_94_76 : decode prog_15_method_94_code 76 = .ok (.aload_n 0, 1) := by decide +kernel
theorem d15_94_77 : decode prog_15_method_94_code 77 = .ok (.getfield 108, 3) := by decide +kernel
theorem d15_94_80 : decode prog_15_method_94_code 80 = .ok (.ireturn, 1) := by decide +kernel
theorem d15_94_81 : decode prog_15_method_94_code 81 = .ok (.aload_n 0, 1) := by decide +kernel
theorem d15_94_82 : decode prog_15_method_94_code 82 = .ok (.aload_n 0, 1) := by decide +kernel
theorem d15_94_83 : decode prog_15_method_94_code 83 = .ok (.getfield 77, 3) := by decide +kernel
theorem d15_94_86 : decode prog_15_method_94_code 86 = .ok (.aload_n 0, 1) := by decide +kernel
theorem d15_94_87 : decode prog_15_method_94_code 87 = .ok (.invokevirtual 312, 3) := by decide +kernel
theorem d15_94_90 : decode prog_15_method_94_code 90 = .ok (.iaload, 1) := by decide +kernel
theorem d15_94_91 : decode prog_15_method_94_code 91 = .ok (.invokevirtual 338, 3) := by decide +kernel
theorem d15_94_94 : decode prog_15_method_94_code 94 = .ok (.ireturn, 1) := by decide +kernel
theorem d15_94_95 : decode prog_15_method_94_code 95 = .ok (.iload_n 2, 1) := by decide +kernel
theorem d15_94_96 : decode prog_15_method_94_code 96 = .ok (.ireturn, 1) := by decide +kernel
theorem d15_94_97 : decode prog_15_method_94_code 97 = .ok (.aload_n 0, 1) := by decide +kernel
theorem d15_94_98 : decode prog_15_method_94_code 98 = .ok (.getfield 302, 3) := by decide +kernel
theorem d15_94_101 : decode prog_15_method_94_code 101 = .ok (.ireturn, 1) := by decide +kernel
theorem d15_94_102 : decode prog_15_method_94_code 102 = .ok (.aload_n 0, 1) := by decide +kernel
theorem d15_94_103 : decode prog_15_method_94_code 103 = .ok (.invokevirtual 312, 3) := by decide +kernel
theorem d15_94_106 : decode prog_15_method_94_code 106 = .ok (.ireturn, 1) := by decide +kernel
theorem d15_94_107 : decode prog_15_method_94_code 107 = .ok (.aload_n 0, 1) := by decide +kernel
theorem d15_94_108 : decode prog_15_method_94_code 108 = .ok (.getfield 80, 3) := by decide +kernel
theorem d15_94_111 : decode prog_15_method_94_code 111 = .ok (.aload_n 0, 1) := by decide +kernel
theorem d15_94_112 : decode prog_15_method_94_code 112 = .ok (.invokevirtual 312, 3) := by decide +kernel
theorem d15_94_115 : decode prog_15_method_94_code 115 = .ok (.iaload, 1) := by decide +kernel
theorem d15_94_116 : decode prog_15_method_94_code 116 = .ok (.ireturn, 1) := by decide +kernel
theorem d15_94_117 : decode prog_15_method_94_code 117 = .ok (.aload_n 0, 1) := by decide +kernel
theorem d15_94_118 : decode prog_15_method_94_code 118 = .ok (.getfield 308, 3) := by decide +kernel
theorem d15_94_121 : decode prog_15_method_94_code 121 = .ok (.ifCond .eq 7, 3) := by decide +kernel
theorem d15_94_128 : decode prog_15_method_94_code 128 = .ok (.iconst 0, 1) := by decide +kernel
theorem d15_94_124 : decode prog_15_method_94_code 124 = .ok (.iconst 1, 1) := by decide +kernel
theorem d15_94_125 : decode prog_15_method_94_code 125 = .ok (.goto 4, 3) := by decide +kernel
theorem d15_94_129 : decode prog_15_method_94_code 129 = .ok (.ireturn, 1) := by decide +kernel
theorem d15_94_130 : decode prog_15_method_94_code 130 = .ok (.iconst (-1), 1) := by decide +kernel
theorem d15_94_131 : decode prog_15_method_94_code 131 = .ok (.ireturn, 1) := by decide +kernel
theorem d15_94_4 : decode prog_15_method_94_code 4 = .ok (.iload_n 3, 1) := by decide +kernel
theorem d15_94_5 : decode prog_15_method_94_code 5 = .ok (.iconst 3, 1) := by decide +kernel
theorem d15_94_6 : decode prog_15_method_94_code 6 = .ok (.if_icmp .ge 26, 3) := by decide +kernel
theorem d15_94_9 : decode prog_15_method_94_code 9 = .ok (.aload_n 0, 1) := by decide +kernel
theorem d15_94_10 : decode prog_15_method_94_code 10 = .ok (.getfield 83, 3) := by decide +kernel
theorem d15_94_13 : decode prog_15_method_94_code 13 = .ok (.iload_n 3, 1) := by decide +kernel
theorem d15_94_14 : decode prog_15_method_94_code 14 = .ok (.baload, 1) := by decide +kernel
theorem d15_94_15 : decode prog_15_method_94_code 15 = .ok (.ifCond .eq 9, 3) := by decide +kernel
theorem d15_94_24 : decode prog_15_method_94_code 24 = .ok (.iload_n 2, 1) := by decide +kernel
theorem d15_94_18 : decode prog_15_method_94_code 18 = .ok (.iload_n 2, 1) := by decide +kernel
theorem d15_94_19 : decode prog_15_method_94_code 19 = .ok (.iconst 1, 1) := by decide +kernel
theorem d15_94_20 : decode prog_15_method_94_code 20 = .ok (.iadd, 1) := by decide +kernel
theorem d15_94_21 : decode prog_15_method_94_code 21 = .ok (.goto 4, 3) := by decide +kernel
theorem d15_94_25 : decode prog_15_method_94_code 25 = .ok (.istore_n 2, 1) := by decide +kernel
theorem d15_94_26 : decode prog_15_method_94_code 26 = .ok (.iinc 3 1, 3) := by decide +kernel
theorem d15_94_29 : decode prog_15_method_94_code 29 = .ok (.goto (-25), 3) := by decide +kernel
def y15_94 : MethodName := { cls := "PagedValuesModel", name := "size", desc := "(I)I" }
def m_size_l1 (st : MS) : Nat → (Int32 × Int32) → Option (Int32 × Int32)
  | 0, _ => none
  | n9 + 1, e9 => if (3 : Int32) ≤ e9.2 then (some (e9.1, e9.2)) else ((rd (st.2.2.1 17) 3 e9.2).bind fun x32 => (if x32 = (0 : Int32) then (some e9.1) else ((some (e9.1 + 1)).bind fun y36 => some y36)).bind fun e34 => m_size_l1 st n9 (e34, e9.2 + 1))
theorem m_size_l1_s (st : MS) (n9 : Nat) (e9 : Int32 × Int32) : m_size_l1 st (n9 + 1) e9 = (if (3 : Int32) ≤ e9.2 then (some (e9.1, e9.2)) else ((rd (st.2.2.1 17) 3 e9.2).bind fun x32 => (if x32 = (0 : Int32) then (some e9.1) else ((some (e9.1 + 1)).bind fun y36 => some y36)).bind fun e34 => m_size_l1 st n9 (e34, e9.2 + 1))) := rfl
def m_size (a0 : Int32) (st : MS) : Option (Int32) := (m_size_l1 st 4096 ((0 : Int32), (0 : Int32))).bind fun e1 => if a0 = (0 : Int32) then (some (st.1 0)) else (if a0 = (1 : Int32) then ((m_current st).bind fun x9 => (rd (st.2.2.1 15) 2 x9).bind fun x12 => (m_documents x12 st).bind fun x13 => some x13) else (if a0 = (2 : Int32) then (some e1.1) else (if a0 = (3 : Int32) then (some (st.1 14)) else (if a0 = (4 : Int32) then ((m_current st).bind fun x19 => some x19) else (if a0 = (5 : Int32) then ((m_current st).bind fun x23 => (rd (st.2.2.1 16) 2 x23).bind fun x26 => some x26) else (if a0 = (6 : Int32) then ((if (st.1 13) = (0 : Int32) then (some (0 : Int32)) else (some (1 : Int32))).bind fun e29 => some e29) else (some ((-1) : Int32))))))))
set_option maxHeartbeats 4000000 in
set_option maxRecDepth 100000 in
theorem cm_size (l : Launch) (G : Gk) (Zd : Nat → Nat) (q : Nat → Nat) (a0 : Int32) (st : MS) (r0 : Int32) (hm : m_size a0 st = some r0) (sz : Nat) : Met l y15_94 (Cond.code y15_94 prog_15_method_94_code 4 (some .int) :: TB) (rmD 3 0 0) (va_Pc [.ref (q 0), .int a0] (pcW G Zd (wMs q G.2 st) sz)) (qI G (fun rr (_ : Unit) => rr = r0) (fun _ => (wMs q G.2 st)) (va_A (wMs q G.2 st) sz)) 0 0 (va_A (wMs q G.2 st) sz) := by
  refine go (y := y15_94) (cc := prog_15_method_94_code) (maxL := 4) (ret := (some .int)) (av := [.ref (q 0), .int a0]) (Qc := qI G (fun rr (_ : Unit) => rr = r0) (fun _ => (wMs q G.2 st))) "PagedValuesModel" rfl (by decide) (Nat.le_of_ble_eq_true rfl) ?_
  intro p e s m below meth c ls A hx hb hr hlk hml hown hts hin hl hP hD hK hS hA hZ
  have hl : lv_has ls 4 [(0, .ref (q 0)), (1, .int a0)] := hl
  have h := hm
  clear hm
  refine lv_iconst (v := 0) hx hb d15_94_0 (by decide) ?_
  refine lv_istore_n (lv' := [(2, .int 0), (0, .ref (q 0)), (1, .int a0)]) hx hb d15_94_1 rfl hl (by decide) rfl (fun ls hl => ?_)
  refine lv_iconst (v := 0) hx hb d15_94_2 (by decide) ?_
  refine lv_istore_n (lv' := [(3, .int 0), (2, .int 0), (0, .ref (q 0)), (1, .int a0)]) hx hb d15_94_3 rfl hl (by decide) rfl (fun ls hl => ?_)
  obtain ⟨e1, hX, hrest⟩ := ob h
  clear h
  have hj : ∀ (v5 : Int32) (v6 : Int32), e1 = (v5, v6) → ∀ (H : Heap) (locs : List Loc) (ls : Array Slot), lv_has ls 4 [(0, .ref (q 0)), (1, .int a0), (2, .int v5), (3, .int v6)] → va_P G.1 vwCl (wMs q G.2 st) H → va_D A (wMs q G.2 st) → va_S A s.heap H locs → W p l e (rmD 3 0 0) s m ([.ref (q 0), .int a0] : List Value).toArray below meth c H locs 0 0 (MQ below (qI G (fun rr (_ : Unit) => rr = r0) (fun _ => (wMs q G.2 st)) A) ([.ref (q 0), .int a0] : List Value).toArray s 0 0 A) (F0 m 32 ls []) := by
    intro v5 v6 he H locs ls hl hP hD hS
    subst e1
    have h := hrest
    refine lv_iload_n hx hb d15_94_32 rfl (lv_at hl 1 rfl) ?_
    by_cases n7 : a0 = (0 : Int32)
    ·
      replace h := (if_pos n7).symm.trans h
      refine W.eq (g2 := F0 m 33 ls [.int 0]) (by rw [n7]) ?_
      refine lv_tableIn (tgt := 76) (off := 43) hx hb d15_94_33 (by decide) (by decide) rfl rfl ?_
      refine lv_aload_n hx hb d15_94_76 rfl (lv_at hl 0 rfl) ?_
      refine va_get (D := G.1) (ci := 13) (v := .int (st.1 0)) (C := r_13) (T := f_13) (N := 42) (ref := "PagedValuesModel") hx hb hts (fun w h => List.mem_cons_of_mem _ (ly_13 w h)) hown hK hP 0 rfl rfl 1 (by decide) (hts _ (List.mem_cons_of_mem _ k1152)) (fun _ h9 => h9) rfl d15_94_77 ?_
      cases h
      exact fin_i hx hb hr hlk hS () rfl hP hD (Nat.le_of_ble_eq_true rfl) (Nat.le_of_ble_eq_true rfl) d15_94_80
    replace h := (if_neg n7).symm.trans h
    by_cases n8 : a0 = (1 : Int32)
    ·
      replace h := (if_pos n8).symm.trans h
      refine W.eq (g2 := F0 m 33 ls [.int 1]) (by rw [n8]) ?_
      refine lv_tableIn (tgt := 81) (off := 48) hx hb d15_94_33 (by decide) (by decide) rfl rfl ?_
      refine lv_aload_n hx hb d15_94_81 rfl (lv_at hl 0 rfl) ?_
      refine lv_aload_n hx hb d15_94_82 rfl (lv_at hl 0 rfl) ?_
      refine va_get (D := G.1) (ci := 13) (v := .ref (q 22)) (C := r_13) (T := f_13) (N := 42) (ref := "PagedValuesModel") hx hb hts (fun w h => List.mem_cons_of_mem _ (ly_13 w h)) hown hK hP 0 rfl rfl 35 (by decide) (hts _ (List.mem_cons_of_mem _ k1186)) (fun _ h9 => h9) rfl d15_94_83 ?_
      refine lv_aload_n hx hb d15_94_86 rfl (lv_at hl 0 rfl) ?_
      obtain ⟨x9, hc, h⟩ := ob h
      refine sV_i (As := []) (rest := [.ref (q 22), .ref (q 0)]) ⟨hx, hb, hml, hown, hts⟩ (cm_current l G Zd q st x9 hc _) (kw_V (n := 0) hts k1396 k1393 k15 k1395 ks57 (by decide +kernel) ⟨Nat.le_of_ble_eq_true rfl, Nat.le_of_ble_eq_true rfl⟩) hP hD hK hS hA hZ (va_recv (ci := 13) (q0 := 0) hK hP rfl rfl) rfl hl.1 rfl (Nat.le_of_ble_eq_true rfl) d15_94_87 ⟨Nat.le_of_ble_eq_true rfl, Nat.le_of_ble_eq_true rfl⟩ (fun rr u9 H locs hp hP hD hS => ?_)
      clear u9
      subst rr
      clear hc
      refine W.eq (g2 := F0 m 90 ls [.int x9, .ref (q 22), .ref (q 0)]) rfl ?_
      have hP : va_P G.1 vwCl (wMs q G.2 st) H := hP
      have hD : va_D A (wMs q G.2 st) := hD
      obtain ⟨x12, hr, h⟩ := ob h
      obtain ⟨hi, hv⟩ := rd_some hr
      refine va_iald (D := G.1) hx hb hK hP 22 1 rfl rfl (i := x9) hi d15_94_90 ?_
      refine lv_topi (fun y9 ey => ?_)
      have e9 := ey.trans hv
      clear ey
      subst y9
      clear hv hi hr
      obtain ⟨x13, hc, h⟩ := ob h
      refine sV_i (As := [.int x12]) (rest := []) ⟨hx, hb, hml, hown, hts⟩ (cm_documents l G Zd q x12 st x13 hc _) (kw_V (n := 1) hts k1534 k1531 k15 k1533 ks85 (by decide +kernel) ⟨Nat.le_of_ble_eq_true rfl, Nat.le_of_ble_eq_true rfl⟩) hP hD hK hS hA hZ (va_recv (ci := 13) (q0 := 0) hK hP rfl rfl) rfl hl.1 rfl (Nat.le_of_ble_eq_true rfl) d15_94_91 ⟨Nat.le_of_ble_eq_true rfl, Nat.le_of_ble_eq_true rfl⟩ (fun rr u9 H locs hp hP hD hS => ?_)
      clear u9
      subst rr
      clear hc
      refine W.eq (g2 := F0 m 94 ls [.int x13]) rfl ?_
      have hP : va_P G.1 vwCl (wMs q G.2 st) H := hP
      have hD : va_D A (wMs q G.2 st) := hD
      cases h
      exact fin_i hx hb hr hlk hS () rfl hP hD (Nat.le_of_ble_eq_true rfl) (Nat.le_of_ble_eq_true rfl) d15_94_94
    replace h := (if_neg n8).symm.trans h
    by_cases n16 : a0 = (2 : Int32)
    ·
      replace h := (if_pos n16).symm.trans h
      refine W.eq (g2 := F0 m 33 ls [.int 2]) (by rw [n16]) ?_
      refine lv_tableIn (tgt := 95) (off := 62) hx hb d15_94_33 (by decide) (by decide) rfl rfl ?_
      refine lv_iload_n hx hb d15_94_95 rfl (lv_at hl 2 rfl) ?_
      cases h
      exact fin_i hx hb hr hlk hS () rfl hP hD (Nat.le_of_ble_eq_true rfl) (Nat.le_of_ble_eq_true rfl) d15_94_96
    replace h := (if_neg n16).symm.trans h
    by_cases n17 : a0 = (3 : Int32)
    ·
      replace h := (if_pos n17).symm.trans h
      refine W.eq (g2 := F0 m 33 ls [.int 3]) (by rw [n17]) ?_
      refine lv_tableIn (tgt := 97) (off := 64) hx hb d15_94_33 (by decide) (by decide) rfl rfl ?_
      refine lv_aload_n hx hb d15_94_97 rfl (lv_at hl 0 rfl) ?_
      refine va_get (D := G.1) (ci := 13) (v := .int (st.1 14)) (C := r_13) (T := f_13) (N := 42) (ref := "PagedValuesModel") hx hb hts (fun w h => List.mem_cons_of_mem _ (ly_13 w h)) hown hK hP 0 rfl rfl 41 (by decide) (hts _ (List.mem_cons_of_mem _ k1192)) (fun _ h9 => h9) rfl d15_94_98 ?_
      cases h
      exact fin_i hx hb hr hlk hS () rfl hP hD (Nat.le_of_ble_eq_true rfl) (Nat.le_of_ble_eq_true rfl) d15_94_101
    replace h := (if_neg n17).symm.trans h
    by_cases n18 : a0 = (4 : Int32)
    ·
      replace h := (if_pos n18).symm.trans h
      refine W.eq (g2 := F0 m 33 ls [.int 4]) (by rw [n18]) ?_
      refine lv_tableIn (tgt := 102) (off := 69) hx hb d15_94_33 (by decide) (by decide) rfl rfl ?_
      refine lv_aload_n hx hb d15_94_102 rfl (lv_at hl 0 rfl) ?_
      obtain ⟨x19, hc, h⟩ := ob h
      refine sV_i (As := []) (rest := []) ⟨hx, hb, hml, hown, hts⟩ (cm_current l G Zd q st x19 hc _) (kw_V (n := 0) hts k1396 k1393 k15 k1395 ks57 (by decide +kernel) ⟨Nat.le_of_ble_eq_true rfl, Nat.le_of_ble_eq_true rfl⟩) hP hD hK hS hA hZ (va_recv (ci := 13) (q0 := 0) hK hP rfl rfl) rfl hl.1 rfl (Nat.le_of_ble_eq_true rfl) d15_94_103 ⟨Nat.le_of_ble_eq_true rfl, Nat.le_of_ble_eq_true rfl⟩ (fun rr u9 H locs hp hP hD hS => ?_)
      clear u9
      subst rr
      clear hc
      refine W.eq (g2 := F0 m 106 ls [.int x19]) rfl ?_
      have hP : va_P G.1 vwCl (wMs q G.2 st) H := hP
      have hD : va_D A (wMs q G.2 st) := hD
      cases h
      exact fin_i hx hb hr hlk hS () rfl hP hD (Nat.le_of_ble_eq_true rfl) (Nat.le_of_ble_eq_true rfl) d15_94_106
    replace h := (if_neg n18).symm.trans h
    by_cases n22 : a0 = (5 : Int32)
    ·
      replace h := (if_pos n22).symm.trans h
      refine W.eq (g2 := F0 m 33 ls [.int 5]) (by rw [n22]) ?_
      refine lv_tableIn (tgt := 107) (off := 74) hx hb d15_94_33 (by decide) (by decide) rfl rfl ?_
      refine lv_aload_n hx hb d15_94_107 rfl (lv_at hl 0 rfl) ?_
      refine va_get (D := G.1) (ci := 13) (v := .ref (q 23)) (C := r_13) (T := f_13) (N := 42) (ref := "PagedValuesModel") hx hb hts (fun w h => List.mem_cons_of_mem _ (ly_13 w h)) hown hK hP 0 rfl rfl 36 (by decide) (hts _ (List.mem_cons_of_mem _ k1187)) (fun _ h9 => h9) rfl d15_94_108 ?_
      refine lv_aload_n hx hb d15_94_111 rfl (lv_at hl 0 rfl) ?_
      obtain ⟨x23, hc, h⟩ := ob h
      refine sV_i (As := []) (rest := [.ref (q 23)]) ⟨hx, hb, hml, hown, hts⟩ (cm_current l G Zd q st x23 hc _) (kw_V (n := 0) hts k1396 k1393 k15 k1395 ks57 (by decide +kernel) ⟨Nat.le_of_ble_eq_true rfl, Nat.le_of_ble_eq_true rfl⟩) hP hD hK hS hA hZ (va_recv (ci := 13) (q0 := 0) hK hP rfl rfl) rfl hl.1 rfl (Nat.le_of_ble_eq_true rfl) d15_94_112 ⟨Nat.le_of_ble_eq_true rfl, Nat.le_of_ble_eq_true rfl⟩ (fun rr u9 H locs hp hP hD hS => ?_)
      clear u9
      subst rr
      clear hc
      refine W.eq (g2 := F0 m 115 ls [.int x23, .ref (q 23)]) rfl ?_
      have hP : va_P G.1 vwCl (wMs q G.2 st) H := hP
      have hD : va_D A (wMs q G.2 st) := hD
      obtain ⟨x26, hr, h⟩ := ob h
      obtain ⟨hi, hv⟩ := rd_some hr
      refine va_iald (D := G.1) hx hb hK hP 23 1 rfl rfl (i := x23) hi d15_94_115 ?_
      refine lv_topi (fun y9 ey => ?_)
      have e9 := ey.trans hv
      clear ey
      subst y9
      clear hv hi hr
      cases h
      exact fin_i hx hb hr hlk hS () rfl hP hD (Nat.le_of_ble_eq_true rfl) (Nat.le_of_ble_eq_true rfl) d15_94_116
    replace h := (if_neg n22).symm.trans h
    by_cases n27 : a0 = (6 : Int32)
    ·
      replace h := (if_pos n27).symm.trans h
      refine W.eq (g2 := F0 m 33 ls [.int 6]) (by rw [n27]) ?_
      refine lv_tableIn (tgt := 117) (off := 84) hx hb d15_94_33 (by decide) (by decide) rfl rfl ?_
      refine lv_aload_n hx hb d15_94_117 rfl (lv_at hl 0 rfl) ?_
      refine va_get (D := G.1) (ci := 13) (v := .int (st.1 13)) (C := r_13) (T := f_13) (N := 42) (ref := "PagedValuesModel") hx hb hts (fun w h => List.mem_cons_of_mem _ (ly_13 w h)) hown hK hP 0 rfl rfl 40 (by decide) (hts _ (List.mem_cons_of_mem _ k1191)) (fun _ h9 => h9) rfl d15_94_118 ?_
      obtain ⟨e29, hX, h⟩ := ob h
      have hj : ∀ (H : Heap) (locs : List Loc) (ls : Array Slot), lv_has ls 4 [(0, .ref (q 0)), (1, .int a0), (2, .int v5), (3, .int v6)] → va_P G.1 vwCl (wMs q G.2 st) H → va_D A (wMs q G.2 st) → va_S A s.heap H locs → W p l e (rmD 3 0 0) s m ([.ref (q 0), .int a0] : List Value).toArray below meth c H locs 0 0 (MQ below (qI G (fun rr (_ : Unit) => rr = r0) (fun _ => (wMs q G.2 st)) A) ([.ref (q 0), .int a0] : List Value).toArray s 0 0 A) (F0 m 129 ls [.int e29]) := by
        intro H locs ls hl hP hD hS
        cases h
        exact fin_i hx hb hr hlk hS () rfl hP hD (Nat.le_of_ble_eq_true rfl) (Nat.le_of_ble_eq_true rfl) d15_94_129
      clear h
      refine lv_if_eq (tgt := 128) hx hb d15_94_121 rfl (fun c28 => ?_) (fun c28 => ?_)
      ·
        replace h := (if_pos c28).symm.trans hX
        refine lv_iconst (v := 0) hx hb d15_94_128 (by decide) ?_
        have e9 := Option.some.inj h
        subst e29
        have hl := lv_sub hl (l' := [(0, .ref (q 0)), (1, .int a0), (2, .int v5), (3, .int v6)]) [0, 1, 2, 3] rfl
        exact hj _ _ _ hl hP hD hS
      ·
        replace h := (if_neg c28).symm.trans hX
        refine lv_iconst (v := 1) hx hb d15_94_124 (by decide) ?_
        refine lv_goto (tgt := 129) hx hb d15_94_125 rfl ?_
        have e9 := Option.some.inj h
        subst e29
        have hl := lv_sub hl (l' := [(0, .ref (q 0)), (1, .int a0), (2, .int v5), (3, .int v6)]) [0, 1, 2, 3] rfl
        exact hj _ _ _ hl hP hD hS
    replace h := (if_neg n27).symm.trans h
    refine lv_tableOut (tgt := 130) hx hb d15_94_33 (by have L9 := lits; have fn7 := n7; simp only [Int32.lt_iff_toInt_lt, Int32.le_iff_toInt_le, ← Int32.toInt_inj, ne_eq, Decidable.not_not] at fn7; have fn8 := n8; simp only [Int32.lt_iff_toInt_lt, Int32.le_iff_toInt_le, ← Int32.toInt_inj, ne_eq, Decidable.not_not] at fn8; have fn16 := n16; simp only [Int32.lt_iff_toInt_lt, Int32.le_iff_toInt_le, ← Int32.toInt_inj, ne_eq, Decidable.not_not] at fn16; have fn17 := n17; simp only [Int32.lt_iff_toInt_lt, Int32.le_iff_toInt_le, ← Int32.toInt_inj, ne_eq, Decidable.not_not] at fn17; have fn18 := n18; simp only [Int32.lt_iff_toInt_lt, Int32.le_iff_toInt_le, ← Int32.toInt_inj, ne_eq, Decidable.not_not] at fn18; have fn22 := n22; simp only [Int32.lt_iff_toInt_lt, Int32.le_iff_toInt_le, ← Int32.toInt_inj, ne_eq, Decidable.not_not] at fn22; have fn27 := n27; simp only [Int32.lt_iff_toInt_lt, Int32.le_iff_toInt_le, ← Int32.toInt_inj, ne_eq, Decidable.not_not] at fn27; omega) rfl ?_
    refine lv_iconst (v := (-1)) hx hb d15_94_130 (by decide) ?_
    cases h
    exact fin_i hx hb hr hlk hS () rfl hP hD (Nat.le_of_ble_eq_true rfl) (Nat.le_of_ble_eq_true rfl) d15_94_131
  have hloop : ∀ (n9 : Nat) (v2 : Int32) (v3 : Int32), m_size_l1 st n9 (v2, v3) = some e1 → ∀ (H : Heap) (locs : List Loc) (ls : Array Slot), lv_has ls 4 [(0, .ref (q 0)), (1, .int a0), (2, .int v2), (3, .int v3)] → va_P G.1 vwCl (wMs q G.2 st) H → va_D A (wMs q G.2 st) → va_S A s.heap H locs → W p l e (rmD 3 0 0) s m ([.ref (q 0), .int a0] : List Value).toArray below meth c H locs 0 0 (MQ below (qI G (fun rr (_ : Unit) => rr = r0) (fun _ => (wMs q G.2 st)) A) ([.ref (q 0), .int a0] : List Value).toArray s 0 0 A) (F0 m 4 ls []) := by
    intro n9
    induction n9 with
    | zero =>
      intro v2 v3 h
      cases h
    | succ n9 ih =>
      intro v2 v3 h H locs ls hl hP hD hS
      replace h := (m_size_l1_s st n9 (v2, v3)).symm.trans h
      refine lv_iload_n hx hb d15_94_4 rfl (lv_at hl 3 rfl) ?_
      refine lv_iconst (v := 3) hx hb d15_94_5 (by decide) ?_
      refine lv_icmp_ge (tgt := 32) hx hb d15_94_6 rfl (fun c31 => ?_) (fun c31 => ?_)
      ·
        replace h := (if_pos c31).symm.trans h
        have e9 := Option.some.inj h
        subst e1
        have hl := lv_sub hl (l' := [(0, .ref (q 0)), (1, .int a0), (2, .int v2), (3, .int v3)]) [0, 1, 2, 3] rfl
        exact hj _ _ rfl _ _ _ hl hP hD hS
      ·
        replace h := (if_neg c31).symm.trans h
        refine lv_aload_n hx hb d15_94_9 rfl (lv_at hl 0 rfl) ?_
        refine va_get (D := G.1) (ci := 13) (v := .ref (q 24)) (C := r_13) (T := f_13) (N := 42) (ref := "PagedValuesModel") hx hb hts (fun w h => List.mem_cons_of_mem _ (ly_13 w h)) hown hK hP 0 rfl rfl 37 (by decide) (hts _ (List.mem_cons_of_mem _ k1188)) (fun _ h9 => h9) rfl d15_94_10 ?_
        refine lv_iload_n hx hb d15_94_13 rfl (lv_at hl 3 rfl) ?_
        obtain ⟨x32, hr, h⟩ := ob h
        obtain ⟨hi, hv⟩ := rd_some hr
        refine va_zald (D := G.1) hx hb hK hP 24 3 rfl rfl (i := v3) hi d15_94_14 ?_
        refine lv_topi (fun y9 ey => ?_)
        have e9 := ey.trans hv
        clear ey
        subst y9
        clear hv hi hr
        obtain ⟨e34, hX, h⟩ := ob h
        have hj : ∀ (H : Heap) (locs : List Loc) (ls : Array Slot), lv_has ls 4 [(0, .ref (q 0)), (1, .int a0), (2, .int v2), (3, .int v3)] → va_P G.1 vwCl (wMs q G.2 st) H → va_D A (wMs q G.2 st) → va_S A s.heap H locs → W p l e (rmD 3 0 0) s m ([.ref (q 0), .int a0] : List Value).toArray below meth c H locs 0 0 (MQ below (qI G (fun rr (_ : Unit) => rr = r0) (fun _ => (wMs q G.2 st)) A) ([.ref (q 0), .int a0] : List Value).toArray s 0 0 A) (F0 m 25 ls [.int e34]) := by
          intro H locs ls hl hP hD hS
          refine lv_istore_n (lv' := [(2, .int e34), (0, .ref (q 0)), (1, .int a0), (3, .int v3)]) hx hb d15_94_25 rfl hl (by decide) rfl (fun ls hl => ?_)
          refine lv_iinc (k := 3) (v := v3 + 1) (lv' := [(3, .int (v3 + 1)), (2, .int e34), (0, .ref (q 0)), (1, .int a0)]) hx hb d15_94_26 hl rfl (by first | decide | rfl) (by decide) rfl (fun ls hl => ?_)
          refine lv_goto (tgt := 4) hx hb d15_94_29 rfl ?_
          have hl := lv_sub hl (l' := [(0, .ref (q 0)), (1, .int a0), (2, .int e34), (3, .int (v3 + 1))]) [2, 3, 1, 0] rfl
          exact ih _ _ h _ _ _ hl hP hD hS
        clear h
        refine lv_if_eq (tgt := 24) hx hb d15_94_15 rfl (fun c33 => ?_) (fun c33 => ?_)
        ·
          replace h := (if_pos c33).symm.trans hX
          refine lv_iload_n hx hb d15_94_24 rfl (lv_at hl 2 rfl) ?_
          have e9 := Option.some.inj h
          subst e34
          have hl := lv_sub hl (l' := [(0, .ref (q 0)), (1, .int a0), (2, .int v2), (3, .int v3)]) [0, 1, 2, 3] rfl
          exact hj _ _ _ hl hP hD hS
        ·
          replace h := (if_neg c33).symm.trans hX
          refine lv_iload_n hx hb d15_94_18 rfl (lv_at hl 2 rfl) ?_
          refine lv_iconst (v := 1) hx hb d15_94_19 (by decide) ?_
          refine lv_iadd hx hb d15_94_20 ?_
          obtain ⟨y36, hr, h⟩ := ob h
          refine lv_topi (fun y9 ey => ?_)
          have e9 := ey.trans (Option.some.inj hr)
          clear ey
          subst y9
          clear hr
          refine lv_goto (tgt := 25) hx hb d15_94_21 rfl ?_
          have e9 := Option.some.inj h
          subst e34
          have hl := lv_sub hl (l' := [(0, .ref (q 0)), (1, .int a0), (2, .int v2), (3, .int v3)]) [0, 1, 2, 3] rfl
          exact hj _ _ _ hl hP hD hS
  have hl := lv_sub hl (l' := [(0, .ref (q 0)), (1, .int a0), (2, .int 0), (3, .int 0)]) [2, 3, 1, 0] rfl
  exact hloop _ _ _ hX _ _ _ hl hP hD hS
