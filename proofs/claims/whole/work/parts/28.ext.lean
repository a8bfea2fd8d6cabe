def m_readQuery_l1  : Nat → (Int32 × MS) → Option (Int32 × MS)
  | 0, _ => none
  | n9 + 1, e9 => if (81 : Int32) ≤ e9.1 then (some (e9.1, e9.2)) else (if (0 : Int32) ≤ (e9.2.1 2) then (some (e9.1, e9.2)) else (if (e9.2.1 0) ≤ (e9.2.1 1) then (some (e9.1, e9.2)) else ((m_segment e9.2).bind fun st14 => m_readQuery_l1  n9 (e9.1 + 1, st14))))
theorem m_readQuery_l1_s  (n9 : Nat) (e9 : Int32 × MS) : m_readQuery_l1  (n9 + 1) e9 = (if (81 : Int32) ≤ e9.1 then (some (e9.1, e9.2)) else (if (0 : Int32) ≤ (e9.2.1 2) then (some (e9.1, e9.2)) else (if (e9.2.1 0) ≤ (e9.2.1 1) then (some (e9.1, e9.2)) else ((m_segment e9.2).bind fun st14 => m_readQuery_l1  n9 (e9.1 + 1, st14))))) := rfl
def m_readQuery (st : MS) : Option (MS) := (m_must (36 : Int32) (upd (upd (upd (upd st.1 1 0) 2 (-1)) 5 0) 6 0, st.2.1, st.2.2.1, st.2.2.2)).bind fun st2 => (m_readQuery_l1  4096 ((0 : Int32), st2)).bind fun e4 => some e4.2
set_option maxHeartbeats 4000000 in
set_option maxRecDepth 100000 in
theorem cm_readQuery (l : Launch) (G : Gk) (Zd : Nat → Nat) (q : Nat → Nat) (st : MS) (st0 : MS) (hm : m_readQuery st = some st0) (sz : Nat) : Met l y15_72 (Cond.code y15_72 prog_15_method_72_code 2 none :: TB) (rmD 6 0 0) (va_Pc [.ref (q 0)] (pcW G Zd (wMs q G.2 st) sz)) (qV G (fun (_ : Unit) => True) (fun _ => (wMs q G.2 st0)) (va_A (wMs q G.2 st) sz)) 0 0 (va_A (wMs q G.2 st) sz) := by
  refine go (y := y15_72) (cc := prog_15_method_72_code) (maxL := 2) (ret := none) (av := [.ref (q 0)]) (Qc := qV G (fun (_ : Unit) => True) (fun _ => (wMs q G.2 st0))) "PagedValuesModel" rfl (by decide) (Nat.le_of_ble_eq_true rfl) ?_
  intro p e s m below meth c ls A hx hb hr hlk hml hown hts hin hl hP hD hK hS hA hZ
  have hl : lv_has ls 2 [(0, .ref (q 0))] := hl
  have h := hm
  clear hm
  refine lv_aload_n hx hb d15_72_0 rfl (lv_at hl 0 rfl) ?_
  refine lv_iconst (v := 0) hx hb d15_72_1 (by decide) ?_
  refine va_put (D := G.1) (ci := 13) (v := .int 0) (ty := .int) (C := r_13) (T := f_13) (N := 42) (ref := "PagedValuesModel") hx hb hts (fun w h => List.mem_cons_of_mem _ (ly_13 w h)) ft_13 ft_13_ok nm_13 hown hK hP hD hS 0 rfl rfl 2 (by decide) (hts _ (List.mem_cons_of_mem _ k1153)) (fun _ h9 => h9) rfl (by decide +kernel) rfl rfl (Nat.le_of_ble_eq_true rfl) d15_72_2 (fun H locs hP hD hS => ?_)
  have hP : va_P G.1 vwCl (wMs q G.2 (upd st.1 1 0, st.2.1, st.2.2.1, st.2.2.2)) H := hP
  have hD : va_D A (wMs q G.2 (upd st.1 1 0, st.2.1, st.2.2.1, st.2.2.2)) := hD
  refine lv_aload_n hx hb d15_72_5 rfl (lv_at hl 0 rfl) ?_
  refine lv_iconst (v := (-1)) hx hb d15_72_6 (by decide) ?_
  refine va_put (D := G.1) (ci := 13) (v := .int (-1)) (ty := .int) (C := r_13) (T := f_13) (N := 42) (ref := "PagedValuesModel") hx hb hts (fun w h => List.mem_cons_of_mem _ (ly_13 w h)) ft_13 ft_13_ok nm_13 hown hK hP hD hS 0 rfl rfl 3 (by decide) (hts _ (List.mem_cons_of_mem _ k1154)) (fun _ h9 => h9) rfl (by decide +kernel) rfl rfl (Nat.le_of_ble_eq_true rfl) d15_72_7 (fun H locs hP hD hS => ?_)
  have hP : va_P G.1 vwCl (wMs q G.2 (upd (upd st.1 1 0) 2 (-1), st.2.1, st.2.2.1, st.2.2.2)) H := hP
  have hD : va_D A (wMs q G.2 (upd (upd st.1 1 0) 2 (-1), st.2.1, st.2.2.1, st.2.2.2)) := hD
  refine lv_aload_n hx hb d15_72_10 rfl (lv_at hl 0 rfl) ?_
  refine lv_iconst (v := 0) hx hb d15_72_11 (by decide) ?_
  refine va_put (D := G.1) (ci := 13) (v := .int 0) (ty := .int) (C := r_13) (T := f_13) (N := 42) (ref := "PagedValuesModel") hx hb hts (fun w h => List.mem_cons_of_mem _ (ly_13 w h)) ft_13 ft_13_ok nm_13 hown hK hP hD hS 0 rfl rfl 15 (by decide) (hts _ (List.mem_cons_of_mem _ k1166)) (fun _ h9 => h9) rfl (by decide +kernel) rfl rfl (Nat.le_of_ble_eq_true rfl) d15_72_12 (fun H locs hP hD hS => ?_)
  have hP : va_P G.1 vwCl (wMs q G.2 (upd (upd (upd st.1 1 0) 2 (-1)) 5 0, st.2.1, st.2.2.1, st.2.2.2)) H := hP
  have hD : va_D A (wMs q G.2 (upd (upd (upd st.1 1 0) 2 (-1)) 5 0, st.2.1, st.2.2.1, st.2.2.2)) := hD
  refine lv_aload_n hx hb d15_72_15 rfl (lv_at hl 0 rfl) ?_
  refine lv_iconst (v := 0) hx hb d15_72_16 (by decide) ?_
  refine va_put (D := G.1) (ci := 13) (v := .int 0) (ty := .int) (C := r_13) (T := f_13) (N := 42) (ref := "PagedValuesModel") hx hb hts (fun w h => List.mem_cons_of_mem _ (ly_13 w h)) ft_13 ft_13_ok nm_13 hown hK hP hD hS 0 rfl rfl 18 (by decide) (hts _ (List.mem_cons_of_mem _ k1169)) (fun _ h9 => h9) rfl (by decide +kernel) rfl rfl (Nat.le_of_ble_eq_true rfl) d15_72_17 (fun H locs hP hD hS => ?_)
  have hP : va_P G.1 vwCl (wMs q G.2 (upd (upd (upd (upd st.1 1 0) 2 (-1)) 5 0) 6 0, st.2.1, st.2.2.1, st.2.2.2)) H := hP
  have hD : va_D A (wMs q G.2 (upd (upd (upd (upd st.1 1 0) 2 (-1)) 5 0) 6 0, st.2.1, st.2.2.1, st.2.2.2)) := hD
  refine lv_aload_n hx hb d15_72_20 rfl (lv_at hl 0 rfl) ?_
  refine lv_bipush (v := 36) hx hb d15_72_21 (by decide) ?_
  obtain ⟨st2, hc, h⟩ := ob h
  refine sV_v (As := [.int 36]) (rest := []) ⟨hx, hb, hml, hown, hts⟩ (cm_must l G Zd q (36 : Int32) (upd (upd (upd (upd st.1 1 0) 2 (-1)) 5 0) 6 0, st.2.1, st.2.2.1, st.2.2.2) st2 hc _) (kw_V (n := 1) hts k1336 k1333 k15 k1335 ks44 (by decide +kernel) ⟨Nat.le_of_ble_eq_true rfl, Nat.le_of_ble_eq_true rfl⟩) hP hD hK hS hA hZ (va_recv (ci := 13) (q0 := 0) hK hP rfl rfl) rfl hl.1 rfl (Nat.le_of_ble_eq_true rfl) d15_72_23 ⟨Nat.le_of_ble_eq_true rfl, Nat.le_of_ble_eq_true rfl⟩ (fun u9 H locs hp hP hD hS => ?_)
  clear u9
  clear hp
  clear hc
  refine W.eq (g2 := F0 m 26 ls []) rfl ?_
  have hP : va_P G.1 vwCl (wMs q G.2 st2) H := hP
  have hD : va_D A (wMs q G.2 st2) := hD
  refine lv_iconst (v := 0) hx hb d15_72_26 (by decide) ?_
  refine lv_istore_n (lv' := [(1, .int 0), (0, .ref (q 0))]) hx hb d15_72_27 rfl hl (by decide) rfl (fun ls hl => ?_)
  obtain ⟨e4, hX, hrest⟩ := ob h
  clear h
  have hj : ∀ (v8 : Int32) (v9 : MS), e4 = (v8, v9) → ∀ (H : Heap) (locs : List Loc) (ls : Array Slot), lv_has ls 2 [(0, .ref (q 0)), (1, .int v8)] → va_P G.1 vwCl (wMs q G.2 v9) H → va_D A (wMs q G.2 v9) → va_S A s.heap H locs → W p l e (rmD 6 0 0) s m ([.ref (q 0)] : List Value).toArray below meth c H locs 0 0 (MQ below (qV G (fun (_ : Unit) => True) (fun _ => (wMs q G.2 st0)) A) ([.ref (q 0)] : List Value).toArray s 0 0 A) (F0 m 62 ls []) := by
    intro v8 v9 he H locs ls hl hP hD hS
    subst e4
    have h := hrest
    cases h
    exact fin_v hx hb hr hlk hS () trivial hP hD (Nat.le_of_ble_eq_true rfl) (Nat.le_of_ble_eq_true rfl) d15_72_62
  have hloop : ∀ (n9 : Nat) (v5 : Int32) (v6 : MS), m_readQuery_l1  n9 (v5, v6) = some e4 → ∀ (H : Heap) (locs : List Loc) (ls : Array Slot), lv_has ls 2 [(0, .ref (q 0)), (1, .int v5)] → va_P G.1 vwCl (wMs q G.2 v6) H → va_D A (wMs q G.2 v6) → va_S A s.heap H locs → W p l e (rmD 6 0 0) s m ([.ref (q 0)] : List Value).toArray below meth c H locs 0 0 (MQ below (qV G (fun (_ : Unit) => True) (fun _ => (wMs q G.2 st0)) A) ([.ref (q 0)] : List Value).toArray s 0 0 A) (F0 m 28 ls []) := by
    intro n9
    induction n9 with
    | zero =>
      intro v5 v6 h
      cases h
    | succ n9 ih =>
      intro v5 v6 h H locs ls hl hP hD hS
      replace h := (m_readQuery_l1_s  n9 (v5, v6)).symm.trans h
      refine lv_iload_n hx hb d15_72_28 rfl (lv_at hl 1 rfl) ?_
      refine lv_bipush (v := 81) hx hb d15_72_29 (by decide) ?_
      refine lv_icmp_ge (tgt := 62) hx hb d15_72_31 rfl (fun c10 => ?_) (fun c10 => ?_)
      ·
        replace h := (if_pos c10).symm.trans h
        have e9 := Option.some.inj h
        subst e4
        have hl := lv_sub hl (l' := [(0, .ref (q 0)), (1, .int v5)]) [0, 1] rfl
        exact hj _ _ rfl _ _ _ hl hP hD hS
      ·
        replace h := (if_neg c10).symm.trans h
        refine lv_aload_n hx hb d15_72_34 rfl (lv_at hl 0 rfl) ?_
        refine va_get (D := G.1) (ci := 13) (v := .int (v6.1 2)) (C := r_13) (T := f_13) (N := 42) (ref := "PagedValuesModel") hx hb hts (fun w h => List.mem_cons_of_mem _ (ly_13 w h)) hown hK hP 0 rfl rfl 3 (by decide) (hts _ (List.mem_cons_of_mem _ k1154)) (fun _ h9 => h9) rfl d15_72_35 ?_
        refine lv_if_ge (tgt := 62) hx hb d15_72_38 rfl (fun c11 => ?_) (fun c11 => ?_)
        ·
          replace h := (if_pos c11).symm.trans h
          have e9 := Option.some.inj h
          subst e4
          have hl := lv_sub hl (l' := [(0, .ref (q 0)), (1, .int v5)]) [0, 1] rfl
          exact hj _ _ rfl _ _ _ hl hP hD hS
        ·
          replace h := (if_neg c11).symm.trans h
          refine lv_aload_n hx hb d15_72_41 rfl (lv_at hl 0 rfl) ?_
          refine va_get (D := G.1) (ci := 13) (v := .int (v6.1 1)) (C := r_13) (T := f_13) (N := 42) (ref := "PagedValuesModel") hx hb hts (fun w h => List.mem_cons_of_mem _ (ly_13 w h)) hown hK hP 0 rfl rfl 2 (by decide) (hts _ (List.mem_cons_of_mem _ k1153)) (fun _ h9 => h9) rfl d15_72_42 ?_
          refine lv_aload_n hx hb d15_72_45 rfl (lv_at hl 0 rfl) ?_
          refine va_get (D := G.1) (ci := 13) (v := .int (v6.1 0)) (C := r_13) (T := f_13) (N := 42) (ref := "PagedValuesModel") hx hb hts (fun w h => List.mem_cons_of_mem _ (ly_13 w h)) hown hK hP 0 rfl rfl 1 (by decide) (hts _ (List.mem_cons_of_mem _ k1152)) (fun _ h9 => h9) rfl d15_72_46 ?_
          refine lv_icmp_ge (tgt := 62) hx hb d15_72_49 rfl (fun c12 => ?_) (fun c12 => ?_)
          ·
            replace h := (if_pos c12).symm.trans h
            have e9 := Option.some.inj h
            subst e4
            have hl := lv_sub hl (l' := [(0, .ref (q 0)), (1, .int v5)]) [0, 1] rfl
            exact hj _ _ rfl _ _ _ hl hP hD hS
          ·
            replace h := (if_neg c12).symm.trans h
            refine lv_aload_n hx hb d15_72_52 rfl (lv_at hl 0 rfl) ?_
            obtain ⟨st14, hc, h⟩ := ob h
            refine sV_v (As := []) (rest := []) ⟨hx, hb, hml, hown, hts⟩ (cm_segment l G Zd q v6 st14 hc _) (kw_V (n := 0) hts k1554 k1551 k15 k1553 ks89 (by decide +kernel) ⟨Nat.le_of_ble_eq_true rfl, Nat.le_of_ble_eq_true rfl⟩) hP hD hK hS hA hZ (va_recv (ci := 13) (q0 := 0) hK hP rfl rfl) rfl hl.1 rfl (Nat.le_of_ble_eq_true rfl) d15_72_53 ⟨Nat.le_of_ble_eq_true rfl, Nat.le_of_ble_eq_true rfl⟩ (fun u9 H locs hp hP hD hS => ?_)
            clear u9
            clear hp
            clear hc
            refine W.eq (g2 := F0 m 56 ls []) rfl ?_
            have hP : va_P G.1 vwCl (wMs q G.2 st14) H := hP
            have hD : va_D A (wMs q G.2 st14) := hD
            refine lv_iinc (k := 1) (v := v5 + 1) (lv' := [(1, .int (v5 + 1)), (0, .ref (q 0))]) hx hb d15_72_56 hl rfl (by first | decide | rfl) (by decide) rfl (fun ls hl => ?_)
            refine lv_goto (tgt := 28) hx hb d15_72_59 rfl ?_
            have hl := lv_sub hl (l' := [(0, .ref (q 0)), (1, .int (v5 + 1))]) [1, 0] rfl
            exact ih _ _ h _ _ _ hl hP hD hS
  have hl := lv_sub hl (l' := [(0, .ref (q 0)), (1, .int 0)]) [1, 0] rfl
  exact hloop _ _ _ hX _ _ _ hl hP hD hS
def m_rootOf (a0 : Int32) (st : MS) : Option (Int32) := (if (0 : Int32) ≤ a0 then ((rd (st.2.2.1 18) 3 a0).bind fun x4 => some x4) else ((m_current st).bind fun x5 => (rd (st.2.2.1 15) 2 x5).bind fun x8 => some x8)).bind fun e2 => some e2
set_option maxHeartbeats 4000000 in
set_option maxRecDepth 100000 in
theorem cm_rootOf (l : Launch) (G : Gk) (Zd : Nat → Nat) (q : Nat → Nat) (a0 : Int32) (st : MS) (r0 : Int32) (hm : m_rootOf a0 st = some r0) (sz : Nat) : Met l y15_77 (Cond.code y15_77 prog_15_method_77_code 2 (some .int) :: TB) (rmD 1 0 0) (va_Pc [.ref (q 0), .int a0] (pcW G Zd (wMs q G.2 st) sz)) (qI G (fun rr (_ : Unit) => rr = r0) (fun _ => (wMs q G.2 st)) (va_A (wMs q G.2 st) sz)) 0 0 (va_A (wMs q G.2 st) sz) := by
  refine go (y := y15_77) (cc := prog_15_method_77_code) (maxL := 2) (ret := (some .int)) (av := [.ref (q 0), .int a0]) (Qc := qI G (fun rr (_ : Unit) => rr = r0) (fun _ => (wMs q G.2 st))) "PagedValuesModel" rfl (by decide) (Nat.le_of_ble_eq_true rfl) ?_
  intro p e s m below meth c ls A hx hb hr hlk hml hown hts hin hl hP hD hK hS hA hZ
  have hl : lv_has ls 2 [(0, .ref (q 0)), (1, .int a0)] := hl
  have h := hm
  clear hm
  refine lv_iload_n hx hb d15_77_0 rfl (lv_at hl 1 rfl) ?_
  obtain ⟨e2, hX, h⟩ := ob h
  have hj : ∀ (H : Heap) (locs : List Loc) (ls : Array Slot), lv_has ls 2 [(0, .ref (q 0)), (1, .int a0)] → va_P G.1 vwCl (wMs q G.2 st) H → va_D A (wMs q G.2 st) → va_S A s.heap H locs → W p l e (rmD 1 0 0) s m ([.ref (q 0), .int a0] : List Value).toArray below meth c H locs 0 0 (MQ below (qI G (fun rr (_ : Unit) => rr = r0) (fun _ => (wMs q G.2 st)) A) ([.ref (q 0), .int a0] : List Value).toArray s 0 0 A) (F0 m 22 ls [.int e2]) := by
    intro H locs ls hl hP hD hS
    cases h
    exact fin_i hx hb hr hlk hS () rfl hP hD (Nat.le_of_ble_eq_true rfl) (Nat.le_of_ble_eq_true rfl) d15_77_22
  clear h
  refine lv_if_ge (tgt := 16) hx hb d15_77_1 rfl (fun c1 => ?_) (fun c1 => ?_)
  ·
    replace h := (if_pos c1).symm.trans hX
    refine lv_aload_n hx hb d15_77_16 rfl (lv_at hl 0 rfl) ?_
    refine va_get (D := G.1) (ci := 13) (v := .ref (q 25)) (C := r_13) (T := f_13) (N := 42) (ref := "PagedValuesModel") hx hb hts (fun w h => List.mem_cons_of_mem _ (ly_13 w h)) hown hK hP 0 rfl rfl 38 (by decide) (hts _ (List.mem_cons_of_mem _ k1189)) (fun _ h9 => h9) rfl d15_77_17 ?_
    refine lv_iload_n hx hb d15_77_20 rfl (lv_at hl 1 rfl) ?_
    obtain ⟨x4, hr, h⟩ := ob h
    obtain ⟨hi, hv⟩ := rd_some hr
    refine va_iald (D := G.1) hx hb hK hP 25 1 rfl rfl (i := a0) hi d15_77_21 ?_
    refine lv_topi (fun y9 ey => ?_)
    have e9 := ey.trans hv
    clear ey
    subst y9
    clear hv hi hr
    have e9 := Option.some.inj h
    subst e2
    have hl := lv_sub hl (l' := [(0, .ref (q 0)), (1, .int a0)]) [0, 1] rfl
    exact hj _ _ _ hl hP hD hS
  ·
    replace h := (if_neg c1).symm.trans hX
    refine lv_aload_n hx hb d15_77_4 rfl (lv_at hl 0 rfl) ?_
    refine va_get (D := G.1) (ci := 13) (v := .ref (q 22)) (C := r_13) (T := f_13) (N := 42) (ref := "PagedValuesModel") hx hb hts (fun w h => List.mem_cons_of_mem _ (ly_13 w h)) hown hK hP 0 rfl rfl 35 (by decide) (hts _ (List.mem_cons_of_mem _ k1186)) (fun _ h9 => h9) rfl d15_77_5 ?_
    refine lv_aload_n hx hb d15_77_8 rfl (lv_at hl 0 rfl) ?_
    obtain ⟨x5, hc, h⟩ := ob h
    refine sV_i (As := []) (rest := [.ref (q 22)]) ⟨hx, hb, hml, hown, hts⟩ (cm_current l G Zd q st x5 hc _) (kw_V (n := 0) hts k1396 k1393 k15 k1395 ks57 (by decide +kernel) ⟨Nat.le_of_ble_eq_true rfl, Nat.le_of_ble_eq_true rfl⟩) hP hD hK hS hA hZ (va_recv (ci := 13) (q0 := 0) hK hP rfl rfl) rfl hl.1 rfl (Nat.le_of_ble_eq_true rfl) d15_77_9 ⟨Nat.le_of_ble_eq_true rfl, Nat.le_of_ble_eq_true rfl⟩ (fun rr u9 H locs hp hP hD hS => ?_)
    clear u9
    subst rr
    clear hc
    refine W.eq (g2 := F0 m 12 ls [.int x5, .ref (q 22)]) rfl ?_
    have hP : va_P G.1 vwCl (wMs q G.2 st) H := hP
    have hD : va_D A (wMs q G.2 st) := hD
    obtain ⟨x8, hr, h⟩ := ob h
    obtain ⟨hi, hv⟩ := rd_some hr
    refine va_iald (D := G.1) hx hb hK hP 22 1 rfl rfl (i := x5) hi d15_77_12 ?_
    refine lv_topi (fun y9 ey => ?_)
    have e9 := ey.trans hv
    clear ey
    subst y9
    clear hv hi hr
    refine lv_goto (tgt := 22) hx hb d15_77_13 rfl ?_
    have e9 := Option.some.inj h
    subst e2
    have hl := lv_sub hl (l' := [(0, .ref (q 0)), (1, .int a0)]) [0, 1] rfl
    exact hj _ _ _ hl hP hD hS
def m_select (a0 : Int32) (st : MS) : Option (MS) := (if (st.1 8) = (32 : Int32) then (some (upd st.1 9 1, st.2.1, st.2.2.1, st.2.2.2)) else ((ix 33 (st.1 8)).bind fun k4z => (some ((st.1 8) + 1)).bind fun y5 => some (upd st.1 8 y5, st.2.1, va_up st.2.2.1 9 (upd (st.2.2.1 9) k4z a0), st.2.2.2))).bind fun e2 => some e2
set_option maxHeartbeats 4000000 in
set_option maxRecDepth 100000 in
theorem cm_select (l : Launch) (G : Gk) (Zd : Nat → Nat) (q : Nat → Nat) (a0 : Int32) (st : MS) (st0 : MS) (hm : m_select a0 st = some st0) (sz : Nat) : Met l y15_73 (Cond.code y15_73 prog_15_method_73_code 2 none :: TB) (rmD 0 0 0) (va_Pc [.ref (q 0), .int a0] (pcW G Zd (wMs q G.2 st) sz)) (qV G (fun (_ : Unit) => True) (fun _ => (wMs q G.2 st0)) (va_A (wMs q G.2 st) sz)) 0 0 (va_A (wMs q G.2 st) sz) := by
  refine go (y := y15_73) (cc := prog_15_method_73_code) (maxL := 2) (ret := none) (av := [.ref (q 0), .int a0]) (Qc := qV G (fun (_ : Unit) => True) (fun _ => (wMs q G.2 st0))) "PagedValuesModel" rfl (by decide) (Nat.le_of_ble_eq_true rfl) ?_
  intro p e s m below meth c ls A hx hb hr hlk hml hown hts hin hl hP hD hK hS hA hZ
  have hl : lv_has ls 2 [(0, .ref (q 0)), (1, .int a0)] := hl
  have h := hm
  clear hm
  refine lv_aload_n hx hb d15_73_0 rfl (lv_at hl 0 rfl) ?_
  refine va_get (D := G.1) (ci := 13) (v := .int (st.1 8)) (C := r_13) (T := f_13) (N := 42) (ref := "PagedValuesModel") hx hb hts (fun w h => List.mem_cons_of_mem _ (ly_13 w h)) hown hK hP 0 rfl rfl 25 (by decide) (hts _ (List.mem_cons_of_mem _ k1176)) (fun _ h9 => h9) rfl d15_73_1 ?_
  refine lv_bipush (v := 32) hx hb d15_73_4 (by decide) ?_
  obtain ⟨e2, hX, h⟩ := ob h
  have hj : ∀ (H : Heap) (locs : List Loc) (ls : Array Slot), lv_has ls 2 [(0, .ref (q 0)), (1, .int a0)] → va_P G.1 vwCl (wMs q G.2 e2) H → va_D A (wMs q G.2 e2) → va_S A s.heap H locs → W p l e (rmD 0 0 0) s m ([.ref (q 0), .int a0] : List Value).toArray below meth c H locs 0 0 (MQ below (qV G (fun (_ : Unit) => True) (fun _ => (wMs q G.2 st0)) A) ([.ref (q 0), .int a0] : List Value).toArray s 0 0 A) (F0 m 37 ls []) := by
    intro H locs ls hl hP hD hS
    cases h
    exact fin_v hx hb hr hlk hS () trivial hP hD (Nat.le_of_ble_eq_true rfl) (Nat.le_of_ble_eq_true rfl) d15_73_37
  clear h
  refine lv_icmp_ne (tgt := 17) hx hb d15_73_6 rfl (fun c1 => ?_) (fun c1 => ?_)
  ·
    replace h := (if_neg c1).symm.trans hX
    refine lv_aload_n hx hb d15_73_17 rfl (lv_at hl 0 rfl) ?_
    refine va_get (D := G.1) (ci := 13) (v := .ref (q 16)) (C := r_13) (T := f_13) (N := 42) (ref := "PagedValuesModel") hx hb hts (fun w h => List.mem_cons_of_mem _ (ly_13 w h)) hown hK hP 0 rfl rfl 26 (by decide) (hts _ (List.mem_cons_of_mem _ k1177)) (fun _ h9 => h9) rfl d15_73_18 ?_
    refine lv_aload_n hx hb d15_73_21 rfl (lv_at hl 0 rfl) ?_
    refine va_get (D := G.1) (ci := 13) (v := .int (st.1 8)) (C := r_13) (T := f_13) (N := 42) (ref := "PagedValuesModel") hx hb hts (fun w h => List.mem_cons_of_mem _ (ly_13 w h)) hown hK hP 0 rfl rfl 25 (by decide) (hts _ (List.mem_cons_of_mem _ k1176)) (fun _ h9 => h9) rfl d15_73_22 ?_
    refine lv_iload_n hx hb d15_73_25 rfl (lv_at hl 1 rfl) ?_
    obtain ⟨k4z, hr, h⟩ := ob h
    obtain ⟨hi, hk⟩ := ix_some hr
    clear hr
    refine va_iast (D := G.1) hx hb hK hP hD hS 16 1 rfl rfl (i := st.1 8) (x := a0) hi d15_73_26 (fun H locs hP hD hS => ?_)
    rw [hk] at hP hD
    clear hk hi
    have hP : va_P G.1 vwCl (wMs q G.2 (st.1, st.2.1, va_up st.2.2.1 9 (upd (st.2.2.1 9) k4z a0), st.2.2.2)) H := hP
    have hD : va_D A (wMs q G.2 (st.1, st.2.1, va_up st.2.2.1 9 (upd (st.2.2.1 9) k4z a0), st.2.2.2)) := hD
    refine lv_aload_n hx hb d15_73_27 rfl (lv_at hl 0 rfl) ?_
    refine lv_dup hx hb d15_73_28 rfl ?_
    refine va_get (D := G.1) (ci := 13) (v := .int (st.1 8)) (C := r_13) (T := f_13) (N := 42) (ref := "PagedValuesModel") hx hb hts (fun w h => List.mem_cons_of_mem _ (ly_13 w h)) hown hK hP 0 rfl rfl 25 (by decide) (hts _ (List.mem_cons_of_mem _ k1176)) (fun _ h9 => h9) rfl d15_73_29 ?_
    refine lv_iconst (v := 1) hx hb d15_73_32 (by decide) ?_
    refine lv_iadd hx hb d15_73_33 ?_
    obtain ⟨y5, hr, h⟩ := ob h
    refine lv_topi (fun y9 ey => ?_)
    have e9 := ey.trans (Option.some.inj hr)
    clear ey
    subst y9
    clear hr
    refine va_put (D := G.1) (ci := 13) (v := .int y5) (ty := .int) (C := r_13) (T := f_13) (N := 42) (ref := "PagedValuesModel") hx hb hts (fun w h => List.mem_cons_of_mem _ (ly_13 w h)) ft_13 ft_13_ok nm_13 hown hK hP hD hS 0 rfl rfl 25 (by decide) (hts _ (List.mem_cons_of_mem _ k1176)) (fun _ h9 => h9) rfl (by decide +kernel) rfl rfl (Nat.le_of_ble_eq_true rfl) d15_73_34 (fun H locs hP hD hS => ?_)
    have hP : va_P G.1 vwCl (wMs q G.2 (upd st.1 8 y5, st.2.1, va_up st.2.2.1 9 (upd (st.2.2.1 9) k4z a0), st.2.2.2)) H := hP
    have hD : va_D A (wMs q G.2 (upd st.1 8 y5, st.2.1, va_up st.2.2.1 9 (upd (st.2.2.1 9) k4z a0), st.2.2.2)) := hD
    have e9 := Option.some.inj h
    subst e2
    have hl := lv_sub hl (l' := [(0, .ref (q 0)), (1, .int a0)]) [0, 1] rfl
    exact hj _ _ _ hl hP hD hS
  ·
    replace h := (if_pos c1).symm.trans hX
    refine lv_aload_n hx hb d15_73_9 rfl (lv_at hl 0 rfl) ?_
    refine lv_iconst (v := 1) hx hb d15_73_10 (by decide) ?_
    refine va_put (D := G.1) (ci := 13) (v := .int 1) (ty := .boolean) (C := r_13) (T := f_13) (N := 42) (ref := "PagedValuesModel") hx hb hts (fun w h => List.mem_cons_of_mem _ (ly_13 w h)) ft_13 ft_13_ok nm_13 hown hK hP hD hS 0 rfl rfl 27 (by decide) (hts _ (List.mem_cons_of_mem _ k1178)) (fun _ h9 => h9) rfl (by decide +kernel) (by decide) (by decide) (Nat.le_of_ble_eq_true rfl) d15_73_11 (fun H locs hP hD hS => ?_)
    have hP : va_P G.1 vwCl (wMs q G.2 (upd st.1 9 1, st.2.1, st.2.2.1, st.2.2.2)) H := hP
    have hD : va_D A (wMs q G.2 (upd st.1 9 1, st.2.1, st.2.2.1, st.2.2.2)) := hD
    refine lv_goto (tgt := 37) hx hb d15_73_14 rfl ?_
    have e9 := Option.some.inj h
    subst e2
    have hl := lv_sub hl (l' := [(0, .ref (q 0)), (1, .int a0)]) [0, 1] rfl
    exact hj _ _ _ hl hP hD hS
def m_selects_l1 (a1 : Int32) : Nat → (Int32 × MS) → Option (Int32 × MS)
  | 0, _ => none
  | n9 + 1, e9 => (rd (e9.2.2.2.1 2) 2100 a1).bind fun x18 => (some (a1 + x18)).bind fun y19 => if y19 ≤ e9.1 then (some (e9.1, e9.2)) else ((m_select e9.1 e9.2).bind fun st22 => (rd (st22.2.2.1 2) 2100 e9.1).bind fun x24 => (some (e9.1 + x24)).bind fun y25 => m_selects_l1 a1 n9 (y25, st22))
theorem m_selects_l1_s (a1 : Int32) (n9 : Nat) (e9 : Int32 × MS) : m_selects_l1 a1 (n9 + 1) e9 = ((rd (e9.2.2.2.1 2) 2100 a1).bind fun x18 => (some (a1 + x18)).bind fun y19 => if y19 ≤ e9.1 then (some (e9.1, e9.2)) else ((m_select e9.1 e9.2).bind fun st22 => (rd (st22.2.2.1 2) 2100 e9.1).bind fun x24 => (some (e9.1 + x24)).bind fun y25 => m_selects_l1 a1 n9 (y25, st22))) := rfl
def m_selects_l2 (a1 : Int32) : Nat → (Int32 × MS) → Option (Int32 × MS)
  | 0, _ => none
  | n9 + 1, e9 => (rd (e9.2.2.2.1 2) 2100 a1).bind fun x39 => (some (a1 + x39)).bind fun y40 => if y40 ≤ e9.1 then (some (e9.1, e9.2)) else ((m_select e9.1 e9.2).bind fun st43 => (rd (st43.2.2.1 2) 2100 e9.1).bind fun x45 => (some (e9.1 + x45)).bind fun y46 => m_selects_l2 a1 n9 (y46, st43))
theorem m_selects_l2_s (a1 : Int32) (n9 : Nat) (e9 : Int32 × MS) : m_selects_l2 a1 (n9 + 1) e9 = ((rd (e9.2.2.2.1 2) 2100 a1).bind fun x39 => (some (a1 + x39)).bind fun y40 => if y40 ≤ e9.1 then (some (e9.1, e9.2)) else ((m_select e9.1 e9.2).bind fun st43 => (rd (st43.2.2.1 2) 2100 e9.1).bind fun x45 => (some (e9.1 + x45)).bind fun y46 => m_selects_l2 a1 n9 (y46, st43))) := rfl
def m_selects_l3 (a1 : Int32) : Nat → (Int32 × MS) → Option (Int32 × MS)
  | 0, _ => none
  | n9 + 1, e9 => (rd (e9.2.2.2.1 2) 2100 a1).bind fun x84 => (some (a1 + x84)).bind fun y85 => if y85 ≤ e9.1 then (some (e9.1, e9.2)) else ((m_select e9.1 e9.2).bind fun st88 => (rd (st88.2.2.1 2) 2100 e9.1).bind fun x90 => (some (e9.1 + x90)).bind fun y91 => m_selects_l3 a1 n9 (y91, st88))
theorem m_selects_l3_s (a1 : Int32) (n9 : Nat) (e9 : Int32 × MS) : m_selects_l3 a1 (n9 + 1) e9 = ((rd (e9.2.2.2.1 2) 2100 a1).bind fun x84 => (some (a1 + x84)).bind fun y85 => if y85 ≤ e9.1 then (some (e9.1, e9.2)) else ((m_select e9.1 e9.2).bind fun st88 => (rd (st88.2.2.1 2) 2100 e9.1).bind fun x90 => (some (e9.1 + x90)).bind fun y91 => m_selects_l3 a1 n9 (y91, st88))) := rfl
def m_selects_l4 (a1 : Int32) : Nat → (Int32 × MS) → Option (Int32 × MS)
  | 0, _ => none
  | n9 + 1, e9 => (rd (e9.2.2.2.1 2) 2100 a1).bind fun x105 => (some (a1 + x105)).bind fun y106 => if y106 ≤ e9.1 then (some (e9.1, e9.2)) else ((m_select e9.1 e9.2).bind fun st109 => (rd (st109.2.2.1 2) 2100 e9.1).bind fun x111 => (some (e9.1 + x111)).bind fun y112 => m_selects_l4 a1 n9 (y112, st109))
theorem m_selects_l4_s (a1 : Int32) (n9 : Nat) (e9 : Int32 × MS) : m_selects_l4 a1 (n9 + 1) e9 = ((rd (e9.2.2.2.1 2) 2100 a1).bind fun x105 => (some (a1 + x105)).bind fun y106 => if y106 ≤ e9.1 then (some (e9.1, e9.2)) else ((m_select e9.1 e9.2).bind fun st109 => (rd (st109.2.2.1 2) 2100 e9.1).bind fun x111 => (some (e9.1 + x111)).bind fun y112 => m_selects_l4 a1 n9 (y112, st109))) := rfl
def m_selects (a0 : Int32) (a1 : Int32) (st : MS) : Option (MS) := (rd (st.2.2.1 6) 8 a0).bind fun x1 => (if x1 = (0 : Int32) then ((rd (st.2.2.1 1) 2100 a1).bind fun x69 => if x69 = (6 : Int32) then ((rd (st.2.2.2 4) 8 a0).bind fun x135 => (rd (st.2.2.2 5) 8 a0).bind fun x136 => (m_member a1 x135 x136 st).bind fun x137 => (if x137 < (0 : Int32) then (some st) else ((m_select x137 st).bind fun st144 => some st144)).bind fun e141 => some e141) else ((rd (st.2.2.1 6) 8 a0).bind fun x71 => if x71 = (2 : Int32) then ((rd (st.2.2.1 1) 2100 a1).bind fun x92 => if x92 = (5 : Int32) then ((rd (st.2.2.1 7) 8 a0).bind fun x113 => (if (0 : Int32) ≤ x113 then ((rd (st.2.2.1 7) 8 a0).bind fun x129 => some x129) else ((rd (st.2.2.1 7) 8 a0).bind fun x130 => (m_count a1 st).bind fun x131 => (some (x130 + x131)).bind fun y134 => some y134)).bind fun e115 => (if (0 : Int32) ≤ e115 then ((m_element a1 e115 st).bind fun x126 => some x126) else (some ((-1) : Int32))).bind fun e118 => (if e118 < (0 : Int32) then (some st) else ((m_select e118 st).bind fun st124 => some st124)).bind fun e121 => some e121) else ((rd (st.2.2.1 6) 8 a0).bind fun x94 => if x94 = (1 : Int32) then ((rd (st.2.2.1 1) 2100 a1).bind fun x96 => if x96 < (5 : Int32) then (some st) else ((some (a1 + 1)).bind fun y98 => (m_selects_l4 a1 4096 (y98, st)).bind fun e99 => some e99.2)) else (some st))) else ((rd (st.2.2.1 6) 8 a0).bind fun x73 => if x73 = (1 : Int32) then ((rd (st.2.2.1 1) 2100 a1).bind fun x75 => if x75 < (5 : Int32) then (some st) else ((some (a1 + 1)).bind fun y77 => (m_selects_l3 a1 4096 (y77, st)).bind fun e78 => some e78.2)) else (some st)))) else ((rd (st.2.2.1 6) 8 a0).bind fun x5 => if x5 = (2 : Int32) then ((rd (st.2.2.1 1) 2100 a1).bind fun x26 => if x26 = (5 : Int32) then ((rd (st.2.2.1 7) 8 a0).bind fun x47 => (if (0 : Int32) ≤ x47 then ((rd (st.2.2.1 7) 8 a0).bind fun x63 => some x63) else ((rd (st.2.2.1 7) 8 a0).bind fun x64 => (m_count a1 st).bind fun x65 => (some (x64 + x65)).bind fun y68 => some y68)).bind fun e49 => (if (0 : Int32) ≤ e49 then ((m_element a1 e49 st).bind fun x60 => some x60) else (some ((-1) : Int32))).bind fun e52 => (if e52 < (0 : Int32) then (some st) else ((m_select e52 st).bind fun st58 => some st58)).bind fun e55 => some e55) else ((rd (st.2.2.1 6) 8 a0).bind fun x28 => if x28 = (1 : Int32) then ((rd (st.2.2.1 1) 2100 a1).bind fun x30 => if x30 < (5 : Int32) then (some st) else ((some (a1 + 1)).bind fun y32 => (m_selects_l2 a1 4096 (y32, st)).bind fun e33 => some e33.2)) else (some st))) else ((rd (st.2.2.1 6) 8 a0).bind fun x7 => if x7 = (1 : Int32) then ((rd (st.2.2.1 1) 2100 a1).bind fun x9 => if x9 < (5 : Int32) then (some st) else ((some (a1 + 1)).bind fun y11 => (m_selects_l1 a1 4096 (y11, st)).bind fun e12 => some e12.2)) else (some st)))).bind fun e3 => some e3
set_option maxHeartbeats 4000000 in
set_option maxRecDepth 100000 in
theorem cm_selects (l : Launch) (G : Gk) (Zd : Nat → Nat) (q : Nat → Nat) (a0 : Int32) (a1 : Int32) (st : MS) (st0 : MS) (hm : m_selects a0 a1 st = some st0) (sz : Nat) : Met l y15_74 (Cond.code y15_74 prog_15_method_74_code 5 none :: TB) (rmD 1 0 0) (va_Pc [.ref (q 0), .int a0, .int a1] (pcW G Zd (wMs q G.2 st) sz)) (qV G (fun (_ : Unit) => True) (fun _ => (wMs q G.2 st0)) (va_A (wMs q G.2 st) sz)) 0 0 (va_A (wMs q G.2 st) sz) := by
  refine go (y := y15_74) (cc := prog_15_method_74_code) (maxL := 5) (ret := none) (av := [.ref (q 0), .int a0, .int a1]) (Qc := qV G (fun (_ : Unit) => True) (fun _ => (wMs q G.2 st0))) "PagedValuesModel" rfl (by decide) (Nat.le_of_ble_eq_true rfl) ?_
  intro p e s m below meth c ls A hx hb hr hlk hml hown hts hin hl hP hD hK hS hA hZ
  have hl : lv_has ls 5 [(0, .ref (q 0)), (1, .int a0), (2, .int a1)] := hl
  have h := hm
  clear hm
  refine lv_aload_n hx hb d15_74_0 rfl (lv_at hl 0 rfl) ?_
  refine va_get (D := G.1) (ci := 13) (v := .ref (q 11)) (C := r_13) (T := f_13) (N := 42) (ref := "PagedValuesModel") hx hb hts (fun w h => List.mem_cons_of_mem _ (ly_13 w h)) hown hK hP 0 rfl rfl 19 (by decide) (hts _ (List.mem_cons_of_mem _ k1170)) (fun _ h9 => h9) rfl d15_74_1 ?_
  refine lv_iload_n hx hb d15_74_4 rfl (lv_at hl 1 rfl) ?_
  obtain ⟨x1, hr, h⟩ := ob h
  obtain ⟨hi, hv⟩ := rd_some hr
  refine va_iald (D := G.1) hx hb hK hP 11 1 rfl rfl (i := a0) hi d15_74_5 ?_
  refine lv_topi (fun y9 ey => ?_)
  have e9 := ey.trans hv
  clear ey
  subst y9
  clear hv hi hr
  obtain ⟨e3, hX, h⟩ := ob h
  have hj : ∀ (H : Heap) (locs : List Loc) (ls : Array Slot), lv_has ls 5 [(0, .ref (q 0)), (1, .int a0), (2, .int a1)] → va_P G.1 vwCl (wMs q G.2 e3) H → va_D A (wMs q G.2 e3) → va_S A s.heap H locs → W p l e (rmD 1 0 0) s m ([.ref (q 0), .int a0, .int a1] : List Value).toArray below meth c H locs 0 0 (MQ below (qV G (fun (_ : Unit) => True) (fun _ => (wMs q G.2 st0)) A) ([.ref (q 0), .int a0, .int a1] : List Value).toArray s 0 0 A) (F0 m 184 ls []) := by
    intro H locs ls hl hP hD hS
    cases h
    exact fin_v hx hb hr hlk hS () trivial hP hD (Nat.le_of_ble_eq_true rfl) (Nat.le_of_ble_eq_true rfl) d15_74_184
  clear h
  refine lv_if_ne (tgt := 50) hx hb d15_74_6 rfl (fun c2 => ?_) (fun c2 => ?_)
  ·
    replace h := (if_neg c2).symm.trans hX
    refine lv_aload_n hx hb d15_74_50 rfl (lv_at hl 0 rfl) ?_
    refine va_get (D := G.1) (ci := 13) (v := .ref (q 11)) (C := r_13) (T := f_13) (N := 42) (ref := "PagedValuesModel") hx hb hts (fun w h => List.mem_cons_of_mem _ (ly_13 w h)) hown hK hP 0 rfl rfl 19 (by decide) (hts _ (List.mem_cons_of_mem _ k1170)) (fun _ h9 => h9) rfl d15_74_51 ?_
    refine lv_iload_n hx hb d15_74_54 rfl (lv_at hl 1 rfl) ?_
    obtain ⟨x5, hr, h⟩ := ob h
    obtain ⟨hi, hv⟩ := rd_some hr
    refine va_iald (D := G.1) hx hb hK hP 11 1 rfl rfl (i := a0) hi d15_74_55 ?_
    refine lv_topi (fun y9 ey => ?_)
    have e9 := ey.trans hv
    clear ey
    subst y9
    clear hv hi hr
    refine lv_iconst (v := 2) hx hb d15_74_56 (by decide) ?_
    refine lv_icmp_ne (tgt := 131) hx hb d15_74_57 rfl (fun c6 => ?_) (fun c6 => ?_)
    ·
      replace h := (if_neg c6).symm.trans h
      refine lv_aload_n hx hb d15_74_131 rfl (lv_at hl 0 rfl) ?_
      refine va_get (D := G.1) (ci := 13) (v := .ref (q 11)) (C := r_13) (T := f_13) (N := 42) (ref := "PagedValuesModel") hx hb hts (fun w h => List.mem_cons_of_mem _ (ly_13 w h)) hown hK hP 0 rfl rfl 19 (by decide) (hts _ (List.mem_cons_of_mem _ k1170)) (fun _ h9 => h9) rfl d15_74_132 ?_
      refine lv_iload_n hx hb d15_74_135 rfl (lv_at hl 1 rfl) ?_
      obtain ⟨x7, hr, h⟩ := ob h
      obtain ⟨hi, hv⟩ := rd_some hr
      refine va_iald (D := G.1) hx hb hK hP 11 1 rfl rfl (i := a0) hi d15_74_136 ?_
      refine lv_topi (fun y9 ey => ?_)
      have e9 := ey.trans hv
      clear ey
      subst y9
      clear hv hi hr
      refine lv_iconst (v := 1) hx hb d15_74_137 (by decide) ?_
      refine lv_icmp_ne (tgt := 184) hx hb d15_74_138 rfl (fun c8 => ?_) (fun c8 => ?_)
      ·
        replace h := (if_neg c8).symm.trans h
        have e9 := Option.some.inj h
        subst e3
        have hl := lv_sub hl (l' := [(0, .ref (q 0)), (1, .int a0), (2, .int a1)]) [0, 1, 2] rfl
        exact hj _ _ _ hl hP hD hS
      ·
        replace h := (if_pos c8).symm.trans h
        refine lv_aload_n hx hb d15_74_141 rfl (lv_at hl 0 rfl) ?_
        refine va_get (D := G.1) (ci := 13) (v := .ref (q 2)) (C := r_13) (T := f_13) (N := 42) (ref := "PagedValuesModel") hx hb hts (fun w h => List.mem_cons_of_mem _ (ly_13 w h)) hown hK hP 0 rfl rfl 4 (by decide) (hts _ (List.mem_cons_of_mem _ k1155)) (fun _ h9 => h9) rfl d15_74_142 ?_
        refine lv_iload_n hx hb d15_74_145 rfl (lv_at hl 2 rfl) ?_
        obtain ⟨x9, hr, h⟩ := ob h
        obtain ⟨hi, hv⟩ := rd_some hr
        refine va_bald (D := G.1) hx hb hK hP 2 2 rfl rfl (i := a1) hi d15_74_146 ?_
        refine lv_topi (fun y9 ey => ?_)
        have e9 := ey.trans hv
        clear ey
        subst y9
        clear hv hi hr
        refine lv_iconst (v := 5) hx hb d15_74_147 (by decide) ?_
        refine lv_icmp_lt (tgt := 184) hx hb d15_74_148 rfl (fun c10 => ?_) (fun c10 => ?_)
        ·
          replace h := (if_pos c10).symm.trans h
          have e9 := Option.some.inj h
          subst e3
          have hl := lv_sub hl (l' := [(0, .ref (q 0)), (1, .int a0), (2, .int a1)]) [0, 1, 2] rfl
          exact hj _ _ _ hl hP hD hS
        ·
          replace h := (if_neg c10).symm.trans h
          refine lv_iload_n hx hb d15_74_151 rfl (lv_at hl 2 rfl) ?_
          refine lv_iconst (v := 1) hx hb d15_74_152 (by decide) ?_
          refine lv_iadd hx hb d15_74_153 ?_
          obtain ⟨y11, hr, h⟩ := ob h
          refine lv_topi (fun y9 ey => ?_)
          have e9 := ey.trans (Option.some.inj hr)
          clear ey
          subst y9
          clear hr
          refine lv_istore_n (lv' := [(3, .int y11), (0, .ref (q 0)), (1, .int a0), (2, .int a1)]) hx hb d15_74_154 rfl hl (by decide) rfl (fun ls hl => ?_)
          obtain ⟨e12, hX, hrest⟩ := ob h
          clear h
          have hj : ∀ (v16 : Int32) (v17 : MS), e12 = (v16, v17) → ∀ (H : Heap) (locs : List Loc) (ls : Array Slot), lv_has ls 5 [(0, .ref (q 0)), (1, .int a0), (2, .int a1), (3, .int v16)] → va_P G.1 vwCl (wMs q G.2 v17) H → va_D A (wMs q G.2 v17) → va_S A s.heap H locs → W p l e (rmD 1 0 0) s m ([.ref (q 0), .int a0, .int a1] : List Value).toArray below meth c H locs 0 0 (MQ below (qV G (fun (_ : Unit) => True) (fun _ => (wMs q G.2 st0)) A) ([.ref (q 0), .int a0, .int a1] : List Value).toArray s 0 0 A) (F0 m 184 ls []) := by
            intro v16 v17 he H locs ls hl hP hD hS
            subst e12
            have h := hrest
            have e9 := Option.some.inj h
            subst e3
            have hl := lv_sub hl (l' := [(0, .ref (q 0)), (1, .int a0), (2, .int a1)]) [0, 1, 2] rfl
            exact hj _ _ _ hl hP hD hS
          have hloop : ∀ (n9 : Nat) (v13 : Int32) (v14 : MS), m_selects_l1 a1 n9 (v13, v14) = some e12 → ∀ (H : Heap) (locs : List Loc) (ls : Array Slot), lv_has ls 5 [(0, .ref (q 0)), (1, .int a0), (2, .int a1), (3, .int v13)] → va_P G.1 vwCl (wMs q G.2 v14) H → va_D A (wMs q G.2 v14) → va_S A s.heap H locs → W p l e (rmD 1 0 0) s m ([.ref (q 0), .int a0, .int a1] : List Value).toArray below meth c H locs 0 0 (MQ below (qV G (fun (_ : Unit) => True) (fun _ => (wMs q G.2 st0)) A) ([.ref (q 0), .int a0, .int a1] : List Value).toArray s 0 0 A) (F0 m 155 ls []) := by
            intro n9
            induction n9 with
            | zero =>
              intro v13 v14 h
              cases h
            | succ n9 ih =>
              intro v13 v14 h H locs ls hl hP hD hS
              replace h := (m_selects_l1_s a1 n9 (v13, v14)).symm.trans h
              refine lv_iload_n hx hb d15_74_155 rfl (lv_at hl 3 rfl) ?_
              refine lv_iload_n hx hb d15_74_156 rfl (lv_at hl 2 rfl) ?_
              refine lv_aload_n hx hb d15_74_157 rfl (lv_at hl 0 rfl) ?_
              refine va_get (D := G.1) (ci := 13) (v := .ref (q 3)) (C := r_13) (T := f_13) (N := 42) (ref := "PagedValuesModel") hx hb hts (fun w h => List.mem_cons_of_mem _ (ly_13 w h)) hown hK hP 0 rfl rfl 5 (by decide) (hts _ (List.mem_cons_of_mem _ k1156)) (fun _ h9 => h9) rfl d15_74_158 ?_
              refine lv_iload_n hx hb d15_74_161 rfl (lv_at hl 2 rfl) ?_
              obtain ⟨x18, hr, h⟩ := ob h
              obtain ⟨hi, hv⟩ := rd_some hr
              refine va_bald (D := G.1) hx hb hK hP 3 2 rfl rfl (i := a1) hi d15_74_162 ?_
              refine lv_topi (fun y9 ey => ?_)
              have e9 := ey.trans hv
              clear ey
              subst y9
              clear hv hi hr
              refine lv_iadd hx hb d15_74_163 ?_
              obtain ⟨y19, hr, h⟩ := ob h
              refine lv_topi (fun y9 ey => ?_)
              have e9 := ey.trans (Option.some.inj hr)
              clear ey
              subst y9
              clear hr
              refine lv_icmp_ge (tgt := 184) hx hb d15_74_164 rfl (fun c20 => ?_) (fun c20 => ?_)
              ·
                replace h := (if_pos c20).symm.trans h
                have e9 := Option.some.inj h
                subst e12
                have hl := lv_sub hl (l' := [(0, .ref (q 0)), (1, .int a0), (2, .int a1), (3, .int v13)]) [0, 1, 2, 3] rfl
                exact hj _ _ rfl _ _ _ hl hP hD hS
              ·
                replace h := (if_neg c20).symm.trans h
                refine lv_aload_n hx hb d15_74_167 rfl (lv_at hl 0 rfl) ?_
                refine lv_iload_n hx hb d15_74_168 rfl (lv_at hl 3 rfl) ?_
                obtain ⟨st22, hc, h⟩ := ob h
                refine sV_v (As := [.int v13]) (rest := []) ⟨hx, hb, hml, hown, hts⟩ (cm_select l G Zd q v13 v14 st22 hc _) (kw_V (n := 1) hts k1589 k1586 k15 k1588 ks97 (by decide +kernel) ⟨Nat.le_of_ble_eq_true rfl, Nat.le_of_ble_eq_true rfl⟩) hP hD hK hS hA hZ (va_recv (ci := 13) (q0 := 0) hK hP rfl rfl) rfl hl.1 rfl (Nat.le_of_ble_eq_true rfl) d15_74_169 ⟨Nat.le_of_ble_eq_true rfl, Nat.le_of_ble_eq_true rfl⟩ (fun u9 H locs hp hP hD hS => ?_)
                clear u9
                clear hp
                clear hc
                refine W.eq (g2 := F0 m 172 ls []) rfl ?_
                have hP : va_P G.1 vwCl (wMs q G.2 st22) H := hP
                have hD : va_D A (wMs q G.2 st22) := hD
                refine lv_iload_n hx hb d15_74_172 rfl (lv_at hl 3 rfl) ?_
                refine lv_aload_n hx hb d15_74_173 rfl (lv_at hl 0 rfl) ?_
                refine va_get (D := G.1) (ci := 13) (v := .ref (q 3)) (C := r_13) (T := f_13) (N := 42) (ref := "PagedValuesModel") hx hb hts (fun w h => List.mem_cons_of_mem _ (ly_13 w h)) hown hK hP 0 rfl rfl 5 (by decide) (hts _ (List.mem_cons_of_mem _ k1156)) (fun _ h9 => h9) rfl d15_74_174 ?_
                refine lv_iload_n hx hb d15_74_177 rfl (lv_at hl 3 rfl) ?_
                obtain ⟨x24, hr, h⟩ := ob h
                obtain ⟨hi, hv⟩ := rd_some hr
                refine va_bald (D := G.1) hx hb hK hP 3 2 rfl rfl (i := v13) hi d15_74_178 ?_
                refine lv_topi (fun y9 ey => ?_)
                have e9 := ey.trans hv
                clear ey
                subst y9
                clear hv hi hr
                refine lv_iadd hx hb d15_74_179 ?_
                obtain ⟨y25, hr, h⟩ := ob h
                refine lv_topi (fun y9 ey => ?_)
                have e9 := ey.trans (Option.some.inj hr)
                clear ey
                subst y9
                clear hr
                refine lv_istore_n (lv' := [(3, .int y25), (0, .ref (q 0)), (1, .int a0), (2, .int a1)]) hx hb d15_74_180 rfl hl (by decide) rfl (fun ls hl => ?_)
                refine lv_goto (tgt := 155) hx hb d15_74_181 rfl ?_
                have hl := lv_sub hl (l' := [(0, .ref (q 0)), (1, .int a0), (2, .int a1), (3, .int y25)]) [1, 2, 3, 0] rfl
                exact ih _ _ h _ _ _ hl hP hD hS
          have hl := lv_sub hl (l' := [(0, .ref (q 0)), (1, .int a0), (2, .int a1), (3, .int y11)]) [1, 2, 3, 0] rfl
          exact hloop _ _ _ hX _ _ _ hl hP hD hS
    ·
      replace h := (if_pos c6).symm.trans h
      refine lv_aload_n hx hb d15_74_60 rfl (lv_at hl 0 rfl) ?_
      refine va_get (D := G.1) (ci := 13) (v := .ref (q 2)) (C := r_13) (T := f_13) (N := 42) (ref := "PagedValuesModel") hx hb hts (fun w h => List.mem_cons_of_mem _ (ly_13 w h)) hown hK hP 0 rfl rfl 4 (by decide) (hts _ (List.mem_cons_of_mem _ k1155)) (fun _ h9 => h9) rfl d15_74_61 ?_
      refine lv_iload_n hx hb d15_74_64 rfl (lv_at hl 2 rfl) ?_
      obtain ⟨x26, hr, h⟩ := ob h
      obtain ⟨hi, hv⟩ := rd_some hr
      refine va_bald (D := G.1) hx hb hK hP 2 2 rfl rfl (i := a1) hi d15_74_65 ?_
      refine lv_topi (fun y9 ey => ?_)
      have e9 := ey.trans hv
      clear ey
      subst y9
      clear hv hi hr
      refine lv_iconst (v := 5) hx hb d15_74_66 (by decide) ?_
      refine lv_icmp_ne (tgt := 131) hx hb d15_74_67 rfl (fun c27 => ?_) (fun c27 => ?_)
      ·
        replace h := (if_neg c27).symm.trans h
        refine lv_aload_n hx hb d15_74_131 rfl (lv_at hl 0 rfl) ?_
        refine va_get (D := G.1) (ci := 13) (v := .ref (q 11)) (C := r_13) (T := f_13) (N := 42) (ref := "PagedValuesModel") hx hb hts (fun w h => List.mem_cons_of_mem _ (ly_13 w h)) hown hK hP 0 rfl rfl 19 (by decide) (hts _ (List.mem_cons_of_mem _ k1170)) (fun _ h9 => h9) rfl d15_74_132 ?_
        refine lv_iload_n hx hb d15_74_135 rfl (lv_at hl 1 rfl) ?_
        obtain ⟨x28, hr, h⟩ := ob h
        obtain ⟨hi, hv⟩ := rd_some hr
        refine va_iald (D := G.1) hx hb hK hP 11 1 rfl rfl (i := a0) hi d15_74_136 ?_
        refine lv_topi (fun y9 ey => ?_)
        have e9 := ey.trans hv
        clear ey
        subst y9
        clear hv hi hr
        refine lv_iconst (v := 1) hx hb d15_74_137 (by decide) ?_
        refine lv_icmp_ne (tgt := 184) hx hb d15_74_138 rfl (fun c29 => ?_) (fun c29 => ?_)
        ·
          replace h := (if_neg c29).symm.trans h
          have e9 := Option.some.inj h
          subst e3
          have hl := lv_sub hl (l' := [(0, .ref (q 0)), (1, .int a0), (2, .int a1)]) [0, 1, 2] rfl
          exact hj _ _ _ hl hP hD hS
        ·
          replace h := (if_pos c29).symm.trans h
          refine lv_aload_n hx hb d15_74_141 rfl (lv_at hl 0 rfl) ?_
          refine va_get (D := G.1) (ci := 13) (v := .ref (q 2)) (C := r_13) (T := f_13) (N := 42) (ref := "PagedValuesModel") hx hb hts (fun w h => List.mem_cons_of_mem _ (ly_13 w h)) hown hK hP 0 rfl rfl 4 (by decide) (hts _ (List.mem_cons_of_mem _ k1155)) (fun _ h9 => h9) rfl d15_74_142 ?_
          refine lv_iload_n hx hb d15_74_145 rfl (lv_at hl 2 rfl) ?_
          obtain ⟨x30, hr, h⟩ := ob h
          obtain ⟨hi, hv⟩ := rd_some hr
          refine va_bald (D := G.1) hx hb hK hP 2 2 rfl rfl (i := a1) hi d15_74_146 ?_
          refine lv_topi (fun y9 ey => ?_)
          have e9 := ey.trans hv
          clear ey
          subst y9
          clear hv hi hr
          refine lv_iconst (v := 5) hx hb d15_74_147 (by decide) ?_
          refine lv_icmp_lt (tgt := 184) hx hb d15_74_148 rfl (fun c31 => ?_) (fun c31 => ?_)
          ·
            replace h := (if_pos c31).symm.trans h
            have e9 := Option.some.inj h
            subst e3
            have hl := lv_sub hl (l' := [(0, .ref (q 0)), (1, .int a0), (2, .int a1)]) [0, 1, 2] rfl
            exact hj _ _ _ hl hP hD hS
          ·
            replace h := (if_neg c31).symm.trans h
            refine lv_iload_n hx hb d15_74_151 rfl (lv_at hl 2 rfl) ?_
            refine lv_iconst (v := 1) hx hb d15_74_152 (by decide) ?_
            refine lv_iadd hx hb d15_74_153 ?_
            obtain ⟨y32, hr, h⟩ := ob h
            refine lv_topi (fun y9 ey => ?_)
            have e9 := ey.trans (Option.some.inj hr)
            clear ey
            subst y9
            clear hr
            refine lv_istore_n (lv' := [(3, .int y32), (0, .ref (q 0)), (1, .int a0), (2, .int a1)]) hx hb d15_74_154 rfl hl (by decide) rfl (fun ls hl => ?_)
            obtain ⟨e33, hX, hrest⟩ := ob h
            clear h
            have hj : ∀ (v37 : Int32) (v38 : MS), e33 = (v37, v38) → ∀ (H : Heap) (locs : List Loc) (ls : Array Slot), lv_has ls 5 [(0, .ref (q 0)), (1, .int a0), (2, .int a1), (3, .int v37)] → va_P G.1 vwCl (wMs q G.2 v38) H → va_D A (wMs q G.2 v38) → va_S A s.heap H locs → W p l e (rmD 1 0 0) s m ([.ref (q 0), .int a0, .int a1] : List Value).toArray below meth c H locs 0 0 (MQ below (qV G (fun (_ : Unit) => True) (fun _ => (wMs q G.2 st0)) A) ([.ref (q 0), .int a0, .int a1] : List Value).toArray s 0 0 A) (F0 m 184 ls []) := by
              intro v37 v38 he H locs ls hl hP hD hS
              subst e33
              have h := hrest
              have e9 := Option.some.inj h
              subst e3
              have hl := lv_sub hl (l' := [(0, .ref (q 0)), (1, .int a0), (2, .int a1)]) [0, 1, 2] rfl
              exact hj _ _ _ hl hP hD hS
            have hloop : ∀ (n9 : Nat) (v34 : Int32) (v35 : MS), m_selects_l2 a1 n9 (v34, v35) = some e33 → ∀ (H : Heap) (locs : List Loc) (ls : Array Slot), lv_has ls 5 [(0, .ref (q 0)), (1, .int a0), (2, .int a1), (3, .int v34)] → va_P G.1 vwCl (wMs q G.2 v35) H → va_D A (wMs q G.2 v35) → va_S A s.heap H locs → W p l e (rmD 1 0 0) s m ([.ref (q 0), .int a0, .int a1] : List Value).toArray below meth c H locs 0 0 (MQ below (qV G (fun (_ : Unit) => True) (fun _ => (wMs q G.2 st0)) A) ([.ref (q 0), .int a0, .int a1] : List Value).toArray s 0 0 A) (F0 m 155 ls []) := by
              intro n9
              induction n9 with
              | zero =>
                intro v34 v35 h
                cases h
              | succ n9 ih =>
                intro v34 v35 h H locs ls hl hP hD hS
                replace h := (m_selects_l2_s a1 n9 (v34, v35)).symm.trans h
                refine lv_iload_n hx hb d15_74_155 rfl (lv_at hl 3 rfl) ?_
                refine lv_iload_n hx hb d15_74_156 rfl (lv_at hl 2 rfl) ?_
                refine lv_aload_n hx hb d15_74_157 rfl (lv_at hl 0 rfl) ?_
                refine va_get (D := G.1) (ci := 13) (v := .ref (q 3)) (C := r_13) (T := f_13) (N := 42) (ref := "PagedValuesModel") hx hb hts (fun w h => List.mem_cons_of_mem _ (ly_13 w h)) hown hK hP 0 rfl rfl 5 (by decide) (hts _ (List.mem_cons_of_mem _ k1156)) (fun _ h9 => h9) rfl d15_74_158 ?_
                refine lv_iload_n hx hb d15_74_161 rfl (lv_at hl 2 rfl) ?_
                obtain ⟨x39, hr, h⟩ := ob h
                obtain ⟨hi, hv⟩ := rd_some hr
                refine va_bald (D := G.1) hx hb hK hP 3 2 rfl rfl (i := a1) hi d15_74_162 ?_
                refine lv_topi (fun y9 ey => ?_)
                have e9 := ey.trans hv
                clear ey
                subst y9
                clear hv hi hr
                refine lv_iadd hx hb d15_74_163 ?_
                obtain ⟨y40, hr, h⟩ := ob h
                refine lv_topi (fun y9 ey => ?_)
                have e9 := ey.trans (Option.some.inj hr)
                clear ey
                subst y9
                clear hr
                refine lv_icmp_ge (tgt := 184) hx hb d15_74_164 rfl (fun c41 => ?_) (fun c41 => ?_)
                ·
                  replace h := (if_pos c41).symm.trans h
                  have e9 := Option.some.inj h
                  subst e33
                  have hl := lv_sub hl (l' := [(0, .ref (q 0)), (1, .int a0), (2, .int a1), (3, .int v34)]) [0, 1, 2, 3] rfl
                  exact hj _ _ rfl _ _ _ hl hP hD hS
                ·
                  replace h := (if_neg c41).symm.trans h
                  refine lv_aload_n hx hb d15_74_167 rfl (lv_at hl 0 rfl) ?_
                  refine lv_iload_n hx hb d15_74_168 rfl (lv_at hl 3 rfl) ?_
                  obtain ⟨st43, hc, h⟩ := ob h
                  refine sV_v (As := [.int v34]) (rest := []) ⟨hx, hb, hml, hown, hts⟩ (cm_select l G Zd q v34 v35 st43 hc _) (kw_V (n := 1) hts k1589 k1586 k15 k1588 ks97 (by decide +kernel) ⟨Nat.le_of_ble_eq_true rfl, Nat.le_of_ble_eq_true rfl⟩) hP hD hK hS hA hZ (va_recv (ci := 13) (q0 := 0) hK hP rfl rfl) rfl hl.1 rfl (Nat.le_of_ble_eq_true rfl) d15_74_169 ⟨Nat.le_of_ble_eq_true rfl, Nat.le_of_ble_eq_true rfl⟩ (fun u9 H locs hp hP hD hS => ?_)
                  clear u9
                  clear hp
                  clear hc
                  refine W.eq (g2 := F0 m 172 ls []) rfl ?_
                  have hP : va_P G.1 vwCl (wMs q G.2 st43) H := hP
                  have hD : va_D A (wMs q G.2 st43) := hD
                  refine lv_iload_n hx hb d15_74_172 rfl (lv_at hl 3 rfl) ?_
                  refine lv_aload_n hx hb d15_74_173 rfl (lv_at hl 0 rfl) ?_
                  refine va_get (D := G.1) (ci := 13) (v := .ref (q 3)) (C := r_13) (T := f_13) (N := 42) (ref := "PagedValuesModel") hx hb hts (fun w h => List.mem_cons_of_mem _ (ly_13 w h)) hown hK hP 0 rfl rfl 5 (by decide) (hts _ (List.mem_cons_of_mem _ k1156)) (fun _ h9 => h9) rfl d15_74_174 ?_
                  refine lv_iload_n hx hb d15_74_177 rfl (lv_at hl 3 rfl) ?_
                  obtain ⟨x45, hr, h⟩ := ob h
                  obtain ⟨hi, hv⟩ := rd_some hr
                  refine va_bald (D := G.1) hx hb hK hP 3 2 rfl rfl (i := v34) hi d15_74_178 ?_
                  refine lv_topi (fun y9 ey => ?_)
                  have e9 := ey.trans hv
                  clear ey
                  subst y9
                  clear hv hi hr
                  refine lv_iadd hx hb d15_74_179 ?_
                  obtain ⟨y46, hr, h⟩ := ob h
                  refine lv_topi (fun y9 ey => ?_)
                  have e9 := ey.trans (Option.some.inj hr)
                  clear ey
                  subst y9
                  clear hr
                  refine lv_istore_n (lv' := [(3, .int y46), (0, .ref (q 0)), (1, .int a0), (2, .int a1)]) hx hb d15_74_180 rfl hl (by decide) rfl (fun ls hl => ?_)
                  refine lv_goto (tgt := 155) hx hb d15_74_181 rfl ?_
                  have hl := lv_sub hl (l' := [(0, .ref (q 0)), (1, .int a0), (2, .int a1), (3, .int y46)]) [1, 2, 3, 0] rfl
                  exact ih _ _ h _ _ _ hl hP hD hS
            have hl := lv_sub hl (l' := [(0, .ref (q 0)), (1, .int a0), (2, .int a1), (3, .int y32)]) [1, 2, 3, 0] rfl
            exact hloop _ _ _ hX _ _ _ hl hP hD hS
      ·
        replace h := (if_pos c27).symm.trans h
        refine lv_aload_n hx hb d15_74_70 rfl (lv_at hl 0 rfl) ?_
        refine va_get (D := G.1) (ci := 13) (v := .ref (q 14)) (C := r_13) (T := f_13) (N := 42) (ref := "PagedValuesModel") hx hb hts (fun w h => List.mem_cons_of_mem _ (ly_13 w h)) hown hK hP 0 rfl rfl 22 (by decide) (hts _ (List.mem_cons_of_mem _ k1173)) (fun _ h9 => h9) rfl d15_74_71 ?_
        refine lv_iload_n hx hb d15_74_74 rfl (lv_at hl 1 rfl) ?_
        obtain ⟨x47, hr, h⟩ := ob h
        obtain ⟨hi, hv⟩ := rd_some hr
        refine va_iald (D := G.1) hx hb hK hP 14 1 rfl rfl (i := a0) hi d15_74_75 ?_
        refine lv_topi (fun y9 ey => ?_)
        have e9 := ey.trans hv
        clear ey
        subst y9
        clear hv hi hr
        obtain ⟨e49, hX, h⟩ := ob h
        have hj : ∀ (H : Heap) (locs : List Loc) (ls : Array Slot), lv_has ls 5 [(0, .ref (q 0)), (1, .int a0), (2, .int a1)] → va_P G.1 vwCl (wMs q G.2 st) H → va_D A (wMs q G.2 st) → va_S A s.heap H locs → W p l e (rmD 1 0 0) s m ([.ref (q 0), .int a0, .int a1] : List Value).toArray below meth c H locs 0 0 (MQ below (qV G (fun (_ : Unit) => True) (fun _ => (wMs q G.2 st0)) A) ([.ref (q 0), .int a0, .int a1] : List Value).toArray s 0 0 A) (F0 m 100 ls [.int e49]) := by
          intro H locs ls hl hP hD hS
          refine lv_istore_n (lv' := [(3, .int e49), (0, .ref (q 0)), (1, .int a0), (2, .int a1)]) hx hb d15_74_100 rfl hl (by decide) rfl (fun ls hl => ?_)
          refine lv_iload_n hx hb d15_74_101 rfl (lv_at hl 0 rfl) ?_
          obtain ⟨e52, hX, h⟩ := ob h
          have hj : ∀ (H : Heap) (locs : List Loc) (ls : Array Slot), lv_has ls 5 [(0, .ref (q 0)), (1, .int a0), (2, .int a1), (3, .int e49)] → va_P G.1 vwCl (wMs q G.2 st) H → va_D A (wMs q G.2 st) → va_S A s.heap H locs → W p l e (rmD 1 0 0) s m ([.ref (q 0), .int a0, .int a1] : List Value).toArray below meth c H locs 0 0 (MQ below (qV G (fun (_ : Unit) => True) (fun _ => (wMs q G.2 st0)) A) ([.ref (q 0), .int a0, .int a1] : List Value).toArray s 0 0 A) (F0 m 115 ls [.int e52]) := by
            intro H locs ls hl hP hD hS
            refine lv_istore (lv' := [(4, .int e52), (0, .ref (q 0)), (1, .int a0), (2, .int a1), (3, .int e49)]) hx hb d15_74_115 hl (by decide) rfl (fun ls hl => ?_)
            refine lv_iload hx hb d15_74_117 (lv_at hl 0 rfl) ?_
            obtain ⟨e55, hX, h⟩ := ob h
            have hj : ∀ (H : Heap) (locs : List Loc) (ls : Array Slot), lv_has ls 5 [(0, .ref (q 0)), (1, .int a0), (2, .int a1), (3, .int e49), (4, .int e52)] → va_P G.1 vwCl (wMs q G.2 e55) H → va_D A (wMs q G.2 e55) → va_S A s.heap H locs → W p l e (rmD 1 0 0) s m ([.ref (q 0), .int a0, .int a1] : List Value).toArray below meth c H locs 0 0 (MQ below (qV G (fun (_ : Unit) => True) (fun _ => (wMs q G.2 st0)) A) ([.ref (q 0), .int a0, .int a1] : List Value).toArray s 0 0 A) (F0 m 128 ls []) := by
              intro H locs ls hl hP hD hS
              refine lv_goto (tgt := 184) hx hb d15_74_128 rfl ?_
              have e9 := Option.some.inj h
              subst e3
              have hl := lv_sub hl (l' := [(0, .ref (q 0)), (1, .int a0), (2, .int a1)]) [0, 1, 2] rfl
              exact hj _ _ _ hl hP hD hS
            clear h
            refine lv_if_lt (tgt := 128) hx hb d15_74_119 rfl (fun c54 => ?_) (fun c54 => ?_)
            ·
              replace h := (if_pos c54).symm.trans hX
              have e9 := Option.some.inj h
              subst e55
              have hl := lv_sub hl (l' := [(0, .ref (q 0)), (1, .int a0), (2, .int a1), (3, .int e49), (4, .int e52)]) [1, 2, 3, 4, 0] rfl
              exact hj _ _ _ hl hP hD hS
            ·
              replace h := (if_neg c54).symm.trans hX
              refine lv_aload_n hx hb d15_74_122 rfl (lv_at hl 1 rfl) ?_
              refine lv_iload hx hb d15_74_123 (lv_at hl 0 rfl) ?_
              obtain ⟨st58, hc, h⟩ := ob h
              refine sV_v (As := [.int e52]) (rest := []) ⟨hx, hb, hml, hown, hts⟩ (cm_select l G Zd q e52 st st58 hc _) (kw_V (n := 1) hts k1589 k1586 k15 k1588 ks97 (by decide +kernel) ⟨Nat.le_of_ble_eq_true rfl, Nat.le_of_ble_eq_true rfl⟩) hP hD hK hS hA hZ (va_recv (ci := 13) (q0 := 0) hK hP rfl rfl) rfl hl.1 rfl (Nat.le_of_ble_eq_true rfl) d15_74_125 ⟨Nat.le_of_ble_eq_true rfl, Nat.le_of_ble_eq_true rfl⟩ (fun u9 H locs hp hP hD hS => ?_)
              clear u9
              clear hp
              clear hc
              refine W.eq (g2 := F0 m 128 ls []) rfl ?_
              have hP : va_P G.1 vwCl (wMs q G.2 st58) H := hP
              have hD : va_D A (wMs q G.2 st58) := hD
              have e9 := Option.some.inj h
              subst e55
              have hl := lv_sub hl (l' := [(0, .ref (q 0)), (1, .int a0), (2, .int a1), (3, .int e49), (4, .int e52)]) [1, 2, 3, 4, 0] rfl
              exact hj _ _ _ hl hP hD hS
          clear h
          refine lv_if_ge (tgt := 109) hx hb d15_74_102 rfl (fun c51 => ?_) (fun c51 => ?_)
          ·
            replace h := (if_pos c51).symm.trans hX
            refine lv_aload_n hx hb d15_74_109 rfl (lv_at hl 1 rfl) ?_
            refine lv_iload_n hx hb d15_74_110 rfl (lv_at hl 3 rfl) ?_
            refine lv_iload_n hx hb d15_74_111 rfl (lv_at hl 0 rfl) ?_
            obtain ⟨x60, hc, h⟩ := ob h
            refine sV_i (As := [.int a1, .int e49]) (rest := []) ⟨hx, hb, hml, hown, hts⟩ (cm_element l G Zd q a1 e49 st x60 hc _) (kw_V (n := 2) hts k1483 k1480 k15 k1482 ks74 (by decide +kernel) ⟨Nat.le_of_ble_eq_true rfl, Nat.le_of_ble_eq_true rfl⟩) hP hD hK hS hA hZ (va_recv (ci := 13) (q0 := 0) hK hP rfl rfl) rfl hl.1 rfl (Nat.le_of_ble_eq_true rfl) d15_74_112 ⟨Nat.le_of_ble_eq_true rfl, Nat.le_of_ble_eq_true rfl⟩ (fun rr u9 H locs hp hP hD hS => ?_)
            clear u9
            subst rr
            clear hc
            refine W.eq (g2 := F0 m 115 ls [.int x60]) rfl ?_
            have hP : va_P G.1 vwCl (wMs q G.2 st) H := hP
            have hD : va_D A (wMs q G.2 st) := hD
            have e9 := Option.some.inj h
            subst e52
            have hl := lv_sub hl (l' := [(0, .ref (q 0)), (1, .int a0), (2, .int a1), (3, .int e49)]) [1, 2, 3, 0] rfl
            exact hj _ _ _ hl hP hD hS
          ·
            replace h := (if_neg c51).symm.trans hX
            refine lv_iconst (v := (-1)) hx hb d15_74_105 (by decide) ?_
            refine lv_goto (tgt := 115) hx hb d15_74_106 rfl ?_
            have e9 := Option.some.inj h
            subst e52
            have hl := lv_sub hl (l' := [(0, .ref (q 0)), (1, .int a0), (2, .int a1), (3, .int e49)]) [1, 2, 3, 0] rfl
            exact hj _ _ _ hl hP hD hS
        clear h
        refine lv_if_ge (tgt := 94) hx hb d15_74_76 rfl (fun c48 => ?_) (fun c48 => ?_)
        ·
          replace h := (if_pos c48).symm.trans hX
          refine lv_aload_n hx hb d15_74_94 rfl (lv_at hl 0 rfl) ?_
          refine va_get (D := G.1) (ci := 13) (v := .ref (q 14)) (C := r_13) (T := f_13) (N := 42) (ref := "PagedValuesModel") hx hb hts (fun w h => List.mem_cons_of_mem _ (ly_13 w h)) hown hK hP 0 rfl rfl 22 (by decide) (hts _ (List.mem_cons_of_mem _ k1173)) (fun _ h9 => h9) rfl d15_74_95 ?_
          refine lv_iload_n hx hb d15_74_98 rfl (lv_at hl 1 rfl) ?_
          obtain ⟨x63, hr, h⟩ := ob h
          obtain ⟨hi, hv⟩ := rd_some hr
          refine va_iald (D := G.1) hx hb hK hP 14 1 rfl rfl (i := a0) hi d15_74_99 ?_
          refine lv_topi (fun y9 ey => ?_)
          have e9 := ey.trans hv
          clear ey
          subst y9
          clear hv hi hr
          have e9 := Option.some.inj h
          subst e49
          have hl := lv_sub hl (l' := [(0, .ref (q 0)), (1, .int a0), (2, .int a1)]) [0, 1, 2] rfl
          exact hj _ _ _ hl hP hD hS
        ·
          replace h := (if_neg c48).symm.trans hX
          refine lv_aload_n hx hb d15_74_79 rfl (lv_at hl 0 rfl) ?_
          refine va_get (D := G.1) (ci := 13) (v := .ref (q 14)) (C := r_13) (T := f_13) (N := 42) (ref := "PagedValuesModel") hx hb hts (fun w h => List.mem_cons_of_mem _ (ly_13 w h)) hown hK hP 0 rfl rfl 22 (by decide) (hts _ (List.mem_cons_of_mem _ k1173)) (fun _ h9 => h9) rfl d15_74_80 ?_
          refine lv_iload_n hx hb d15_74_83 rfl (lv_at hl 1 rfl) ?_
          obtain ⟨x64, hr, h⟩ := ob h
          obtain ⟨hi, hv⟩ := rd_some hr
          refine va_iald (D := G.1) hx hb hK hP 14 1 rfl rfl (i := a0) hi d15_74_84 ?_
          refine lv_topi (fun y9 ey => ?_)
          have e9 := ey.trans hv
          clear ey
          subst y9
          clear hv hi hr
          refine lv_aload_n hx hb d15_74_85 rfl (lv_at hl 0 rfl) ?_
          refine lv_iload_n hx hb d15_74_86 rfl (lv_at hl 2 rfl) ?_
          obtain ⟨x65, hc, h⟩ := ob h
          refine sV_i (As := [.int a1]) (rest := [.int x64]) ⟨hx, hb, hml, hown, hts⟩ (cm_count l G Zd q a1 st x65 hc _) (kw_V (n := 1) hts k1510 k1507 k15 k1509 ks80 (by decide +kernel) ⟨Nat.le_of_ble_eq_true rfl, Nat.le_of_ble_eq_true rfl⟩) hP hD hK hS hA hZ (va_recv (ci := 13) (q0 := 0) hK hP rfl rfl) rfl hl.1 rfl (Nat.le_of_ble_eq_true rfl) d15_74_87 ⟨Nat.le_of_ble_eq_true rfl, Nat.le_of_ble_eq_true rfl⟩ (fun rr u9 H locs hp hP hD hS => ?_)
          clear u9
          subst rr
          clear hc
          refine W.eq (g2 := F0 m 90 ls [.int x65, .int x64]) rfl ?_
          have hP : va_P G.1 vwCl (wMs q G.2 st) H := hP
          have hD : va_D A (wMs q G.2 st) := hD
          refine lv_iadd hx hb d15_74_90 ?_
          obtain ⟨y68, hr, h⟩ := ob h
          refine lv_topi (fun y9 ey => ?_)
          have e9 := ey.trans (Option.some.inj hr)
          clear ey
          subst y9
          clear hr
          refine lv_goto (tgt := 100) hx hb d15_74_91 rfl ?_
          have e9 := Option.some.inj h
          subst e49
          have hl := lv_sub hl (l' := [(0, .ref (q 0)), (1, .int a0), (2, .int a1)]) [0, 1, 2] rfl
          exact hj _ _ _ hl hP hD hS
  ·
    replace h := (if_pos c2).symm.trans hX
    refine lv_aload_n hx hb d15_74_9 rfl (lv_at hl 0 rfl) ?_
    refine va_get (D := G.1) (ci := 13) (v := .ref (q 2)) (C := r_13) (T := f_13) (N := 42) (ref := "PagedValuesModel") hx hb hts (fun w h => List.mem_cons_of_mem _ (ly_13 w h)) hown hK hP 0 rfl rfl 4 (by decide) (hts _ (List.mem_cons_of_mem _ k1155)) (fun _ h9 => h9) rfl d15_74_10 ?_
    refine lv_iload_n hx hb d15_74_13 rfl (lv_at hl 2 rfl) ?_
    obtain ⟨x69, hr, h⟩ := ob h
    obtain ⟨hi, hv⟩ := rd_some hr
    refine va_bald (D := G.1) hx hb hK hP 2 2 rfl rfl (i := a1) hi d15_74_14 ?_
    refine lv_topi (fun y9 ey => ?_)
    have e9 := ey.trans hv
    clear ey
    subst y9
    clear hv hi hr
    refine lv_bipush (v := 6) hx hb d15_74_15 (by decide) ?_
    refine lv_icmp_ne (tgt := 50) hx hb d15_74_17 rfl (fun c70 => ?_) (fun c70 => ?_)
    ·
      replace h := (if_neg c70).symm.trans h
      refine lv_aload_n hx hb d15_74_50 rfl (lv_at hl 0 rfl) ?_
      refine va_get (D := G.1) (ci := 13) (v := .ref (q 11)) (C := r_13) (T := f_13) (N := 42) (ref := "PagedValuesModel") hx hb hts (fun w h => List.mem_cons_of_mem _ (ly_13 w h)) hown hK hP 0 rfl rfl 19 (by decide) (hts _ (List.mem_cons_of_mem _ k1170)) (fun _ h9 => h9) rfl d15_74_51 ?_
      refine lv_iload_n hx hb d15_74_54 rfl (lv_at hl 1 rfl) ?_
      obtain ⟨x71, hr, h⟩ := ob h
      obtain ⟨hi, hv⟩ := rd_some hr
      refine va_iald (D := G.1) hx hb hK hP 11 1 rfl rfl (i := a0) hi d15_74_55 ?_
      refine lv_topi (fun y9 ey => ?_)
      have e9 := ey.trans hv
      clear ey
      subst y9
      clear hv hi hr
      refine lv_iconst (v := 2) hx hb d15_74_56 (by decide) ?_
      refine lv_icmp_ne (tgt := 131) hx hb d15_74_57 rfl (fun c72 => ?_) (fun c72 => ?_)
      ·
        replace h := (if_neg c72).symm.trans h
        refine lv_aload_n hx hb d15_74_131 rfl (lv_at hl 0 rfl) ?_
        refine va_get (D := G.1) (ci := 13) (v := .ref (q 11)) (C := r_13) (T := f_13) (N := 42) (ref := "PagedValuesModel") hx hb hts (fun w h => List.mem_cons_of_mem _ (ly_13 w h)) hown hK hP 0 rfl rfl 19 (by decide) (hts _ (List.mem_cons_of_mem _ k1170)) (fun _ h9 => h9) rfl d15_74_132 ?_
        refine lv_iload_n hx hb d15_74_135 rfl (lv_at hl 1 rfl) ?_
        obtain ⟨x73, hr, h⟩ := ob h
        obtain ⟨hi, hv⟩ := rd_some hr
        refine va_iald (D := G.1) hx hb hK hP 11 1 rfl rfl (i := a0) hi d15_74_136 ?_
        refine lv_topi (fun y9 ey => ?_)
        have e9 := ey.trans hv
        clear ey
        subst y9
        clear hv hi hr
        refine lv_iconst (v := 1) hx hb d15_74_137 (by decide) ?_
        refine lv_icmp_ne (tgt := 184) hx hb d15_74_138 rfl (fun c74 => ?_) (fun c74 => ?_)
        ·
          replace h := (if_neg c74).symm.trans h
          have e9 := Option.some.inj h
          subst e3
          have hl := lv_sub hl (l' := [(0, .ref (q 0)), (1, .int a0), (2, .int a1)]) [0, 1, 2] rfl
          exact hj _ _ _ hl hP hD hS
        ·
          replace h := (if_pos c74).symm.trans h
          refine lv_aload_n hx hb d15_74_141 rfl (lv_at hl 0 rfl) ?_
          refine va_get (D := G.1) (ci := 13) (v := .ref (q 2)) (C := r_13) (T := f_13) (N := 42) (ref := "PagedValuesModel") hx hb hts (fun w h => List.mem_cons_of_mem _ (ly_13 w h)) hown hK hP 0 rfl rfl 4 (by decide) (hts _ (List.mem_cons_of_mem _ k1155)) (fun _ h9 => h9) rfl d15_74_142 ?_
          refine lv_iload_n hx hb d15_74_145 rfl (lv_at hl 2 rfl) ?_
          obtain ⟨x75, hr, h⟩ := ob h
          obtain ⟨hi, hv⟩ := rd_some hr
          refine va_bald (D := G.1) hx hb hK hP 2 2 rfl rfl (i := a1) hi d15_74_146 ?_
          refine lv_topi (fun y9 ey => ?_)
          have e9 := ey.trans hv
          clear ey
          subst y9
          clear hv hi hr
          refine lv_iconst (v := 5) hx hb d15_74_147 (by decide) ?_
          refine lv_icmp_lt (tgt := 184) hx hb d15_74_148 rfl (fun c76 => ?_) (fun c76 => ?_)
          ·
            replace h := (if_pos c76).symm.trans h
            have e9 := Option.some.inj h
            subst e3
            have hl := lv_sub hl (l' := [(0, .ref (q 0)), (1, .int a0), (2, .int a1)]) [0, 1, 2] rfl
            exact hj _ _ _ hl hP hD hS
          ·
            replace h := (if_neg c76).symm.trans h
            refine lv_iload_n hx hb d15_74_151 rfl (lv_at hl 2 rfl) ?_
            refine lv_iconst (v := 1) hx hb d15_74_152 (by decide) ?_
            refine lv_iadd hx hb d15_74_153 ?_
            obtain ⟨y77, hr, h⟩ := ob h
            refine lv_topi (fun y9 ey => ?_)
            have e9 := ey.trans (Option.some.inj hr)
            clear ey
            subst y9
            clear hr
            refine lv_istore_n (lv' := [(3, .int y77), (0, .ref (q 0)), (1, .int a0), (2, .int a1)]) hx hb d15_74_154 rfl hl (by decide) rfl (fun ls hl => ?_)
            obtain ⟨e78, hX, hrest⟩ := ob h
            clear h
            have hj : ∀ (v82 : Int32) (v83 : MS), e78 = (v82, v83) → ∀ (H : Heap) (locs : List Loc) (ls : Array Slot), lv_has ls 5 [(0, .ref (q 0)), (1, .int a0), (2, .int a1), (3, .int v82)] → va_P G.1 vwCl (wMs q G.2 v83) H → va_D A (wMs q G.2 v83) → va_S A s.heap H locs → W p l e (rmD 1 0 0) s m ([.ref (q 0), .int a0, .int a1] : List Value).toArray below meth c H locs 0 0 (MQ below (qV G (fun (_ : Unit) => True) (fun _ => (wMs q G.2 st0)) A) ([.ref (q 0), .int a0, .int a1] : List Value).toArray s 0 0 A) (F0 m 184 ls []) := by
              intro v82 v83 he H locs ls hl hP hD hS
              subst e78
              have h := hrest
              have e9 := Option.some.inj h
              subst e3
              have hl := lv_sub hl (l' := [(0, .ref (q 0)), (1, .int a0), (2, .int a1)]) [0, 1, 2] rfl
              exact hj _ _ _ hl hP hD hS
            have hloop : ∀ (n9 : Nat) (v79 : Int32) (v80 : MS), m_selects_l3 a1 n9 (v79, v80) = some e78 → ∀ (H : Heap) (locs : List Loc) (ls : Array Slot), lv_has ls 5 [(0, .ref (q 0)), (1, .int a0), (2, .int a1), (3, .int v79)] → va_P G.1 vwCl (wMs q G.2 v80) H → va_D A (wMs q G.2 v80) → va_S A s.heap H locs → W p l e (rmD 1 0 0) s m ([.ref (q 0), .int a0, .int a1] : List Value).toArray below meth c H locs 0 0 (MQ below (qV G (fun (_ : Unit) => True) (fun _ => (wMs q G.2 st0)) A) ([.ref (q 0), .int a0, .int a1] : List Value).toArray s 0 0 A) (F0 m 155 ls []) := by
              intro n9
              induction n9 with
              | zero =>
                intro v79 v80 h
                cases h
              | succ n9 ih =>
                intro v79 v80 h H locs ls hl hP hD hS
                replace h := (m_selects_l3_s a1 n9 (v79, v80)).symm.trans h
                refine lv_iload_n hx hb d15_74_155 rfl (lv_at hl 3 rfl) ?_
                refine lv_iload_n hx hb d15_74_156 rfl (lv_at hl 2 rfl) ?_
                refine lv_aload_n hx hb d15_74_157 rfl (lv_at hl 0 rfl) ?_
                refine va_get (D := G.1) (ci := 13) (v := .ref (q 3)) (C := r_13) (T := f_13) (N := 42) (ref := "PagedValuesModel") hx hb hts (fun w h => List.mem_cons_of_mem _ (ly_13 w h)) hown hK hP 0 rfl rfl 5 (by decide) (hts _ (List.mem_cons_of_mem _ k1156)) (fun _ h9 => h9) rfl d15_74_158 ?_
                refine lv_iload_n hx hb d15_74_161 rfl (lv_at hl 2 rfl) ?_
                obtain ⟨x84, hr, h⟩ := ob h
                obtain ⟨hi, hv⟩ := rd_some hr
                refine va_bald (D := G.1) hx hb hK hP 3 2 rfl rfl (i := a1) hi d15_74_162 ?_
                refine lv_topi (fun y9 ey => ?_)
                have e9 := ey.trans hv
                clear ey
                subst y9
                clear hv hi hr
                refine lv_iadd hx hb d15_74_163 ?_
                obtain ⟨y85, hr, h⟩ := ob h
                refine lv_topi (fun y9 ey => ?_)
                have e9 := ey.trans (Option.some.inj hr)
                clear ey
                subst y9
                clear hr
                refine lv_icmp_ge (tgt := 184) hx hb d15_74_164 rfl (fun c86 => ?_) (fun c86 => ?_)
                ·
                  replace h := (if_pos c86).symm.trans h
                  have e9 := Option.some.inj h
                  subst e78
                  have hl := lv_sub hl (l' := [(0, .ref (q 0)), (1, .int a0), (2, .int a1), (3, .int v79)]) [0, 1, 2, 3] rfl
                  exact hj _ _ rfl _ _ _ hl hP hD hS
                ·
                  replace h := (if_neg c86).symm.trans h
                  refine lv_aload_n hx hb d15_74_167 rfl (lv_at hl 0 rfl) ?_
                  refine lv_iload_n hx hb d15_74_168 rfl (lv_at hl 3 rfl) ?_
                  obtain ⟨st88, hc, h⟩ := ob h
                  refine sV_v (As := [.int v79]) (rest := []) ⟨hx, hb, hml, hown, hts⟩ (cm_select l G Zd q v79 v80 st88 hc _) (kw_V (n := 1) hts k1589 k1586 k15 k1588 ks97 (by decide +kernel) ⟨Nat.le_of_ble_eq_true rfl, Nat.le_of_ble_eq_true rfl⟩) hP hD hK hS hA hZ (va_recv (ci := 13) (q0 := 0) hK hP rfl rfl) rfl hl.1 rfl (Nat.le_of_ble_eq_true rfl) d15_74_169 ⟨Nat.le_of_ble_eq_true rfl, Nat.le_of_ble_eq_true rfl⟩ (fun u9 H locs hp hP hD hS => ?_)
                  clear u9
                  clear hp
                  clear hc
                  refine W.eq (g2 := F0 m 172 ls []) rfl ?_
                  have hP : va_P G.1 vwCl (wMs q G.2 st88) H := hP
                  have hD : va_D A (wMs q G.2 st88) := hD
                  refine lv_iload_n hx hb d15_74_172 rfl (lv_at hl 3 rfl) ?_
                  refine lv_aload_n hx hb d15_74_173 rfl (lv_at hl 0 rfl) ?_
                  refine va_get (D := G.1) (ci := 13) (v := .ref (q 3)) (C := r_13) (T := f_13) (N := 42) (ref := "PagedValuesModel") hx hb hts (fun w h => List.mem_cons_of_mem _ (ly_13 w h)) hown hK hP 0 rfl rfl 5 (by decide) (hts _ (List.mem_cons_of_mem _ k1156)) (fun _ h9 => h9) rfl d15_74_174 ?_
                  refine lv_iload_n hx hb d15_74_177 rfl (lv_at hl 3 rfl) ?_
                  obtain ⟨x90, hr, h⟩ := ob h
                  obtain ⟨hi, hv⟩ := rd_some hr
                  refine va_bald (D := G.1) hx hb hK hP 3 2 rfl rfl (i := v79) hi d15_74_178 ?_
                  refine lv_topi (fun y9 ey => ?_)
                  have e9 := ey.trans hv
                  clear ey
                  subst y9
                  clear hv hi hr
                  refine lv_iadd hx hb d15_74_179 ?_
                  obtain ⟨y91, hr, h⟩ := ob h
                  refine lv_topi (fun y9 ey => ?_)
                  have e9 := ey.trans (Option.some.inj hr)
                  clear ey
                  subst y9
                  clear hr
                  refine lv_istore_n (lv' := [(3, .int y91), (0, .ref (q 0)), (1, .int a0), (2, .int a1)]) hx hb d15_74_180 rfl hl (by decide) rfl (fun ls hl => ?_)
                  refine lv_goto (tgt := 155) hx hb d15_74_181 rfl ?_
                  have hl := lv_sub hl (l' := [(0, .ref (q 0)), (1, .int a0), (2, .int a1), (3, .int y91)]) [1, 2, 3, 0] rfl
                  exact ih _ _ h _ _ _ hl hP hD hS
            have hl := lv_sub hl (l' := [(0, .ref (q 0)), (1, .int a0), (2, .int a1), (3, .int y77)]) [1, 2, 3, 0] rfl
            exact hloop _ _ _ hX _ _ _ hl hP hD hS
      ·
        replace h := (if_pos c72).symm.trans h
        refine lv_aload_n hx hb d15_74_60 rfl (lv_at hl 0 rfl) ?_
        refine va_get (D := G.1) (ci := 13) (v := .ref (q 2)) (C := r_13) (T := f_13) (N := 42) (ref := "PagedValuesModel") hx hb hts (fun w h => List.mem_cons_of_mem _ (ly_13 w h)) hown hK hP 0 rfl rfl 4 (by decide) (hts _ (List.mem_cons_of_mem _ k1155)) (fun _ h9 => h9) rfl d15_74_61 ?_
        refine lv_iload_n hx hb d15_74_64 rfl (lv_at hl 2 rfl) ?_
        obtain ⟨x92, hr, h⟩ := ob h
        obtain ⟨hi, hv⟩ := rd_some hr
        refine va_bald (D := G.1) hx hb hK hP 2 2 rfl rfl (i := a1) hi d15_74_65 ?_
        refine lv_topi (fun y9 ey => ?_)
        have e9 := ey.trans hv
        clear ey
        subst y9
        clear hv hi hr
        refine lv_iconst (v := 5) hx hb d15_74_66 (by decide) ?_
        refine lv_icmp_ne (tgt := 131) hx hb d15_74_67 rfl (fun c93 => ?_) (fun c93 => ?_)
        ·
          replace h := (if_neg c93).symm.trans h
          refine lv_aload_n hx hb d15_74_131 rfl (lv_at hl 0 rfl) ?_
          refine va_get (D := G.1) (ci := 13) (v := .ref (q 11)) (C := r_13) (T := f_13) (N := 42) (ref := "PagedValuesModel") hx hb hts (fun w h => List.mem_cons_of_mem _ (ly_13 w h)) hown hK hP 0 rfl rfl 19 (by decide) (hts _ (List.mem_cons_of_mem _ k1170)) (fun _ h9 => h9) rfl d15_74_132 ?_
          refine lv_iload_n hx hb d15_74_135 rfl (lv_at hl 1 rfl) ?_
          obtain ⟨x94, hr, h⟩ := ob h
          obtain ⟨hi, hv⟩ := rd_some hr
          refine va_iald (D := G.1) hx hb hK hP 11 1 rfl rfl (i := a0) hi d15_74_136 ?_
          refine lv_topi (fun y9 ey => ?_)
          have e9 := ey.trans hv
          clear ey
          subst y9
          clear hv hi hr
          refine lv_iconst (v := 1) hx hb d15_74_137 (by decide) ?_
          refine lv_icmp_ne (tgt := 184) hx hb d15_74_138 rfl (fun c95 => ?_) (fun c95 => ?_)
          ·
            replace h := (if_neg c95).symm.trans h
            have e9 := Option.some.inj h
            subst e3
            have hl := lv_sub hl (l' := [(0, .ref (q 0)), (1, .int a0), (2, .int a1)]) [0, 1, 2] rfl
            exact hj _ _ _ hl hP hD hS
          ·
            replace h := (if_pos c95).symm.trans h
            refine lv_aload_n hx hb d15_74_141 rfl (lv_at hl 0 rfl) ?_
            refine va_get (D := G.1) (ci := 13) (v := .ref (q 2)) (C := r_13) (T := f_13) (N := 42) (ref := "PagedValuesModel") hx hb hts (fun w h => List.mem_cons_of_mem _ (ly_13 w h)) hown hK hP 0 rfl rfl 4 (by decide) (hts _ (List.mem_cons_of_mem _ k1155)) (fun _ h9 => h9) rfl d15_74_142 ?_
            refine lv_iload_n hx hb d15_74_145 rfl (lv_at hl 2 rfl) ?_
            obtain ⟨x96, hr, h⟩ := ob h
            obtain ⟨hi, hv⟩ := rd_some hr
            refine va_bald (D := G.1) hx hb hK hP 2 2 rfl rfl (i := a1) hi d15_74_146 ?_
            refine lv_topi (fun y9 ey => ?_)
            have e9 := ey.trans hv
            clear ey
            subst y9
            clear hv hi hr
            refine lv_iconst (v := 5) hx hb d15_74_147 (by decide) ?_
            refine lv_icmp_lt (tgt := 184) hx hb d15_74_148 rfl (fun c97 => ?_) (fun c97 => ?_)
            ·
              replace h := (if_pos c97).symm.trans h
              have e9 := Option.some.inj h
              subst e3
              have hl := lv_sub hl (l' := [(0, .ref (q 0)), (1, .int a0), (2, .int a1)]) [0, 1, 2] rfl
              exact hj _ _ _ hl hP hD hS
            ·
              replace h := (if_neg c97).symm.trans h
              refine lv_iload_n hx hb d15_74_151 rfl (lv_at hl 2 rfl) ?_
              refine lv_iconst (v := 1) hx hb d15_74_152 (by decide) ?_
              refine lv_iadd hx hb d15_74_153 ?_
              obtain ⟨y98, hr, h⟩ := ob h
              refine lv_topi (fun y9 ey => ?_)
              have e9 := ey.trans (Option.some.inj hr)
              clear ey
              subst y9
              clear hr
              refine lv_istore_n (lv' := [(3, .int y98), (0, .ref (q 0)), (1, .int a0), (2, .int a1)]) hx hb d15_74_154 rfl hl (by decide) rfl (fun ls hl => ?_)
              obtain ⟨e99, hX, hrest⟩ := ob h
              clear h
              have hj : ∀ (v103 : Int32) (v104 : MS), e99 = (v103, v104) → ∀ (H : Heap) (locs : List Loc) (ls : Array Slot), lv_has ls 5 [(0, .ref (q 0)), (1, .int a0), (2, .int a1), (3, .int v103)] → va_P G.1 vwCl (wMs q G.2 v104) H → va_D A (wMs q G.2 v104) → va_S A s.heap H locs → W p l e (rmD 1 0 0) s m ([.ref (q 0), .int a0, .int a1] : List Value).toArray below meth c H locs 0 0 (MQ below (qV G (fun (_ : Unit) => True) (fun _ => (wMs q G.2 st0)) A) ([.ref (q 0), .int a0, .int a1] : List Value).toArray s 0 0 A) (F0 m 184 ls []) := by
                intro v103 v104 he H locs ls hl hP hD hS
                subst e99
                have h := hrest
                have e9 := Option.some.inj h
                subst e3
                have hl := lv_sub hl (l' := [(0, .ref (q 0)), (1, .int a0), (2, .int a1)]) [0, 1, 2] rfl
                exact hj _ _ _ hl hP hD hS
              have hloop : ∀ (n9 : Nat) (v100 : Int32) (v101 : MS), m_selects_l4 a1 n9 (v100, v101) = some e99 → ∀ (H : Heap) (locs : List Loc) (ls : Array Slot), lv_has ls 5 [(0, .ref (q 0)), (1, .int a0), (2, .int a1), (3, .int v100)] → va_P G.1 vwCl (wMs q G.2 v101) H → va_D A (wMs q G.2 v101) → va_S A s.heap H locs → W p l e (rmD 1 0 0) s m ([.ref (q 0), .int a0, .int a1] : List Value).toArray below meth c H locs 0 0 (MQ below (qV G (fun (_ : Unit) => True) (fun _ => (wMs q G.2 st0)) A) ([.ref (q 0), .int a0, .int a1] : List Value).toArray s 0 0 A) (F0 m 155 ls []) := by
                intro n9
                induction n9 with
                | zero =>
                  intro v100 v101 h
                  cases h
                | succ n9 ih =>
                  intro v100 v101 h H locs ls hl hP hD hS
                  replace h := (m_selects_l4_s a1 n9 (v100, v101)).symm.trans h
                  refine lv_iload_n hx hb d15_74_155 rfl (lv_at hl 3 rfl) ?_
                  refine lv_iload_n hx hb d15_74_156 rfl (lv_at hl 2 rfl) ?_
                  refine lv_aload_n hx hb d15_74_157 rfl (lv_at hl 0 rfl) ?_
                  refine va_get (D := G.1) (ci := 13) (v := .ref (q 3)) (C := r_13) (T := f_13) (N := 42) (ref := "PagedValuesModel") hx hb hts (fun w h => List.mem_cons_of_mem _ (ly_13 w h)) hown hK hP 0 rfl rfl 5 (by decide) (hts _ (List.mem_cons_of_mem _ k1156)) (fun _ h9 => h9) rfl d15_74_158 ?_
                  refine lv_iload_n hx hb d15_74_161 rfl (lv_at hl 2 rfl) ?_
                  obtain ⟨x105, hr, h⟩ := ob h
                  obtain ⟨hi, hv⟩ := rd_some hr
                  refine va_bald (D := G.1) hx hb hK hP 3 2 rfl rfl (i := a1) hi d15_74_162 ?_
                  refine lv_topi (fun y9 ey => ?_)
                  have e9 := ey.trans hv
                  clear ey
                  subst y9
                  clear hv hi hr
                  refine lv_iadd hx hb d15_74_163 ?_
                  obtain ⟨y106, hr, h⟩ := ob h
                  refine lv_topi (fun y9 ey => ?_)
                  have e9 := ey.trans (Option.some.inj hr)
                  clear ey
                  subst y9
                  clear hr
                  refine lv_icmp_ge (tgt := 184) hx hb d15_74_164 rfl (fun c107 => ?_) (fun c107 => ?_)
                  ·
                    replace h := (if_pos c107).symm.trans h
                    have e9 := Option.some.inj h
                    subst e99
                    have hl := lv_sub hl (l' := [(0, .ref (q 0)), (1, .int a0), (2, .int a1), (3, .int v100)]) [0, 1, 2, 3] rfl
                    exact hj _ _ rfl _ _ _ hl hP hD hS
                  ·
                    replace h := (if_neg c107).symm.trans h
                    refine lv_aload_n hx hb d15_74_167 rfl (lv_at hl 0 rfl) ?_
                    refine lv_iload_n hx hb d15_74_168 rfl (lv_at hl 3 rfl) ?_
                    obtain ⟨st109, hc, h⟩ := ob h
                    refine sV_v (As := [.int v100]) (rest := []) ⟨hx, hb, hml, hown, hts⟩ (cm_select l G Zd q v100 v101 st109 hc _) (kw_V (n := 1) hts k1589 k1586 k15 k1588 ks97 (by decide +kernel) ⟨Nat.le_of_ble_eq_true rfl, Nat.le_of_ble_eq_true rfl⟩) hP hD hK hS hA hZ (va_recv (ci := 13) (q0 := 0) hK hP rfl rfl) rfl hl.1 rfl (Nat.le_of_ble_eq_true rfl) d15_74_169 ⟨Nat.le_of_ble_eq_true rfl, Nat.le_of_ble_eq_true rfl⟩ (fun u9 H locs hp hP hD hS => ?_)
                    clear u9
                    clear hp
                    clear hc
                    refine W.eq (g2 := F0 m 172 ls []) rfl ?_
                    have hP : va_P G.1 vwCl (wMs q G.2 st109) H := hP
                    have hD : va_D A (wMs q G.2 st109) := hD
                    refine lv_iload_n hx hb d15_74_172 rfl (lv_at hl 3 rfl) ?_
                    refine lv_aload_n hx hb d15_74_173 rfl (lv_at hl 0 rfl) ?_
                    refine va_get (D := G.1) (ci := 13) (v := .ref (q 3)) (C := r_13) (T := f_13) (N := 42) (ref := "PagedValuesModel") hx hb hts (fun w h => List.mem_cons_of_mem _ (ly_13 w h)) hown hK hP 0 rfl rfl 5 (by decide) (hts _ (List.mem_cons_of_mem _ k1156)) (fun _ h9 => h9) rfl d15_74_174 ?_
                    refine lv_iload_n hx hb d15_74_177 rfl (lv_at hl 3 rfl) ?_
                    obtain ⟨x111, hr, h⟩ := ob h
                    obtain ⟨hi, hv⟩ := rd_some hr
                    refine va_bald (D := G.1) hx hb hK hP 3 2 rfl rfl (i := v100) hi d15_74_178 ?_
                    refine lv_topi (fun y9 ey => ?_)
                    have e9 := ey.trans hv
                    clear ey
                    subst y9
                    clear hv hi hr
                    refine lv_iadd hx hb d15_74_179 ?_
                    obtain ⟨y112, hr, h⟩ := ob h
                    refine lv_topi (fun y9 ey => ?_)
                    have e9 := ey.trans (Option.some.inj hr)
                    clear ey
                    subst y9
                    clear hr
                    refine lv_istore_n (lv' := [(3, .int y112), (0, .ref (q 0)), (1, .int a0), (2, .int a1)]) hx hb d15_74_180 rfl hl (by decide) rfl (fun ls hl => ?_)
                    refine lv_goto (tgt := 155) hx hb d15_74_181 rfl ?_
                    have hl := lv_sub hl (l' := [(0, .ref (q 0)), (1, .int a0), (2, .int a1), (3, .int y112)]) [1, 2, 3, 0] rfl
                    exact ih _ _ h _ _ _ hl hP hD hS
              have hl := lv_sub hl (l' := [(0, .ref (q 0)), (1, .int a0), (2, .int a1), (3, .int y98)]) [1, 2, 3, 0] rfl
              exact hloop _ _ _ hX _ _ _ hl hP hD hS
        ·
          replace h := (if_pos c93).symm.trans h
          refine lv_aload_n hx hb d15_74_70 rfl (lv_at hl 0 rfl) ?_
          refine va_get (D := G.1) (ci := 13) (v := .ref (q 14)) (C := r_13) (T := f_13) (N := 42) (ref := "PagedValuesModel") hx hb hts (fun w h => List.mem_cons_of_mem _ (ly_13 w h)) hown hK hP 0 rfl rfl 22 (by decide) (hts _ (List.mem_cons_of_mem _ k1173)) (fun _ h9 => h9) rfl d15_74_71 ?_
          refine lv_iload_n hx hb d15_74_74 rfl (lv_at hl 1 rfl) ?_
          obtain ⟨x113, hr, h⟩ := ob h
          obtain ⟨hi, hv⟩ := rd_some hr
          refine va_iald (D := G.1) hx hb hK hP 14 1 rfl rfl (i := a0) hi d15_74_75 ?_
          refine lv_topi (fun y9 ey => ?_)
          have e9 := ey.trans hv
          clear ey
          subst y9
          clear hv hi hr
          obtain ⟨e115, hX, h⟩ := ob h
          have hj : ∀ (H : Heap) (locs : List Loc) (ls : Array Slot), lv_has ls 5 [(0, .ref (q 0)), (1, .int a0), (2, .int a1)] → va_P G.1 vwCl (wMs q G.2 st) H → va_D A (wMs q G.2 st) → va_S A s.heap H locs → W p l e (rmD 1 0 0) s m ([.ref (q 0), .int a0, .int a1] : List Value).toArray below meth c H locs 0 0 (MQ below (qV G (fun (_ : Unit) => True) (fun _ => (wMs q G.2 st0)) A) ([.ref (q 0), .int a0, .int a1] : List Value).toArray s 0 0 A) (F0 m 100 ls [.int e115]) := by
            intro H locs ls hl hP hD hS
            refine lv_istore_n (lv' := [(3, .int e115), (0, .ref (q 0)), (1, .int a0), (2, .int a1)]) hx hb d15_74_100 rfl hl (by decide) rfl (fun ls hl => ?_)
            refine lv_iload_n hx hb d15_74_101 rfl (lv_at hl 0 rfl) ?_
            obtain ⟨e118, hX, h⟩ := ob h
            have hj : ∀ (H : Heap) (locs : List Loc) (ls : Array Slot), lv_has ls 5 [(0, .ref (q 0)), (1, .int a0), (2, .int a1), (3, .int e115)] → va_P G.1 vwCl (wMs q G.2 st) H → va_D A (wMs q G.2 st) → va_S A s.heap H locs → W p l e (rmD 1 0 0) s m ([.ref (q 0), .int a0, .int a1] : List Value).toArray below meth c H locs 0 0 (MQ below (qV G (fun (_ : Unit) => True) (fun _ => (wMs q G.2 st0)) A) ([.ref (q 0), .int a0, .int a1] : List Value).toArray s 0 0 A) (F0 m 115 ls [.int e118]) := by
              intro H locs ls hl hP hD hS
              refine lv_istore (lv' := [(4, .int e118), (0, .ref (q 0)), (1, .int a0), (2, .int a1), (3, .int e115)]) hx hb d15_74_115 hl (by decide) rfl (fun ls hl => ?_)
              refine lv_iload hx hb d15_74_117 (lv_at hl 0 rfl) ?_
              obtain ⟨e121, hX, h⟩ := ob h
              have hj : ∀ (H : Heap) (locs : List Loc) (ls : Array Slot), lv_has ls 5 [(0, .ref (q 0)), (1, .int a0), (2, .int a1), (3, .int e115), (4, .int e118)] → va_P G.1 vwCl (wMs q G.2 e121) H → va_D A (wMs q G.2 e121) → va_S A s.heap H locs → W p l e (rmD 1 0 0) s m ([.ref (q 0), .int a0, .int a1] : List Value).toArray below meth c H locs 0 0 (MQ below (qV G (fun (_ : Unit) => True) (fun _ => (wMs q G.2 st0)) A) ([.ref (q 0), .int a0, .int a1] : List Value).toArray s 0 0 A) (F0 m 128 ls []) := by
                intro H locs ls hl hP hD hS
                refine lv_goto (tgt := 184) hx hb d15_74_128 rfl ?_
                have e9 := Option.some.inj h
                subst e3
                have hl := lv_sub hl (l' := [(0, .ref (q 0)), (1, .int a0), (2, .int a1)]) [0, 1, 2] rfl
                exact hj _ _ _ hl hP hD hS
              clear h
              refine lv_if_lt (tgt := 128) hx hb d15_74_119 rfl (fun c120 => ?_) (fun c120 => ?_)
              ·
                replace h := (if_pos c120).symm.trans hX
                have e9 := Option.some.inj h
                subst e121
                have hl := lv_sub hl (l' := [(0, .ref (q 0)), (1, .int a0), (2, .int a1), (3, .int e115), (4, .int e118)]) [1, 2, 3, 4, 0] rfl
                exact hj _ _ _ hl hP hD hS
              ·
                replace h := (if_neg c120).symm.trans hX
                refine lv_aload_n hx hb d15_74_122 rfl (lv_at hl 1 rfl) ?_
                refine lv_iload hx hb d15_74_123 (lv_at hl 0 rfl) ?_
                obtain ⟨st124, hc, h⟩ := ob h
                refine sV_v (As := [.int e118]) (rest := []) ⟨hx, hb, hml, hown, hts⟩ (cm_select l G Zd q e118 st st124 hc _) (kw_V (n := 1) hts k1589 k1586 k15 k1588 ks97 (by decide +kernel) ⟨Nat.le_of_ble_eq_true rfl, Nat.le_of_ble_eq_true rfl⟩) hP hD hK hS hA hZ (va_recv (ci := 13) (q0 := 0) hK hP rfl rfl) rfl hl.1 rfl (Nat.le_of_ble_eq_true rfl) d15_74_125 ⟨Nat.le_of_ble_eq_true rfl, Nat.le_of_ble_eq_true rfl⟩ (fun u9 H locs hp hP hD hS => ?_)
                clear u9
                clear hp
                clear hc
                refine W.eq (g2 := F0 m 128 ls []) rfl ?_
                have hP : va_P G.1 vwCl (wMs q G.2 st124) H := hP
                have hD : va_D A (wMs q G.2 st124) := hD
                have e9 := Option.some.inj h
                subst e121
                have hl := lv_sub hl (l' := [(0, .ref (q 0)), (1, .int a0), (2, .int a1), (3, .int e115), (4, .int e118)]) [1, 2, 3, 4, 0] rfl
                exact hj _ _ _ hl hP hD hS
            clear h
            refine lv_if_ge (tgt := 109) hx hb d15_74_102 rfl (fun c117 => ?_) (fun c117 => ?_)
            ·
              replace h := (if_pos c117).symm.trans hX
              refine lv_aload_n hx hb d15_74_109 rfl (lv_at hl 1 rfl) ?_
              refine lv_iload_n hx hb d15_74_110 rfl (lv_at hl 3 rfl) ?_
              refine lv_iload_n hx hb d15_74_111 rfl (lv_at hl 0 rfl) ?_
              obtain ⟨x126, hc, h⟩ := ob h
              refine sV_i (As := [.int a1, .int e115]) (rest := []) ⟨hx, hb, hml, hown, hts⟩ (cm_element l G Zd q a1 e115 st x126 hc _) (kw_V (n := 2) hts k1483 k1480 k15 k1482 ks74 (by decide +kernel) ⟨Nat.le_of_ble_eq_true rfl, Nat.le_of_ble_eq_true rfl⟩) hP hD hK hS hA hZ (va_recv (ci := 13) (q0 := 0) hK hP rfl rfl) rfl hl.1 rfl (Nat.le_of_ble_eq_true rfl) d15_74_112 ⟨Nat.le_of_ble_eq_true rfl, Nat.le_of_ble_eq_true rfl⟩ (fun rr u9 H locs hp hP hD hS => ?_)
              clear u9
              subst rr
              clear hc
              refine W.eq (g2 := F0 m 115 ls [.int x126]) rfl ?_
              have hP : va_P G.1 vwCl (wMs q G.2 st) H := hP
              have hD : va_D A (wMs q G.2 st) := hD
              have e9 := Option.some.inj h
              subst e118
              have hl := lv_sub hl (l' := [(0, .ref (q 0)), (1, .int a0), (2, .int a1), (3, .int e115)]) [1, 2, 3, 0] rfl
              exact hj _ _ _ hl hP hD hS
            ·
              replace h := (if_neg c117).symm.trans hX
              refine lv_iconst (v := (-1)) hx hb d15_74_105 (by decide) ?_
              refine lv_goto (tgt := 115) hx hb d15_74_106 rfl ?_
              have e9 := Option.some.inj h
              subst e118
              have hl := lv_sub hl (l' := [(0, .ref (q 0)), (1, .int a0), (2, .int a1), (3, .int e115)]) [1, 2, 3, 0] rfl
              exact hj _ _ _ hl hP hD hS
          clear h
          refine lv_if_ge (tgt := 94) hx hb d15_74_76 rfl (fun c114 => ?_) (fun c114 => ?_)
          ·
            replace h := (if_pos c114).symm.trans hX
            refine lv_aload_n hx hb d15_74_94 rfl (lv_at hl 0 rfl) ?_
            refine va_get (D := G.1) (ci := 13) (v := .ref (q 14)) (C := r_13) (T := f_13) (N := 42) (ref := "PagedValuesModel") hx hb hts (fun w h => List.mem_cons_of_mem _ (ly_13 w h)) hown hK hP 0 rfl rfl 22 (by decide) (hts _ (List.mem_cons_of_mem _ k1173)) (fun _ h9 => h9) rfl d15_74_95 ?_
            refine lv_iload_n hx hb d15_74_98 rfl (lv_at hl 1 rfl) ?_
            obtain ⟨x129, hr, h⟩ := ob h
            obtain ⟨hi, hv⟩ := rd_some hr
            refine va_iald (D := G.1) hx hb hK hP 14 1 rfl rfl (i := a0) hi d15_74_99 ?_
            refine lv_topi (fun y9 ey => ?_)
            have e9 := ey.trans hv
            clear ey
            subst y9
            clear hv hi hr
            have e9 := Option.some.inj h
            subst e115
            have hl := lv_sub hl (l' := [(0, .ref (q 0)), (1, .int a0), (2, .int a1)]) [0, 1, 2] rfl
            exact hj _ _ _ hl hP hD hS
          ·
            replace h := (if_neg c114).symm.trans hX
            refine lv_aload_n hx hb d15_74_79 rfl (lv_at hl 0 rfl) ?_
            refine va_get (D := G.1) (ci := 13) (v := .ref (q 14)) (C := r_13) (T := f_13) (N := 42) (ref := "PagedValuesModel") hx hb hts (fun w h => List.mem_cons_of_mem _ (ly_13 w h)) hown hK hP 0 rfl rfl 22 (by decide) (hts _ (List.mem_cons_of_mem _ k1173)) (fun _ h9 => h9) rfl d15_74_80 ?_
            refine lv_iload_n hx hb d15_74_83 rfl (lv_at hl 1 rfl) ?_
            obtain ⟨x130, hr, h⟩ := ob h
            obtain ⟨hi, hv⟩ := rd_some hr
            refine va_iald (D := G.1) hx hb hK hP 14 1 rfl rfl (i := a0) hi d15_74_84 ?_
            refine lv_topi (fun y9 ey => ?_)
            have e9 := ey.trans hv
            clear ey
            subst y9
            clear hv hi hr
            refine lv_aload_n hx hb d15_74_85 rfl (lv_at hl 0 rfl) ?_
            refine lv_iload_n hx hb d15_74_86 rfl (lv_at hl 2 rfl) ?_
            obtain ⟨x131, hc, h⟩ := ob h
            refine sV_i (As := [.int a1]) (rest := [.int x130]) ⟨hx, hb, hml, hown, hts⟩ (cm_count l G Zd q a1 st x131 hc _) (kw_V (n := 1) hts k1510 k1507 k15 k1509 ks80 (by decide +kernel) ⟨Nat.le_of_ble_eq_true rfl, Nat.le_of_ble_eq_true rfl⟩) hP hD hK hS hA hZ (va_recv (ci := 13) (q0 := 0) hK hP rfl rfl) rfl hl.1 rfl (Nat.le_of_ble_eq_true rfl) d15_74_87 ⟨Nat.le_of_ble_eq_true rfl, Nat.le_of_ble_eq_true rfl⟩ (fun rr u9 H locs hp hP hD hS => ?_)
            clear u9
            subst rr
            clear hc
            refine W.eq (g2 := F0 m 90 ls [.int x131, .int x130]) rfl ?_
            have hP : va_P G.1 vwCl (wMs q G.2 st) H := hP
            have hD : va_D A (wMs q G.2 st) := hD
            refine lv_iadd hx hb d15_74_90 ?_
            obtain ⟨y134, hr, h⟩ := ob h
            refine lv_topi (fun y9 ey => ?_)
            have e9 := ey.trans (Option.some.inj hr)
            clear ey
            subst y9
            clear hr
            refine lv_goto (tgt := 100) hx hb d15_74_91 rfl ?_
            have e9 := Option.some.inj h
            subst e115
            have hl := lv_sub hl (l' := [(0, .ref (q 0)), (1, .int a0), (2, .int a1)]) [0, 1, 2] rfl
            exact hj _ _ _ hl hP hD hS
    ·
      replace h := (if_pos c70).symm.trans h
      refine lv_aload_n hx hb d15_74_20 rfl (lv_at hl 0 rfl) ?_
      refine lv_iload_n hx hb d15_74_21 rfl (lv_at hl 2 rfl) ?_
      refine lv_aload_n hx hb d15_74_22 rfl (lv_at hl 0 rfl) ?_
      refine va_get (D := G.1) (ci := 13) (v := .ref (q 12)) (C := r_13) (T := f_13) (N := 42) (ref := "PagedValuesModel") hx hb hts (fun w h => List.mem_cons_of_mem _ (ly_13 w h)) hown hK hP 0 rfl rfl 20 (by decide) (hts _ (List.mem_cons_of_mem _ k1171)) (fun _ h9 => h9) rfl d15_74_23 ?_
      refine lv_iload_n hx hb d15_74_26 rfl (lv_at hl 1 rfl) ?_
      obtain ⟨x135, hr, h⟩ := ob h
      obtain ⟨hi, hv⟩ := rd_some hr
      refine va_lald (D := G.1) hx hb hK hP 12 4 rfl rfl (i := a0) hi d15_74_27 ?_
      refine lv_topl (fun y9 ey => ?_)
      have e9 := ey.trans hv
      clear ey
      subst y9
      clear hv hi hr
      refine lv_aload_n hx hb d15_74_28 rfl (lv_at hl 0 rfl) ?_
      refine va_get (D := G.1) (ci := 13) (v := .ref (q 13)) (C := r_13) (T := f_13) (N := 42) (ref := "PagedValuesModel") hx hb hts (fun w h => List.mem_cons_of_mem _ (ly_13 w h)) hown hK hP 0 rfl rfl 21 (by decide) (hts _ (List.mem_cons_of_mem _ k1172)) (fun _ h9 => h9) rfl d15_74_29 ?_
      refine lv_iload_n hx hb d15_74_32 rfl (lv_at hl 1 rfl) ?_
      obtain ⟨x136, hr, h⟩ := ob h
      obtain ⟨hi, hv⟩ := rd_some hr
      refine va_lald (D := G.1) hx hb hK hP 13 4 rfl rfl (i := a0) hi d15_74_33 ?_
      refine lv_topl (fun y9 ey => ?_)
      have e9 := ey.trans hv
      clear ey
      subst y9
      clear hv hi hr
      obtain ⟨x137, hc, h⟩ := ob h
      refine sV_i (As := [.int a1, .long x135, .long x136]) (rest := []) ⟨hx, hb, hml, hown, hts⟩ (cm_member l G Zd q a1 x135 x136 st x137 hc _) (kw_V (n := 3) hts k1388 k1385 k15 k1387 ks55 (by decide +kernel) ⟨Nat.le_of_ble_eq_true rfl, Nat.le_of_ble_eq_true rfl⟩) hP hD hK hS hA hZ (va_recv (ci := 13) (q0 := 0) hK hP rfl rfl) rfl hl.1 rfl (Nat.le_of_ble_eq_true rfl) d15_74_34 ⟨Nat.le_of_ble_eq_true rfl, Nat.le_of_ble_eq_true rfl⟩ (fun rr u9 H locs hp hP hD hS => ?_)
      clear u9
      subst rr
      clear hc
      refine W.eq (g2 := F0 m 37 ls [.int x137]) rfl ?_
      have hP : va_P G.1 vwCl (wMs q G.2 st) H := hP
      have hD : va_D A (wMs q G.2 st) := hD
      refine lv_istore_n (lv' := [(3, .int x137), (0, .ref (q 0)), (1, .int a0), (2, .int a1)]) hx hb d15_74_37 rfl hl (by decide) rfl (fun ls hl => ?_)
      refine lv_iload_n hx hb d15_74_38 rfl (lv_at hl 0 rfl) ?_
      obtain ⟨e141, hX, h⟩ := ob h
      have hj : ∀ (H : Heap) (locs : List Loc) (ls : Array Slot), lv_has ls 5 [(0, .ref (q 0)), (1, .int a0), (2, .int a1), (3, .int x137)] → va_P G.1 vwCl (wMs q G.2 e141) H → va_D A (wMs q G.2 e141) → va_S A s.heap H locs → W p l e (rmD 1 0 0) s m ([.ref (q 0), .int a0, .int a1] : List Value).toArray below meth c H locs 0 0 (MQ below (qV G (fun (_ : Unit) => True) (fun _ => (wMs q G.2 st0)) A) ([.ref (q 0), .int a0, .int a1] : List Value).toArray s 0 0 A) (F0 m 47 ls []) := by
        intro H locs ls hl hP hD hS
        refine lv_goto (tgt := 184) hx hb d15_74_47 rfl ?_
        have e9 := Option.some.inj h
        subst e3
        have hl := lv_sub hl (l' := [(0, .ref (q 0)), (1, .int a0), (2, .int a1)]) [0, 1, 2] rfl
        exact hj _ _ _ hl hP hD hS
      clear h
      refine lv_if_lt (tgt := 47) hx hb d15_74_39 rfl (fun c140 => ?_) (fun c140 => ?_)
      ·
        replace h := (if_pos c140).symm.trans hX
        have e9 := Option.some.inj h
        subst e141
        have hl := lv_sub hl (l' := [(0, .ref (q 0)), (1, .int a0), (2, .int a1), (3, .int x137)]) [1, 2, 3, 0] rfl
        exact hj _ _ _ hl hP hD hS
      ·
        replace h := (if_neg c140).symm.trans hX
        refine lv_aload_n hx hb d15_74_42 rfl (lv_at hl 1 rfl) ?_
        refine lv_iload_n hx hb d15_74_43 rfl (lv_at hl 0 rfl) ?_
        obtain ⟨st144, hc, h⟩ := ob h
        refine sV_v (As := [.int x137]) (rest := []) ⟨hx, hb, hml, hown, hts⟩ (cm_select l G Zd q x137 st st144 hc _) (kw_V (n := 1) hts k1589 k1586 k15 k1588 ks97 (by decide +kernel) ⟨Nat.le_of_ble_eq_true rfl, Nat.le_of_ble_eq_true rfl⟩) hP hD hK hS hA hZ (va_recv (ci := 13) (q0 := 0) hK hP rfl rfl) rfl hl.1 rfl (Nat.le_of_ble_eq_true rfl) d15_74_44 ⟨Nat.le_of_ble_eq_true rfl, Nat.le_of_ble_eq_true rfl⟩ (fun u9 H locs hp hP hD hS => ?_)
        clear u9
        clear hp
        clear hc
        refine W.eq (g2 := F0 m 47 ls []) rfl ?_
        have hP : va_P G.1 vwCl (wMs q G.2 st144) H := hP
        have hD : va_D A (wMs q G.2 st144) := hD
        have e9 := Option.some.inj h
        subst e141
        have hl := lv_sub hl (l' := [(0, .ref (q 0)), (1, .int a0), (2, .int a1), (3, .int x137)]) [1, 2, 3, 0] rfl
        exact hj _ _ _ hl hP hD hS
def m_ask_l2 (a1 : Int32) : Nat → (Int32 × MS) → Option (Int32 × MS)
  | 0, _ => none
  | n9 + 1, e9 => if (e9.2.1 7) ≤ e9.1 then (some (e9.1, e9.2)) else (if (e9.2.1 9) = (0 : Int32) then ((if (e9.2.1 10) = (32 : Int32) then (some (1 : Int32)) else (some (0 : Int32))).bind fun e20 => (bz e20).bind fun _ => (if e20 = (0 : Int32) then ((ix 32 (e9.2.1 10)).bind fun k25z => (rd (e9.2.2.2.1 8) 33 e9.1).bind fun x26 => (some (48 + (e9.2.1 10))).bind fun y27 => (m_at y27).bind fun x28 => (rd (e9.2.2.2.1 8) 33 e9.1).bind fun x31 => (rd (e9.2.2.2.1 2) 2100 x31).bind fun x32 => (m_copy x26 x28 x32 (upd e9.2.1 9 e20, e9.2.2.1, va_up e9.2.2.2.1 10 (upd (e9.2.2.2.1 10) k25z a1), e9.2.2.2.2)).bind fun st34 => (some ((st34.1 10) + 1)).bind fun y36 => some (upd st34.1 10 y36, st34.2.1, st34.2.2.1, st34.2.2.2)) else (some (upd e9.2.1 9 e20, e9.2.2.1, e9.2.2.2.1, e9.2.2.2.2))).bind fun e23 => m_ask_l2 a1 n9 (e9.1 + 1, e23)) else (some (e9.1, e9.2)))
theorem m_ask_l2_s (a1 : Int32) (n9 : Nat) (e9 : Int32 × MS) : m_ask_l2 a1 (n9 + 1) e9 = (if (e9.2.1 7) ≤ e9.1 then (some (e9.1, e9.2)) else (if (e9.2.1 9) = (0 : Int32) then ((if (e9.2.1 10) = (32 : Int32) then (some (1 : Int32)) else (some (0 : Int32))).bind fun e20 => (bz e20).bind fun _ => (if e20 = (0 : Int32) then ((ix 32 (e9.2.1 10)).bind fun k25z => (rd (e9.2.2.2.1 8) 33 e9.1).bind fun x26 => (some (48 + (e9.2.1 10))).bind fun y27 => (m_at y27).bind fun x28 => (rd (e9.2.2.2.1 8) 33 e9.1).bind fun x31 => (rd (e9.2.2.2.1 2) 2100 x31).bind fun x32 => (m_copy x26 x28 x32 (upd e9.2.1 9 e20, e9.2.2.1, va_up e9.2.2.2.1 10 (upd (e9.2.2.2.1 10) k25z a1), e9.2.2.2.2)).bind fun st34 => (some ((st34.1 10) + 1)).bind fun y36 => some (upd st34.1 10 y36, st34.2.1, st34.2.2.1, st34.2.2.2)) else (some (upd e9.2.1 9 e20, e9.2.2.1, e9.2.2.2.1, e9.2.2.2.2))).bind fun e23 => m_ask_l2 a1 n9 (e9.1 + 1, e23)) else (some (e9.1, e9.2)))) := rfl
def m_ask_l4  : Nat → (Int32 × MS) → Option (Int32 × MS)
  | 0, _ => none
  | n9 + 1, e9 => if (e9.2.1 8) ≤ e9.1 then (some (e9.1, e9.2)) else ((rd (e9.2.2.2.1 9) 33 e9.1).bind fun x52 => (ix 33 e9.1).bind fun k53z => m_ask_l4  n9 (e9.1 + 1, (e9.2.1, e9.2.2.1, va_up e9.2.2.2.1 8 (upd (e9.2.2.2.1 8) k53z x52), e9.2.2.2.2)))
theorem m_ask_l4_s  (n9 : Nat) (e9 : Int32 × MS) : m_ask_l4  (n9 + 1) e9 = (if (e9.2.1 8) ≤ e9.1 then (some (e9.1, e9.2)) else ((rd (e9.2.2.2.1 9) 33 e9.1).bind fun x52 => (ix 33 e9.1).bind fun k53z => m_ask_l4  n9 (e9.1 + 1, (e9.2.1, e9.2.2.1, va_up e9.2.2.2.1 8 (upd (e9.2.2.2.1 8) k53z x52), e9.2.2.2.2)))) := rfl
def m_ask_l6 (v6 : Int32) (v61 : Int32) : Nat → (Int32 × MS) → Option (Int32 × MS)
  | 0, _ => none
  | n9 + 1, e9 => (rd (e9.2.2.2.1 5) 8 v6).bind fun x78 => if x78 ≤ e9.1 then (some (e9.1, e9.2)) else ((m_selects e9.1 v61 e9.2).bind fun st81 => m_ask_l6 v6 v61 n9 (e9.1 + 1, st81))
theorem m_ask_l6_s (v6 : Int32) (v61 : Int32) (n9 : Nat) (e9 : Int32 × MS) : m_ask_l6 v6 v61 (n9 + 1) e9 = ((rd (e9.2.2.2.1 5) 8 v6).bind fun x78 => if x78 ≤ e9.1 then (some (e9.1, e9.2)) else ((m_selects e9.1 v61 e9.2).bind fun st81 => m_ask_l6 v6 v61 n9 (e9.1 + 1, st81))) := rfl
def m_ask_l5 (v6 : Int32) (v40 : Int32) (e57 : Int32) : Nat → (Int32 × MS) → Option (Int32 × MS)
  | 0, _ => none
  | n9 + 1, e9 => (rd (e9.2.2.2.1 8) 33 v40).bind fun x66 => (some (x66 + e57)).bind fun y67 => if y67 ≤ e9.1 then (some (e9.1, e9.2)) else ((if v6 = (0 : Int32) then (some (0 : Int32)) else ((some (v6 - 1)).bind fun y83 => (rd (e9.2.2.2.1 5) 8 y83).bind fun x84 => some x84)).bind fun e70 => (m_ask_l6 v6 e9.1 4096 (e70, e9.2)).bind fun e72 => m_ask_l5 v6 v40 e57 n9 (e9.1 + 1, e72.2))
theorem m_ask_l5_s (v6 : Int32) (v40 : Int32) (e57 : Int32) (n9 : Nat) (e9 : Int32 × MS) : m_ask_l5 v6 v40 e57 (n9 + 1) e9 = ((rd (e9.2.2.2.1 8) 33 v40).bind fun x66 => (some (x66 + e57)).bind fun y67 => if y67 ≤ e9.1 then (some (e9.1, e9.2)) else ((if v6 = (0 : Int32) then (some (0 : Int32)) else ((some (v6 - 1)).bind fun y83 => (rd (e9.2.2.2.1 5) 8 y83).bind fun x84 => some x84)).bind fun e70 => (m_ask_l6 v6 e9.1 4096 (e70, e9.2)).bind fun e72 => m_ask_l5 v6 v40 e57 n9 (e9.1 + 1, e72.2))) := rfl
def m_ask_l3 (v6 : Int32) : Nat → (Int32 × MS) → Option (Int32 × MS)
  | 0, _ => none
  | n9 + 1, e9 => if (e9.2.1 7) ≤ e9.1 then (some (e9.1, e9.2)) else ((rd (e9.2.2.2.1 4) 9 v6).bind fun x55 => (if x55 = (0 : Int32) then (some (1 : Int32)) else ((rd (e9.2.2.2.1 8) 33 e9.1).bind fun x85 => (rd (e9.2.2.2.1 2) 2100 x85).bind fun x86 => some x86)).bind fun e57 => (rd (e9.2.2.2.1 8) 33 e9.1).bind fun x59 => (m_ask_l5 v6 e9.1 e57 4096 (x59, e9.2)).bind fun e60 => m_ask_l3 v6 n9 (e9.1 + 1, e60.2))
theorem m_ask_l3_s (v6 : Int32) (n9 : Nat) (e9 : Int32 × MS) : m_ask_l3 v6 (n9 + 1) e9 = (if (e9.2.1 7) ≤ e9.1 then (some (e9.1, e9.2)) else ((rd (e9.2.2.2.1 4) 9 v6).bind fun x55 => (if x55 = (0 : Int32) then (some (1 : Int32)) else ((rd (e9.2.2.2.1 8) 33 e9.1).bind fun x85 => (rd (e9.2.2.2.1 2) 2100 x85).bind fun x86 => some x86)).bind fun e57 => (rd (e9.2.2.2.1 8) 33 e9.1).bind fun x59 => (m_ask_l5 v6 e9.1 e57 4096 (x59, e9.2)).bind fun e60 => m_ask_l3 v6 n9 (e9.1 + 1, e60.2))) := rfl
def m_ask_l1  : Nat → (Int32 × MS) → Option (Int32 × MS)
  | 0, _ => none
  | n9 + 1, e9 => if (e9.2.1 5) ≤ e9.1 then (some (e9.1, e9.2)) else (if (e9.2.1 9) = (0 : Int32) then ((m_ask_l3 e9.1 4096 ((0 : Int32), (upd e9.2.1 8 0, e9.2.2.1, e9.2.2.2.1, e9.2.2.2.2))).bind fun e39 => (m_ask_l4  4096 ((0 : Int32), (upd e39.2.1 7 (e39.2.1 8), e39.2.2.1, e39.2.2.2.1, e39.2.2.2.2))).bind fun e45 => m_ask_l1  n9 (e9.1 + 1, e45.2)) else (some (e9.1, e9.2)))
theorem m_ask_l1_s  (n9 : Nat) (e9 : Int32 × MS) : m_ask_l1  (n9 + 1) e9 = (if (e9.2.1 5) ≤ e9.1 then (some (e9.1, e9.2)) else (if (e9.2.1 9) = (0 : Int32) then ((m_ask_l3 e9.1 4096 ((0 : Int32), (upd e9.2.1 8 0, e9.2.2.1, e9.2.2.2.1, e9.2.2.2.2))).bind fun e39 => (m_ask_l4  4096 ((0 : Int32), (upd e39.2.1 7 (e39.2.1 8), e39.2.2.1, e39.2.2.2.1, e39.2.2.2.2))).bind fun e45 => m_ask_l1  n9 (e9.1 + 1, e45.2)) else (some (e9.1, e9.2)))) := rfl
def m_ask (a0 : Int32) (a1 : Int32) (st : MS) : Option (MS) := (m_at a0).bind fun x1 => (ix 33 (0 : Int32)).bind fun k4z => (m_ask_l1  4096 ((0 : Int32), (upd st.1 7 1, st.2.1, va_up st.2.2.1 8 (upd (st.2.2.1 8) k4z x1), st.2.2.2))).bind fun e5 => (m_ask_l2 a1 4096 ((0 : Int32), e5.2)).bind fun e11 => some e11.2
set_option maxHeartbeats 4000000 in
set_option maxRecDepth 100000 in
theorem cm_ask (l : Launch) (G : Gk) (Zd : Nat → Nat) (q : Nat → Nat) (a0 : Int32) (a1 : Int32) (st : MS) (st0 : MS) (hm : m_ask a0 a1 st = some st0) (sz : Nat) : Met l y15_75 (Cond.code y15_75 prog_15_method_75_code 8 none :: TB) (rmD 2 0 0) (va_Pc [.ref (q 0), .int a0, .int a1] (pcW G Zd (wMs q G.2 st) sz)) (qV G (fun (_ : Unit) => True) (fun _ => (wMs q G.2 st0)) (va_A (wMs q G.2 st) sz)) 0 0 (va_A (wMs q G.2 st) sz) := by
  refine go (y := y15_75) (cc := prog_15_method_75_code) (maxL := 8) (ret := none) (av := [.ref (q 0), .int a0, .int a1]) (Qc := qV G (fun (_ : Unit) => True) (fun _ => (wMs q G.2 st0))) "PagedValuesModel" rfl (by decide) (Nat.le_of_ble_eq_true rfl) ?_
  intro p e s m below meth c ls A hx hb hr hlk hml hown hts hin hl hP hD hK hS hA hZ
  have hl : lv_has ls 8 [(0, .ref (q 0)), (1, .int a0), (2, .int a1)] := hl
  have h := hm
  clear hm
  refine lv_aload_n hx hb d15_75_0 rfl (lv_at hl 0 rfl) ?_
  refine lv_iconst (v := 1) hx hb d15_75_1 (by decide) ?_
  refine va_put (D := G.1) (ci := 13) (v := .int 1) (ty := .int) (C := r_13) (T := f_13) (N := 42) (ref := "PagedValuesModel") hx hb hts (fun w h => List.mem_cons_of_mem _ (ly_13 w h)) ft_13 ft_13_ok nm_13 hown hK hP hD hS 0 rfl rfl 23 (by decide) (hts _ (List.mem_cons_of_mem _ k1174)) (fun _ h9 => h9) rfl (by decide +kernel) rfl rfl (Nat.le_of_ble_eq_true rfl) d15_75_2 (fun H locs hP hD hS => ?_)
  have hP : va_P G.1 vwCl (wMs q G.2 (upd st.1 7 1, st.2.1, st.2.2.1, st.2.2.2)) H := hP
  have hD : va_D A (wMs q G.2 (upd st.1 7 1, st.2.1, st.2.2.1, st.2.2.2)) := hD
  refine lv_aload_n hx hb d15_75_5 rfl (lv_at hl 0 rfl) ?_
  refine va_get (D := G.1) (ci := 13) (v := .ref (q 15)) (C := r_13) (T := f_13) (N := 42) (ref := "PagedValuesModel") hx hb hts (fun w h => List.mem_cons_of_mem _ (ly_13 w h)) hown hK hP 0 rfl rfl 24 (by decide) (hts _ (List.mem_cons_of_mem _ k1175)) (fun _ h9 => h9) rfl d15_75_6 ?_
  refine lv_iconst (v := 0) hx hb d15_75_9 (by decide) ?_
  refine lv_iload_n hx hb d15_75_10 rfl (lv_at hl 1 rfl) ?_
  obtain ⟨x1, hc, h⟩ := ob h
  refine sS_i (As := [.int a0]) (rest := [.int 0, .ref (q 15)]) ⟨hx, hb, hml, hown, hts⟩ (cm_at l G Zd _ a0 x1 hc _) (kw_S (n := 1) hts k1312 k1310 k15 k1311 (by decide +kernel) ⟨Nat.le_of_ble_eq_true rfl, Nat.le_of_ble_eq_true rfl⟩) hP hD hK hS hA hZ rfl hl.1 rfl (Nat.le_of_ble_eq_true rfl) d15_75_11 ⟨Nat.le_of_ble_eq_true rfl, Nat.le_of_ble_eq_true rfl⟩ (fun rr u9 H locs hp hP hD hS => ?_)
  clear u9
  subst rr
  clear hc
  refine W.eq (g2 := F0 m 14 ls [.int x1, .int 0, .ref (q 15)]) rfl ?_
  have hP : va_P G.1 vwCl (wMs q G.2 (upd st.1 7 1, st.2.1, st.2.2.1, st.2.2.2)) H := hP
  have hD : va_D A (wMs q G.2 (upd st.1 7 1, st.2.1, st.2.2.1, st.2.2.2)) := hD
  obtain ⟨k4z, hr, h⟩ := ob h
  obtain ⟨hi, hk⟩ := ix_some hr
  clear hr
  refine va_iast (D := G.1) hx hb hK hP hD hS 15 1 rfl rfl (i := (0 : Int32)) (x := x1) hi d15_75_14 (fun H locs hP hD hS => ?_)
  rw [hk] at hP hD
  clear hk hi
  have hP : va_P G.1 vwCl (wMs q G.2 (upd st.1 7 1, st.2.1, va_up st.2.2.1 8 (upd (st.2.2.1 8) k4z x1), st.2.2.2)) H := hP
  have hD : va_D A (wMs q G.2 (upd st.1 7 1, st.2.1, va_up st.2.2.1 8 (upd (st.2.2.1 8) k4z x1), st.2.2.2)) := hD
  refine lv_iconst (v := 0) hx hb d15_75_15 (by decide) ?_
  refine lv_istore_n (lv' := [(3, .int 0), (0, .ref (q 0)), (1, .int a0), (2, .int a1)]) hx hb d15_75_16 rfl hl (by decide) rfl (fun ls hl => ?_)
  obtain ⟨e5, hX, hrest⟩ := ob h
  clear h
  have hj : ∀ (v9 : Int32) (v10 : MS), e5 = (v9, v10) → ∀ (H : Heap) (locs : List Loc) (ls : Array Slot), lv_has ls 8 [(0, .ref (q 0)), (1, .int a0), (2, .int a1), (3, .int v9)] → va_P G.1 vwCl (wMs q G.2 v10) H → va_D A (wMs q G.2 v10) → va_S A s.heap H locs → W p l e (rmD 2 0 0) s m ([.ref (q 0), .int a0, .int a1] : List Value).toArray below meth c H locs 0 0 (MQ below (qV G (fun (_ : Unit) => True) (fun _ => (wMs q G.2 st0)) A) ([.ref (q 0), .int a0, .int a1] : List Value).toArray s 0 0 A) (F0 m 201 ls []) := by
    intro v9 v10 he H locs ls hl hP hD hS
    subst e5
    have h := hrest
    refine lv_iconst (v := 0) hx hb d15_75_201 (by decide) ?_
    refine lv_istore_n (lv' := [(3, .int 0), (0, .ref (q 0)), (1, .int a0), (2, .int a1)]) hx hb d15_75_202 rfl hl (by decide) rfl (fun ls hl => ?_)
    obtain ⟨e11, hX, hrest⟩ := ob h
    clear h
    have hj : ∀ (v15 : Int32) (v16 : MS), e11 = (v15, v16) → ∀ (H : Heap) (locs : List Loc) (ls : Array Slot), lv_has ls 8 [(0, .ref (q 0)), (1, .int a0), (2, .int a1), (3, .int v15)] → va_P G.1 vwCl (wMs q G.2 v16) H → va_D A (wMs q G.2 v16) → va_S A s.heap H locs → W p l e (rmD 2 0 0) s m ([.ref (q 0), .int a0, .int a1] : List Value).toArray below meth c H locs 0 0 (MQ below (qV G (fun (_ : Unit) => True) (fun _ => (wMs q G.2 st0)) A) ([.ref (q 0), .int a0, .int a1] : List Value).toArray s 0 0 A) (F0 m 300 ls []) := by
      intro v15 v16 he H locs ls hl hP hD hS
      subst e11
      have h := hrest
      cases h
      exact fin_v hx hb hr hlk hS () trivial hP hD (Nat.le_of_ble_eq_true rfl) (Nat.le_of_ble_eq_true rfl) d15_75_300
    have hloop : ∀ (n9 : Nat) (v12 : Int32) (v13 : MS), m_ask_l2 a1 n9 (v12, v13) = some e11 → ∀ (H : Heap) (locs : List Loc) (ls : Array Slot), lv_has ls 8 [(0, .ref (q 0)), (1, .int a0), (2, .int a1), (3, .int v12)] → va_P G.1 vwCl (wMs q G.2 v13) H → va_D A (wMs q G.2 v13) → va_S A s.heap H locs → W p l e (rmD 2 0 0) s m ([.ref (q 0), .int a0, .int a1] : List Value).toArray below meth c H locs 0 0 (MQ below (qV G (fun (_ : Unit) => True) (fun _ => (wMs q G.2 st0)) A) ([.ref (q 0), .int a0, .int a1] : List Value).toArray s 0 0 A) (F0 m 203 ls []) := by
      intro n9
      induction n9 with
      | zero =>
        intro v12 v13 h
        cases h
      | succ n9 ih =>
        intro v12 v13 h H locs ls hl hP hD hS
        replace h := (m_ask_l2_s a1 n9 (v12, v13)).symm.trans h
        refine lv_iload_n hx hb d15_75_203 rfl (lv_at hl 3 rfl) ?_
        refine lv_aload_n hx hb d15_75_204 rfl (lv_at hl 0 rfl) ?_
        refine va_get (D := G.1) (ci := 13) (v := .int (v13.1 7)) (C := r_13) (T := f_13) (N := 42) (ref := "PagedValuesModel") hx hb hts (fun w h => List.mem_cons_of_mem _ (ly_13 w h)) hown hK hP 0 rfl rfl 23 (by decide) (hts _ (List.mem_cons_of_mem _ k1174)) (fun _ h9 => h9) rfl d15_75_205 ?_
        refine lv_icmp_ge (tgt := 300) hx hb d15_75_208 rfl (fun c17 => ?_) (fun c17 => ?_)
        ·
          replace h := (if_pos c17).symm.trans h
          have e9 := Option.some.inj h
          subst e11
          have hl := lv_sub hl (l' := [(0, .ref (q 0)), (1, .int a0), (2, .int a1), (3, .int v12)]) [0, 1, 2, 3] rfl
          exact hj _ _ rfl _ _ _ hl hP hD hS
        ·
          replace h := (if_neg c17).symm.trans h
          refine lv_aload_n hx hb d15_75_211 rfl (lv_at hl 0 rfl) ?_
          refine va_get (D := G.1) (ci := 13) (v := .int (v13.1 9)) (C := r_13) (T := f_13) (N := 42) (ref := "PagedValuesModel") hx hb hts (fun w h => List.mem_cons_of_mem _ (ly_13 w h)) hown hK hP 0 rfl rfl 27 (by decide) (hts _ (List.mem_cons_of_mem _ k1178)) (fun _ h9 => h9) rfl d15_75_212 ?_
          refine lv_if_ne (tgt := 300) hx hb d15_75_215 rfl (fun c18 => ?_) (fun c18 => ?_)
          ·
            replace h := (if_neg c18).symm.trans h
            have e9 := Option.some.inj h
            subst e11
            have hl := lv_sub hl (l' := [(0, .ref (q 0)), (1, .int a0), (2, .int a1), (3, .int v12)]) [0, 1, 2, 3] rfl
            exact hj _ _ rfl _ _ _ hl hP hD hS
          ·
            replace h := (if_pos c18).symm.trans h
            refine lv_aload_n hx hb d15_75_218 rfl (lv_at hl 0 rfl) ?_
            refine lv_aload_n hx hb d15_75_219 rfl (lv_at hl 0 rfl) ?_
            refine va_get (D := G.1) (ci := 13) (v := .int (v13.1 10)) (C := r_13) (T := f_13) (N := 42) (ref := "PagedValuesModel") hx hb hts (fun w h => List.mem_cons_of_mem _ (ly_13 w h)) hown hK hP 0 rfl rfl 28 (by decide) (hts _ (List.mem_cons_of_mem _ k1179)) (fun _ h9 => h9) rfl d15_75_220 ?_
            refine lv_bipush (v := 32) hx hb d15_75_223 (by decide) ?_
            obtain ⟨e20, hX, h⟩ := ob h
            have hj : ∀ (H : Heap) (locs : List Loc) (ls : Array Slot), lv_has ls 8 [(0, .ref (q 0)), (1, .int a0), (2, .int a1), (3, .int v12)] → va_P G.1 vwCl (wMs q G.2 v13) H → va_D A (wMs q G.2 v13) → va_S A s.heap H locs → W p l e (rmD 2 0 0) s m ([.ref (q 0), .int a0, .int a1] : List Value).toArray below meth c H locs 0 0 (MQ below (qV G (fun (_ : Unit) => True) (fun _ => (wMs q G.2 st0)) A) ([.ref (q 0), .int a0, .int a1] : List Value).toArray s 0 0 A) (F0 m 233 ls [.int e20, .ref (q 0)]) := by
              intro H locs ls hl hP hD hS
              obtain ⟨u9, hr, h⟩ := ob h
              have hi := bz_some hr
              clear hr u9
              refine va_put (D := G.1) (ci := 13) (v := .int e20) (ty := .boolean) (C := r_13) (T := f_13) (N := 42) (ref := "PagedValuesModel") hx hb hts (fun w h => List.mem_cons_of_mem _ (ly_13 w h)) ft_13 ft_13_ok nm_13 hown hK hP hD hS 0 rfl rfl 27 (by decide) (hts _ (List.mem_cons_of_mem _ k1178)) (fun _ h9 => h9) rfl (by decide +kernel) (nar01 hi) (fit01 hi) (Nat.le_of_ble_eq_true rfl) d15_75_233 (fun H locs hP hD hS => ?_)
              have hP : va_P G.1 vwCl (wMs q G.2 (upd v13.1 9 e20, v13.2.1, v13.2.2.1, v13.2.2.2)) H := hP
              have hD : va_D A (wMs q G.2 (upd v13.1 9 e20, v13.2.1, v13.2.2.1, v13.2.2.2)) := hD
              refine lv_aload_n hx hb d15_75_236 rfl (lv_at hl 0 rfl) ?_
              refine va_get (D := G.1) (ci := 13) (v := .int e20) (C := r_13) (T := f_13) (N := 42) (ref := "PagedValuesModel") hx hb hts (fun w h => List.mem_cons_of_mem _ (ly_13 w h)) hown hK hP 0 rfl rfl 27 (by decide) (hts _ (List.mem_cons_of_mem _ k1178)) (fun _ h9 => h9) rfl d15_75_237 ?_
              obtain ⟨e23, hX, h⟩ := ob h
              have hj : ∀ (H : Heap) (locs : List Loc) (ls : Array Slot), lv_has ls 8 [(0, .ref (q 0)), (1, .int a0), (2, .int a1), (3, .int v12)] → va_P G.1 vwCl (wMs q G.2 e23) H → va_D A (wMs q G.2 e23) → va_S A s.heap H locs → W p l e (rmD 2 0 0) s m ([.ref (q 0), .int a0, .int a1] : List Value).toArray below meth c H locs 0 0 (MQ below (qV G (fun (_ : Unit) => True) (fun _ => (wMs q G.2 st0)) A) ([.ref (q 0), .int a0, .int a1] : List Value).toArray s 0 0 A) (F0 m 294 ls []) := by
                intro H locs ls hl hP hD hS
                refine lv_iinc (k := 3) (v := v12 + 1) (lv' := [(3, .int (v12 + 1)), (0, .ref (q 0)), (1, .int a0), (2, .int a1)]) hx hb d15_75_294 hl rfl (by first | decide | rfl) (by decide) rfl (fun ls hl => ?_)
                refine lv_goto (tgt := 203) hx hb d15_75_297 rfl ?_
                have hl := lv_sub hl (l' := [(0, .ref (q 0)), (1, .int a0), (2, .int a1), (3, .int (v12 + 1))]) [1, 2, 3, 0] rfl
                exact ih _ _ h _ _ _ hl hP hD hS
              clear h
              refine lv_if_ne (tgt := 294) hx hb d15_75_240 rfl (fun c22 => ?_) (fun c22 => ?_)
              ·
                replace h := (if_neg c22).symm.trans hX
                have e9 := Option.some.inj h
                subst e23
                have hl := lv_sub hl (l' := [(0, .ref (q 0)), (1, .int a0), (2, .int a1), (3, .int v12)]) [0, 1, 2, 3] rfl
                exact hj _ _ _ hl hP hD hS
              ·
                replace h := (if_pos c22).symm.trans hX
                refine lv_aload_n hx hb d15_75_243 rfl (lv_at hl 0 rfl) ?_
                refine va_get (D := G.1) (ci := 13) (v := .ref (q 17)) (C := r_13) (T := f_13) (N := 42) (ref := "PagedValuesModel") hx hb hts (fun w h => List.mem_cons_of_mem _ (ly_13 w h)) hown hK hP 0 rfl rfl 29 (by decide) (hts _ (List.mem_cons_of_mem _ k1180)) (fun _ h9 => h9) rfl d15_75_244 ?_
                refine lv_aload_n hx hb d15_75_247 rfl (lv_at hl 0 rfl) ?_
                refine va_get (D := G.1) (ci := 13) (v := .int (v13.1 10)) (C := r_13) (T := f_13) (N := 42) (ref := "PagedValuesModel") hx hb hts (fun w h => List.mem_cons_of_mem _ (ly_13 w h)) hown hK hP 0 rfl rfl 28 (by decide) (hts _ (List.mem_cons_of_mem _ k1179)) (fun _ h9 => h9) rfl d15_75_248 ?_
                refine lv_iload_n hx hb d15_75_251 rfl (lv_at hl 2 rfl) ?_
                obtain ⟨k25z, hr, h⟩ := ob h
                obtain ⟨hi, hk⟩ := ix_some hr
                clear hr
                refine va_iast (D := G.1) hx hb hK hP hD hS 17 1 rfl rfl (i := v13.1 10) (x := a1) hi d15_75_252 (fun H locs hP hD hS => ?_)
                rw [hk] at hP hD
                clear hk hi
                have hP : va_P G.1 vwCl (wMs q G.2 (upd v13.1 9 e20, v13.2.1, va_up v13.2.2.1 10 (upd (v13.2.2.1 10) k25z a1), v13.2.2.2)) H := hP
                have hD : va_D A (wMs q G.2 (upd v13.1 9 e20, v13.2.1, va_up v13.2.2.1 10 (upd (v13.2.2.1 10) k25z a1), v13.2.2.2)) := hD
                refine lv_aload_n hx hb d15_75_253 rfl (lv_at hl 0 rfl) ?_
                refine lv_aload_n hx hb d15_75_254 rfl (lv_at hl 0 rfl) ?_
                refine va_get (D := G.1) (ci := 13) (v := .ref (q 15)) (C := r_13) (T := f_13) (N := 42) (ref := "PagedValuesModel") hx hb hts (fun w h => List.mem_cons_of_mem _ (ly_13 w h)) hown hK hP 0 rfl rfl 24 (by decide) (hts _ (List.mem_cons_of_mem _ k1175)) (fun _ h9 => h9) rfl d15_75_255 ?_
                refine lv_iload_n hx hb d15_75_258 rfl (lv_at hl 3 rfl) ?_
                obtain ⟨x26, hr, h⟩ := ob h
                obtain ⟨hi, hv⟩ := rd_some hr
                refine va_iald (D := G.1) hx hb hK hP 15 1 rfl rfl (i := v12) hi d15_75_259 ?_
                refine lv_topi (fun y9 ey => ?_)
                have e9 := ey.trans hv
                clear ey
                subst y9
                clear hv hi hr
                refine lv_bipush (v := 48) hx hb d15_75_260 (by decide) ?_
                refine lv_aload_n hx hb d15_75_262 rfl (lv_at hl 0 rfl) ?_
                refine va_get (D := G.1) (ci := 13) (v := .int (v13.1 10)) (C := r_13) (T := f_13) (N := 42) (ref := "PagedValuesModel") hx hb hts (fun w h => List.mem_cons_of_mem _ (ly_13 w h)) hown hK hP 0 rfl rfl 28 (by decide) (hts _ (List.mem_cons_of_mem _ k1179)) (fun _ h9 => h9) rfl d15_75_263 ?_
                refine lv_iadd hx hb d15_75_266 ?_
                obtain ⟨y27, hr, h⟩ := ob h
                refine lv_topi (fun y9 ey => ?_)
                have e9 := ey.trans (Option.some.inj hr)
                clear ey
                subst y9
                clear hr
                obtain ⟨x28, hc, h⟩ := ob h
                refine sS_i (As := [.int y27]) (rest := [.int x26, .ref (q 0)]) ⟨hx, hb, hml, hown, hts⟩ (cm_at l G Zd _ y27 x28 hc _) (kw_S (n := 1) hts k1312 k1310 k15 k1311 (by decide +kernel) ⟨Nat.le_of_ble_eq_true rfl, Nat.le_of_ble_eq_true rfl⟩) hP hD hK hS hA hZ rfl hl.1 rfl (Nat.le_of_ble_eq_true rfl) d15_75_267 ⟨Nat.le_of_ble_eq_true rfl, Nat.le_of_ble_eq_true rfl⟩ (fun rr u9 H locs hp hP hD hS => ?_)
                clear u9
                subst rr
                clear hc
                refine W.eq (g2 := F0 m 270 ls [.int x28, .int x26, .ref (q 0)]) rfl ?_
                have hP : va_P G.1 vwCl (wMs q G.2 (upd v13.1 9 e20, v13.2.1, va_up v13.2.2.1 10 (upd (v13.2.2.1 10) k25z a1), v13.2.2.2)) H := hP
                have hD : va_D A (wMs q G.2 (upd v13.1 9 e20, v13.2.1, va_up v13.2.2.1 10 (upd (v13.2.2.1 10) k25z a1), v13.2.2.2)) := hD
                refine lv_aload_n hx hb d15_75_270 rfl (lv_at hl 0 rfl) ?_
                refine va_get (D := G.1) (ci := 13) (v := .ref (q 3)) (C := r_13) (T := f_13) (N := 42) (ref := "PagedValuesModel") hx hb hts (fun w h => List.mem_cons_of_mem _ (ly_13 w h)) hown hK hP 0 rfl rfl 5 (by decide) (hts _ (List.mem_cons_of_mem _ k1156)) (fun _ h9 => h9) rfl d15_75_271 ?_
                refine lv_aload_n hx hb d15_75_274 rfl (lv_at hl 0 rfl) ?_
                refine va_get (D := G.1) (ci := 13) (v := .ref (q 15)) (C := r_13) (T := f_13) (N := 42) (ref := "PagedValuesModel") hx hb hts (fun w h => List.mem_cons_of_mem _ (ly_13 w h)) hown hK hP 0 rfl rfl 24 (by decide) (hts _ (List.mem_cons_of_mem _ k1175)) (fun _ h9 => h9) rfl d15_75_275 ?_
                refine lv_iload_n hx hb d15_75_278 rfl (lv_at hl 3 rfl) ?_
                obtain ⟨x31, hr, h⟩ := ob h
                obtain ⟨hi, hv⟩ := rd_some hr
                refine va_iald (D := G.1) hx hb hK hP 15 1 rfl rfl (i := v12) hi d15_75_279 ?_
                refine lv_topi (fun y9 ey => ?_)
                have e9 := ey.trans hv
                clear ey
                subst y9
                clear hv hi hr
                obtain ⟨x32, hr, h⟩ := ob h
                obtain ⟨hi, hv⟩ := rd_some hr
                refine va_bald (D := G.1) hx hb hK hP 3 2 rfl rfl (i := x31) hi d15_75_280 ?_
                refine lv_topi (fun y9 ey => ?_)
                have e9 := ey.trans hv
                clear ey
                subst y9
                clear hv hi hr
                obtain ⟨st34, hc, h⟩ := ob h
                refine sV_v (As := [.int x26, .int x28, .int x32]) (rest := []) ⟨hx, hb, hml, hown, hts⟩ (cm_copy l G Zd q x26 x28 x32 (upd v13.1 9 e20, v13.2.1, va_up v13.2.2.1 10 (upd (v13.2.2.1 10) k25z a1), v13.2.2.2) st34 hc _) (kw_V (n := 3) hts k1424 k1421 k15 k1423 ks64 (by decide +kernel) ⟨Nat.le_of_ble_eq_true rfl, Nat.le_of_ble_eq_true rfl⟩) hP hD hK hS hA hZ (va_recv (ci := 13) (q0 := 0) hK hP rfl rfl) rfl hl.1 rfl (Nat.le_of_ble_eq_true rfl) d15_75_281 ⟨Nat.le_of_ble_eq_true rfl, Nat.le_of_ble_eq_true rfl⟩ (fun u9 H locs hp hP hD hS => ?_)
                clear u9
                clear hp
                clear hc
                refine W.eq (g2 := F0 m 284 ls []) rfl ?_
                have hP : va_P G.1 vwCl (wMs q G.2 st34) H := hP
                have hD : va_D A (wMs q G.2 st34) := hD
                refine lv_aload_n hx hb d15_75_284 rfl (lv_at hl 0 rfl) ?_
                refine lv_dup hx hb d15_75_285 rfl ?_
                refine va_get (D := G.1) (ci := 13) (v := .int (st34.1 10)) (C := r_13) (T := f_13) (N := 42) (ref := "PagedValuesModel") hx hb hts (fun w h => List.mem_cons_of_mem _ (ly_13 w h)) hown hK hP 0 rfl rfl 28 (by decide) (hts _ (List.mem_cons_of_mem _ k1179)) (fun _ h9 => h9) rfl d15_75_286 ?_
                refine lv_iconst (v := 1) hx hb d15_75_289 (by decide) ?_
                refine lv_iadd hx hb d15_75_290 ?_
                obtain ⟨y36, hr, h⟩ := ob h
                refine lv_topi (fun y9 ey => ?_)
                have e9 := ey.trans (Option.some.inj hr)
                clear ey
                subst y9
                clear hr
                refine va_put (D := G.1) (ci := 13) (v := .int y36) (ty := .int) (C := r_13) (T := f_13) (N := 42) (ref := "PagedValuesModel") hx hb hts (fun w h => List.mem_cons_of_mem _ (ly_13 w h)) ft_13 ft_13_ok nm_13 hown hK hP hD hS 0 rfl rfl 28 (by decide) (hts _ (List.mem_cons_of_mem _ k1179)) (fun _ h9 => h9) rfl (by decide +kernel) rfl rfl (Nat.le_of_ble_eq_true rfl) d15_75_291 (fun H locs hP hD hS => ?_)
                have hP : va_P G.1 vwCl (wMs q G.2 (upd st34.1 10 y36, st34.2.1, st34.2.2.1, st34.2.2.2)) H := hP
                have hD : va_D A (wMs q G.2 (upd st34.1 10 y36, st34.2.1, st34.2.2.1, st34.2.2.2)) := hD
                have e9 := Option.some.inj h
                subst e23
                have hl := lv_sub hl (l' := [(0, .ref (q 0)), (1, .int a0), (2, .int a1), (3, .int v12)]) [0, 1, 2, 3] rfl
                exact hj _ _ _ hl hP hD hS
            clear h
            refine lv_icmp_ne (tgt := 232) hx hb d15_75_225 rfl (fun c19 => ?_) (fun c19 => ?_)
            ·
              replace h := (if_neg c19).symm.trans hX
              refine lv_iconst (v := 0) hx hb d15_75_232 (by decide) ?_
              have e9 := Option.some.inj h
              subst e20
              have hl := lv_sub hl (l' := [(0, .ref (q 0)), (1, .int a0), (2, .int a1), (3, .int v12)]) [0, 1, 2, 3] rfl
              exact hj _ _ _ hl hP hD hS
            ·
              replace h := (if_pos c19).symm.trans hX
              refine lv_iconst (v := 1) hx hb d15_75_228 (by decide) ?_
              refine lv_goto (tgt := 233) hx hb d15_75_229 rfl ?_
              have e9 := Option.some.inj h
              subst e20
              have hl := lv_sub hl (l' := [(0, .ref (q 0)), (1, .int a0), (2, .int a1), (3, .int v12)]) [0, 1, 2, 3] rfl
              exact hj _ _ _ hl hP hD hS
    have hl := lv_sub hl (l' := [(0, .ref (q 0)), (1, .int a0), (2, .int a1), (3, .int 0)]) [1, 2, 3, 0] rfl
    exact hloop _ _ _ hX _ _ _ hl hP hD hS
  have hloop : ∀ (n9 : Nat) (v6 : Int32) (v7 : MS), m_ask_l1  n9 (v6, v7) = some e5 → ∀ (H : Heap) (locs : List Loc) (ls : Array Slot), lv_has ls 8 [(0, .ref (q 0)), (1, .int a0), (2, .int a1), (3, .int v6)] → va_P G.1 vwCl (wMs q G.2 v7) H → va_D A (wMs q G.2 v7) → va_S A s.heap H locs → W p l e (rmD 2 0 0) s m ([.ref (q 0), .int a0, .int a1] : List Value).toArray below meth c H locs 0 0 (MQ below (qV G (fun (_ : Unit) => True) (fun _ => (wMs q G.2 st0)) A) ([.ref (q 0), .int a0, .int a1] : List Value).toArray s 0 0 A) (F0 m 17 ls []) := by
    intro n9
    induction n9 with
    | zero =>
      intro v6 v7 h
      cases h
    | succ n9 ih =>
      intro v6 v7 h H locs ls hl hP hD hS
      replace h := (m_ask_l1_s  n9 (v6, v7)).symm.trans h
      refine lv_iload_n hx hb d15_75_17 rfl (lv_at hl 3 rfl) ?_
      refine lv_aload_n hx hb d15_75_18 rfl (lv_at hl 0 rfl) ?_
      refine va_get (D := G.1) (ci := 13) (v := .int (v7.1 5)) (C := r_13) (T := f_13) (N := 42) (ref := "PagedValuesModel") hx hb hts (fun w h => List.mem_cons_of_mem _ (ly_13 w h)) hown hK hP 0 rfl rfl 15 (by decide) (hts _ (List.mem_cons_of_mem _ k1166)) (fun _ h9 => h9) rfl d15_75_19 ?_
      refine lv_icmp_ge (tgt := 201) hx hb d15_75_22 rfl (fun c37 => ?_) (fun c37 => ?_)
      ·
        replace h := (if_pos c37).symm.trans h
        have e9 := Option.some.inj h
        subst e5
        have hl := lv_sub hl (l' := [(0, .ref (q 0)), (1, .int a0), (2, .int a1), (3, .int v6)]) [0, 1, 2, 3] rfl
        exact hj _ _ rfl _ _ _ hl hP hD hS
      ·
        replace h := (if_neg c37).symm.trans h
        refine lv_aload_n hx hb d15_75_25 rfl (lv_at hl 0 rfl) ?_
        refine va_get (D := G.1) (ci := 13) (v := .int (v7.1 9)) (C := r_13) (T := f_13) (N := 42) (ref := "PagedValuesModel") hx hb hts (fun w h => List.mem_cons_of_mem _ (ly_13 w h)) hown hK hP 0 rfl rfl 27 (by decide) (hts _ (List.mem_cons_of_mem _ k1178)) (fun _ h9 => h9) rfl d15_75_26 ?_
        refine lv_if_ne (tgt := 201) hx hb d15_75_29 rfl (fun c38 => ?_) (fun c38 => ?_)
        ·
          replace h := (if_neg c38).symm.trans h
          have e9 := Option.some.inj h
          subst e5
          have hl := lv_sub hl (l' := [(0, .ref (q 0)), (1, .int a0), (2, .int a1), (3, .int v6)]) [0, 1, 2, 3] rfl
          exact hj _ _ rfl _ _ _ hl hP hD hS
        ·
          replace h := (if_pos c38).symm.trans h
          refine lv_aload_n hx hb d15_75_32 rfl (lv_at hl 0 rfl) ?_
          refine lv_iconst (v := 0) hx hb d15_75_33 (by decide) ?_
          refine va_put (D := G.1) (ci := 13) (v := .int 0) (ty := .int) (C := r_13) (T := f_13) (N := 42) (ref := "PagedValuesModel") hx hb hts (fun w h => List.mem_cons_of_mem _ (ly_13 w h)) ft_13 ft_13_ok nm_13 hown hK hP hD hS 0 rfl rfl 25 (by decide) (hts _ (List.mem_cons_of_mem _ k1176)) (fun _ h9 => h9) rfl (by decide +kernel) rfl rfl (Nat.le_of_ble_eq_true rfl) d15_75_34 (fun H locs hP hD hS => ?_)
          have hP : va_P G.1 vwCl (wMs q G.2 (upd v7.1 8 0, v7.2.1, v7.2.2.1, v7.2.2.2)) H := hP
          have hD : va_D A (wMs q G.2 (upd v7.1 8 0, v7.2.1, v7.2.2.1, v7.2.2.2)) := hD
          refine lv_iconst (v := 0) hx hb d15_75_37 (by decide) ?_
          refine lv_istore (lv' := [(4, .int 0), (0, .ref (q 0)), (1, .int a0), (2, .int a1), (3, .int v6)]) hx hb d15_75_38 hl (by decide) rfl (fun ls hl => ?_)
          obtain ⟨e39, hX, hrest⟩ := ob h
          clear h
          have hj : ∀ (v43 : Int32) (v44 : MS), e39 = (v43, v44) → ∀ (H : Heap) (locs : List Loc) (ls : Array Slot), lv_has ls 8 [(0, .ref (q 0)), (1, .int a0), (2, .int a1), (3, .int v6), (4, .int v43)] → va_P G.1 vwCl (wMs q G.2 v44) H → va_D A (wMs q G.2 v44) → va_S A s.heap H locs → W p l e (rmD 2 0 0) s m ([.ref (q 0), .int a0, .int a1] : List Value).toArray below meth c H locs 0 0 (MQ below (qV G (fun (_ : Unit) => True) (fun _ => (wMs q G.2 st0)) A) ([.ref (q 0), .int a0, .int a1] : List Value).toArray s 0 0 A) (F0 m 155 ls []) := by
            intro v43 v44 he H locs ls hl hP hD hS
            subst e39
            have h := hrest
            refine lv_aload_n hx hb d15_75_155 rfl (lv_at hl 0 rfl) ?_
            refine lv_aload_n hx hb d15_75_156 rfl (lv_at hl 0 rfl) ?_
            refine va_get (D := G.1) (ci := 13) (v := .int (v44.1 8)) (C := r_13) (T := f_13) (N := 42) (ref := "PagedValuesModel") hx hb hts (fun w h => List.mem_cons_of_mem _ (ly_13 w h)) hown hK hP 0 rfl rfl 25 (by decide) (hts _ (List.mem_cons_of_mem _ k1176)) (fun _ h9 => h9) rfl d15_75_157 ?_
            refine va_put (D := G.1) (ci := 13) (v := .int (v44.1 8)) (ty := .int) (C := r_13) (T := f_13) (N := 42) (ref := "PagedValuesModel") hx hb hts (fun w h => List.mem_cons_of_mem _ (ly_13 w h)) ft_13 ft_13_ok nm_13 hown hK hP hD hS 0 rfl rfl 23 (by decide) (hts _ (List.mem_cons_of_mem _ k1174)) (fun _ h9 => h9) rfl (by decide +kernel) rfl rfl (Nat.le_of_ble_eq_true rfl) d15_75_160 (fun H locs hP hD hS => ?_)
            have hP : va_P G.1 vwCl (wMs q G.2 (upd v44.1 7 (v44.1 8), v44.2.1, v44.2.2.1, v44.2.2.2)) H := hP
            have hD : va_D A (wMs q G.2 (upd v44.1 7 (v44.1 8), v44.2.1, v44.2.2.1, v44.2.2.2)) := hD
            refine lv_iconst (v := 0) hx hb d15_75_163 (by decide) ?_
            refine lv_istore (lv' := [(4, .int 0), (0, .ref (q 0)), (1, .int a0), (2, .int a1), (3, .int v6)]) hx hb d15_75_164 hl (by decide) rfl (fun ls hl => ?_)
            obtain ⟨e45, hX, hrest⟩ := ob h
            clear h
            have hj : ∀ (v49 : Int32) (v50 : MS), e45 = (v49, v50) → ∀ (H : Heap) (locs : List Loc) (ls : Array Slot), lv_has ls 8 [(0, .ref (q 0)), (1, .int a0), (2, .int a1), (3, .int v6), (4, .int v49)] → va_P G.1 vwCl (wMs q G.2 v50) H → va_D A (wMs q G.2 v50) → va_S A s.heap H locs → W p l e (rmD 2 0 0) s m ([.ref (q 0), .int a0, .int a1] : List Value).toArray below meth c H locs 0 0 (MQ below (qV G (fun (_ : Unit) => True) (fun _ => (wMs q G.2 st0)) A) ([.ref (q 0), .int a0, .int a1] : List Value).toArray s 0 0 A) (F0 m 195 ls []) := by
              intro v49 v50 he H locs ls hl hP hD hS
              subst e45
              have h := hrest
              refine lv_iinc (k := 3) (v := v6 + 1) (lv' := [(3, .int (v6 + 1)), (0, .ref (q 0)), (1, .int a0), (2, .int a1), (4, .int v49)]) hx hb d15_75_195 hl rfl (by first | decide | rfl) (by decide) rfl (fun ls hl => ?_)
              refine lv_goto (tgt := 17) hx hb d15_75_198 rfl ?_
              have hl := lv_sub hl (l' := [(0, .ref (q 0)), (1, .int a0), (2, .int a1), (3, .int (v6 + 1))]) [1, 2, 3, 0] rfl
              exact ih _ _ h _ _ _ hl hP hD hS
            have hloop : ∀ (n9 : Nat) (v46 : Int32) (v47 : MS), m_ask_l4  n9 (v46, v47) = some e45 → ∀ (H : Heap) (locs : List Loc) (ls : Array Slot), lv_has ls 8 [(0, .ref (q 0)), (1, .int a0), (2, .int a1), (3, .int v6), (4, .int v46)] → va_P G.1 vwCl (wMs q G.2 v47) H → va_D A (wMs q G.2 v47) → va_S A s.heap H locs → W p l e (rmD 2 0 0) s m ([.ref (q 0), .int a0, .int a1] : List Value).toArray below meth c H locs 0 0 (MQ below (qV G (fun (_ : Unit) => True) (fun _ => (wMs q G.2 st0)) A) ([.ref (q 0), .int a0, .int a1] : List Value).toArray s 0 0 A) (F0 m 166 ls []) := by
              intro n9
              induction n9 with
              | zero =>
                intro v46 v47 h
                cases h
              | succ n9 ih =>
                intro v46 v47 h H locs ls hl hP hD hS
                replace h := (m_ask_l4_s  n9 (v46, v47)).symm.trans h
                refine lv_iload hx hb d15_75_166 (lv_at hl 4 rfl) ?_
                refine lv_aload_n hx hb d15_75_168 rfl (lv_at hl 0 rfl) ?_
                refine va_get (D := G.1) (ci := 13) (v := .int (v47.1 8)) (C := r_13) (T := f_13) (N := 42) (ref := "PagedValuesModel") hx hb hts (fun w h => List.mem_cons_of_mem _ (ly_13 w h)) hown hK hP 0 rfl rfl 25 (by decide) (hts _ (List.mem_cons_of_mem _ k1176)) (fun _ h9 => h9) rfl d15_75_169 ?_
                refine lv_icmp_ge (tgt := 195) hx hb d15_75_172 rfl (fun c51 => ?_) (fun c51 => ?_)
                ·
                  replace h := (if_pos c51).symm.trans h
                  have e9 := Option.some.inj h
                  subst e45
                  have hl := lv_sub hl (l' := [(0, .ref (q 0)), (1, .int a0), (2, .int a1), (3, .int v6), (4, .int v46)]) [0, 1, 2, 3, 4] rfl
                  exact hj _ _ rfl _ _ _ hl hP hD hS
                ·
                  replace h := (if_neg c51).symm.trans h
                  refine lv_aload_n hx hb d15_75_175 rfl (lv_at hl 0 rfl) ?_
                  refine va_get (D := G.1) (ci := 13) (v := .ref (q 15)) (C := r_13) (T := f_13) (N := 42) (ref := "PagedValuesModel") hx hb hts (fun w h => List.mem_cons_of_mem _ (ly_13 w h)) hown hK hP 0 rfl rfl 24 (by decide) (hts _ (List.mem_cons_of_mem _ k1175)) (fun _ h9 => h9) rfl d15_75_176 ?_
                  refine lv_iload hx hb d15_75_179 (lv_at hl 4 rfl) ?_
                  refine lv_aload_n hx hb d15_75_181 rfl (lv_at hl 0 rfl) ?_
                  refine va_get (D := G.1) (ci := 13) (v := .ref (q 16)) (C := r_13) (T := f_13) (N := 42) (ref := "PagedValuesModel") hx hb hts (fun w h => List.mem_cons_of_mem _ (ly_13 w h)) hown hK hP 0 rfl rfl 26 (by decide) (hts _ (List.mem_cons_of_mem _ k1177)) (fun _ h9 => h9) rfl d15_75_182 ?_
                  refine lv_iload hx hb d15_75_185 (lv_at hl 4 rfl) ?_
                  obtain ⟨x52, hr, h⟩ := ob h
                  obtain ⟨hi, hv⟩ := rd_some hr
                  refine va_iald (D := G.1) hx hb hK hP 16 1 rfl rfl (i := v46) hi d15_75_187 ?_
                  refine lv_topi (fun y9 ey => ?_)
                  have e9 := ey.trans hv
                  clear ey
                  subst y9
                  clear hv hi hr
                  obtain ⟨k53z, hr, h⟩ := ob h
                  obtain ⟨hi, hk⟩ := ix_some hr
                  clear hr
                  refine va_iast (D := G.1) hx hb hK hP hD hS 15 1 rfl rfl (i := v46) (x := x52) hi d15_75_188 (fun H locs hP hD hS => ?_)
                  rw [hk] at hP hD
                  clear hk hi
                  have hP : va_P G.1 vwCl (wMs q G.2 (v47.1, v47.2.1, va_up v47.2.2.1 8 (upd (v47.2.2.1 8) k53z x52), v47.2.2.2)) H := hP
                  have hD : va_D A (wMs q G.2 (v47.1, v47.2.1, va_up v47.2.2.1 8 (upd (v47.2.2.1 8) k53z x52), v47.2.2.2)) := hD
                  refine lv_iinc (k := 4) (v := v46 + 1) (lv' := [(4, .int (v46 + 1)), (0, .ref (q 0)), (1, .int a0), (2, .int a1), (3, .int v6)]) hx hb d15_75_189 hl rfl (by first | decide | rfl) (by decide) rfl (fun ls hl => ?_)
                  refine lv_goto (tgt := 166) hx hb d15_75_192 rfl ?_
                  have hl := lv_sub hl (l' := [(0, .ref (q 0)), (1, .int a0), (2, .int a1), (3, .int v6), (4, .int (v46 + 1))]) [1, 2, 3, 4, 0] rfl
                  exact ih _ _ h _ _ _ hl hP hD hS
            have hl := lv_sub hl (l' := [(0, .ref (q 0)), (1, .int a0), (2, .int a1), (3, .int v6), (4, .int 0)]) [1, 2, 3, 4, 0] rfl
            exact hloop _ _ _ hX _ _ _ hl hP hD hS
          have hloop : ∀ (n9 : Nat) (v40 : Int32) (v41 : MS), m_ask_l3 v6 n9 (v40, v41) = some e39 → ∀ (H : Heap) (locs : List Loc) (ls : Array Slot), lv_has ls 8 [(0, .ref (q 0)), (1, .int a0), (2, .int a1), (3, .int v6), (4, .int v40)] → va_P G.1 vwCl (wMs q G.2 v41) H → va_D A (wMs q G.2 v41) → va_S A s.heap H locs → W p l e (rmD 2 0 0) s m ([.ref (q 0), .int a0, .int a1] : List Value).toArray below meth c H locs 0 0 (MQ below (qV G (fun (_ : Unit) => True) (fun _ => (wMs q G.2 st0)) A) ([.ref (q 0), .int a0, .int a1] : List Value).toArray s 0 0 A) (F0 m 40 ls []) := by
            intro n9
            induction n9 with
            | zero =>
              intro v40 v41 h
              cases h
            | succ n9 ih =>
              intro v40 v41 h H locs ls hl hP hD hS
              replace h := (m_ask_l3_s v6 n9 (v40, v41)).symm.trans h
              refine lv_iload hx hb d15_75_40 (lv_at hl 4 rfl) ?_
              refine lv_aload_n hx hb d15_75_42 rfl (lv_at hl 0 rfl) ?_
              refine va_get (D := G.1) (ci := 13) (v := .int (v41.1 7)) (C := r_13) (T := f_13) (N := 42) (ref := "PagedValuesModel") hx hb hts (fun w h => List.mem_cons_of_mem _ (ly_13 w h)) hown hK hP 0 rfl rfl 23 (by decide) (hts _ (List.mem_cons_of_mem _ k1174)) (fun _ h9 => h9) rfl d15_75_43 ?_
              refine lv_icmp_ge (tgt := 155) hx hb d15_75_46 rfl (fun c54 => ?_) (fun c54 => ?_)
              ·
                replace h := (if_pos c54).symm.trans h
                have e9 := Option.some.inj h
                subst e39
                have hl := lv_sub hl (l' := [(0, .ref (q 0)), (1, .int a0), (2, .int a1), (3, .int v6), (4, .int v40)]) [0, 1, 2, 3, 4] rfl
                exact hj _ _ rfl _ _ _ hl hP hD hS
              ·
                replace h := (if_neg c54).symm.trans h
                refine lv_aload_n hx hb d15_75_49 rfl (lv_at hl 0 rfl) ?_
                refine va_get (D := G.1) (ci := 13) (v := .ref (q 9)) (C := r_13) (T := f_13) (N := 42) (ref := "PagedValuesModel") hx hb hts (fun w h => List.mem_cons_of_mem _ (ly_13 w h)) hown hK hP 0 rfl rfl 16 (by decide) (hts _ (List.mem_cons_of_mem _ k1167)) (fun _ h9 => h9) rfl d15_75_50 ?_
                refine lv_iload_n hx hb d15_75_53 rfl (lv_at hl 3 rfl) ?_
                obtain ⟨x55, hr, h⟩ := ob h
                obtain ⟨hi, hv⟩ := rd_some hr
                refine va_zald (D := G.1) hx hb hK hP 9 3 rfl rfl (i := v6) hi d15_75_54 ?_
                refine lv_topi (fun y9 ey => ?_)
                have e9 := ey.trans hv
                clear ey
                subst y9
                clear hv hi hr
                obtain ⟨e57, hX, h⟩ := ob h
                have hj : ∀ (H : Heap) (locs : List Loc) (ls : Array Slot), lv_has ls 8 [(0, .ref (q 0)), (1, .int a0), (2, .int a1), (3, .int v6), (4, .int v40)] → va_P G.1 vwCl (wMs q G.2 v41) H → va_D A (wMs q G.2 v41) → va_S A s.heap H locs → W p l e (rmD 2 0 0) s m ([.ref (q 0), .int a0, .int a1] : List Value).toArray below meth c H locs 0 0 (MQ below (qV G (fun (_ : Unit) => True) (fun _ => (wMs q G.2 st0)) A) ([.ref (q 0), .int a0, .int a1] : List Value).toArray s 0 0 A) (F0 m 74 ls [.int e57]) := by
                  intro H locs ls hl hP hD hS
                  refine lv_istore (lv' := [(5, .int e57), (0, .ref (q 0)), (1, .int a0), (2, .int a1), (3, .int v6), (4, .int v40)]) hx hb d15_75_74 hl (by decide) rfl (fun ls hl => ?_)
                  refine lv_aload_n hx hb d15_75_76 rfl (lv_at hl 1 rfl) ?_
                  refine va_get (D := G.1) (ci := 13) (v := .ref (q 15)) (C := r_13) (T := f_13) (N := 42) (ref := "PagedValuesModel") hx hb hts (fun w h => List.mem_cons_of_mem _ (ly_13 w h)) hown hK hP 0 rfl rfl 24 (by decide) (hts _ (List.mem_cons_of_mem _ k1175)) (fun _ h9 => h9) rfl d15_75_77 ?_
                  refine lv_iload hx hb d15_75_80 (lv_at hl 5 rfl) ?_
                  obtain ⟨x59, hr, h⟩ := ob h
                  obtain ⟨hi, hv⟩ := rd_some hr
                  refine va_iald (D := G.1) hx hb hK hP 15 1 rfl rfl (i := v40) hi d15_75_82 ?_
                  refine lv_topi (fun y9 ey => ?_)
                  have e9 := ey.trans hv
                  clear ey
                  subst y9
                  clear hv hi hr
                  refine lv_istore (lv' := [(6, .int x59), (5, .int e57), (0, .ref (q 0)), (1, .int a0), (2, .int a1), (3, .int v6), (4, .int v40)]) hx hb d15_75_83 hl (by decide) rfl (fun ls hl => ?_)
                  obtain ⟨e60, hX, hrest⟩ := ob h
                  clear h
                  have hj : ∀ (v64 : Int32) (v65 : MS), e60 = (v64, v65) → ∀ (H : Heap) (locs : List Loc) (ls : Array Slot), lv_has ls 8 [(0, .ref (q 0)), (1, .int a0), (2, .int a1), (3, .int v6), (4, .int v40), (5, .int e57), (6, .int v64)] → va_P G.1 vwCl (wMs q G.2 v65) H → va_D A (wMs q G.2 v65) → va_S A s.heap H locs → W p l e (rmD 2 0 0) s m ([.ref (q 0), .int a0, .int a1] : List Value).toArray below meth c H locs 0 0 (MQ below (qV G (fun (_ : Unit) => True) (fun _ => (wMs q G.2 st0)) A) ([.ref (q 0), .int a0, .int a1] : List Value).toArray s 0 0 A) (F0 m 149 ls []) := by
                    intro v64 v65 he H locs ls hl hP hD hS
                    subst e60
                    have h := hrest
                    refine lv_iinc (k := 4) (v := v40 + 1) (lv' := [(4, .int (v40 + 1)), (0, .ref (q 0)), (1, .int a0), (2, .int a1), (3, .int v6), (5, .int e57), (6, .int v64)]) hx hb d15_75_149 hl rfl (by first | decide | rfl) (by decide) rfl (fun ls hl => ?_)
                    refine lv_goto (tgt := 40) hx hb d15_75_152 rfl ?_
                    have hl := lv_sub hl (l' := [(0, .ref (q 0)), (1, .int a0), (2, .int a1), (3, .int v6), (4, .int (v40 + 1))]) [1, 2, 3, 4, 0] rfl
                    exact ih _ _ h _ _ _ hl hP hD hS
                  have hloop : ∀ (n9 : Nat) (v61 : Int32) (v62 : MS), m_ask_l5 v6 v40 e57 n9 (v61, v62) = some e60 → ∀ (H : Heap) (locs : List Loc) (ls : Array Slot), lv_has ls 8 [(0, .ref (q 0)), (1, .int a0), (2, .int a1), (3, .int v6), (4, .int v40), (5, .int e57), (6, .int v61)] → va_P G.1 vwCl (wMs q G.2 v62) H → va_D A (wMs q G.2 v62) → va_S A s.heap H locs → W p l e (rmD 2 0 0) s m ([.ref (q 0), .int a0, .int a1] : List Value).toArray below meth c H locs 0 0 (MQ below (qV G (fun (_ : Unit) => True) (fun _ => (wMs q G.2 st0)) A) ([.ref (q 0), .int a0, .int a1] : List Value).toArray s 0 0 A) (F0 m 85 ls []) := by
                    intro n9
                    induction n9 with
                    | zero =>
                      intro v61 v62 h
                      cases h
                    | succ n9 ih =>
                      intro v61 v62 h H locs ls hl hP hD hS
                      replace h := (m_ask_l5_s v6 v40 e57 n9 (v61, v62)).symm.trans h
                      refine lv_iload hx hb d15_75_85 (lv_at hl 6 rfl) ?_
                      refine lv_aload_n hx hb d15_75_87 rfl (lv_at hl 0 rfl) ?_
                      refine va_get (D := G.1) (ci := 13) (v := .ref (q 15)) (C := r_13) (T := f_13) (N := 42) (ref := "PagedValuesModel") hx hb hts (fun w h => List.mem_cons_of_mem _ (ly_13 w h)) hown hK hP 0 rfl rfl 24 (by decide) (hts _ (List.mem_cons_of_mem _ k1175)) (fun _ h9 => h9) rfl d15_75_88 ?_
                      refine lv_iload hx hb d15_75_91 (lv_at hl 4 rfl) ?_
                      obtain ⟨x66, hr, h⟩ := ob h
                      obtain ⟨hi, hv⟩ := rd_some hr
                      refine va_iald (D := G.1) hx hb hK hP 15 1 rfl rfl (i := v40) hi d15_75_93 ?_
                      refine lv_topi (fun y9 ey => ?_)
                      have e9 := ey.trans hv
                      clear ey
                      subst y9
                      clear hv hi hr
                      refine lv_iload hx hb d15_75_94 (lv_at hl 5 rfl) ?_
                      refine lv_iadd hx hb d15_75_96 ?_
                      obtain ⟨y67, hr, h⟩ := ob h
                      refine lv_topi (fun y9 ey => ?_)
                      have e9 := ey.trans (Option.some.inj hr)
                      clear ey
                      subst y9
                      clear hr
                      refine lv_icmp_ge (tgt := 149) hx hb d15_75_97 rfl (fun c68 => ?_) (fun c68 => ?_)
                      ·
                        replace h := (if_pos c68).symm.trans h
                        have e9 := Option.some.inj h
                        subst e60
                        have hl := lv_sub hl (l' := [(0, .ref (q 0)), (1, .int a0), (2, .int a1), (3, .int v6), (4, .int v40), (5, .int e57), (6, .int v61)]) [0, 1, 2, 3, 4, 5, 6] rfl
                        exact hj _ _ rfl _ _ _ hl hP hD hS
                      ·
                        replace h := (if_neg c68).symm.trans h
                        refine lv_iload_n hx hb d15_75_100 rfl (lv_at hl 3 rfl) ?_
                        obtain ⟨e70, hX, h⟩ := ob h
                        have hj : ∀ (H : Heap) (locs : List Loc) (ls : Array Slot), lv_has ls 8 [(0, .ref (q 0)), (1, .int a0), (2, .int a1), (3, .int v6), (4, .int v40), (5, .int e57), (6, .int v61)] → va_P G.1 vwCl (wMs q G.2 v62) H → va_D A (wMs q G.2 v62) → va_S A s.heap H locs → W p l e (rmD 2 0 0) s m ([.ref (q 0), .int a0, .int a1] : List Value).toArray below meth c H locs 0 0 (MQ below (qV G (fun (_ : Unit) => True) (fun _ => (wMs q G.2 st0)) A) ([.ref (q 0), .int a0, .int a1] : List Value).toArray s 0 0 A) (F0 m 116 ls [.int e70]) := by
                          intro H locs ls hl hP hD hS
                          refine lv_istore (lv' := [(7, .int e70), (0, .ref (q 0)), (1, .int a0), (2, .int a1), (3, .int v6), (4, .int v40), (5, .int e57), (6, .int v61)]) hx hb d15_75_116 hl (by decide) rfl (fun ls hl => ?_)
                          obtain ⟨e72, hX, hrest⟩ := ob h
                          clear h
                          have hj : ∀ (v76 : Int32) (v77 : MS), e72 = (v76, v77) → ∀ (H : Heap) (locs : List Loc) (ls : Array Slot), lv_has ls 8 [(0, .ref (q 0)), (1, .int a0), (2, .int a1), (3, .int v6), (4, .int v40), (5, .int e57), (6, .int v61), (7, .int v76)] → va_P G.1 vwCl (wMs q G.2 v77) H → va_D A (wMs q G.2 v77) → va_S A s.heap H locs → W p l e (rmD 2 0 0) s m ([.ref (q 0), .int a0, .int a1] : List Value).toArray below meth c H locs 0 0 (MQ below (qV G (fun (_ : Unit) => True) (fun _ => (wMs q G.2 st0)) A) ([.ref (q 0), .int a0, .int a1] : List Value).toArray s 0 0 A) (F0 m 143 ls []) := by
                            intro v76 v77 he H locs ls hl hP hD hS
                            subst e72
                            have h := hrest
                            refine lv_iinc (k := 6) (v := v61 + 1) (lv' := [(6, .int (v61 + 1)), (0, .ref (q 0)), (1, .int a0), (2, .int a1), (3, .int v6), (4, .int v40), (5, .int e57), (7, .int v76)]) hx hb d15_75_143 hl rfl (by first | decide | rfl) (by decide) rfl (fun ls hl => ?_)
                            refine lv_goto (tgt := 85) hx hb d15_75_146 rfl ?_
                            have hl := lv_sub hl (l' := [(0, .ref (q 0)), (1, .int a0), (2, .int a1), (3, .int v6), (4, .int v40), (5, .int e57), (6, .int (v61 + 1))]) [1, 2, 3, 4, 5, 6, 0] rfl
                            exact ih _ _ h _ _ _ hl hP hD hS
                          have hloop : ∀ (n9 : Nat) (v73 : Int32) (v74 : MS), m_ask_l6 v6 v61 n9 (v73, v74) = some e72 → ∀ (H : Heap) (locs : List Loc) (ls : Array Slot), lv_has ls 8 [(0, .ref (q 0)), (1, .int a0), (2, .int a1), (3, .int v6), (4, .int v40), (5, .int e57), (6, .int v61), (7, .int v73)] → va_P G.1 vwCl (wMs q G.2 v74) H → va_D A (wMs q G.2 v74) → va_S A s.heap H locs → W p l e (rmD 2 0 0) s m ([.ref (q 0), .int a0, .int a1] : List Value).toArray below meth c H locs 0 0 (MQ below (qV G (fun (_ : Unit) => True) (fun _ => (wMs q G.2 st0)) A) ([.ref (q 0), .int a0, .int a1] : List Value).toArray s 0 0 A) (F0 m 118 ls []) := by
                            intro n9
                            induction n9 with
                            | zero =>
                              intro v73 v74 h
                              cases h
                            | succ n9 ih =>
                              intro v73 v74 h H locs ls hl hP hD hS
                              replace h := (m_ask_l6_s v6 v61 n9 (v73, v74)).symm.trans h
                              refine lv_iload hx hb d15_75_118 (lv_at hl 7 rfl) ?_
                              refine lv_aload_n hx hb d15_75_120 rfl (lv_at hl 0 rfl) ?_
                              refine va_get (D := G.1) (ci := 13) (v := .ref (q 10)) (C := r_13) (T := f_13) (N := 42) (ref := "PagedValuesModel") hx hb hts (fun w h => List.mem_cons_of_mem _ (ly_13 w h)) hown hK hP 0 rfl rfl 17 (by decide) (hts _ (List.mem_cons_of_mem _ k1168)) (fun _ h9 => h9) rfl d15_75_121 ?_
                              refine lv_iload_n hx hb d15_75_124 rfl (lv_at hl 3 rfl) ?_
                              obtain ⟨x78, hr, h⟩ := ob h
                              obtain ⟨hi, hv⟩ := rd_some hr
                              refine va_iald (D := G.1) hx hb hK hP 10 1 rfl rfl (i := v6) hi d15_75_125 ?_
                              refine lv_topi (fun y9 ey => ?_)
                              have e9 := ey.trans hv
                              clear ey
                              subst y9
                              clear hv hi hr
                              refine lv_icmp_ge (tgt := 143) hx hb d15_75_126 rfl (fun c79 => ?_) (fun c79 => ?_)
                              ·
                                replace h := (if_pos c79).symm.trans h
                                have e9 := Option.some.inj h
                                subst e72
                                have hl := lv_sub hl (l' := [(0, .ref (q 0)), (1, .int a0), (2, .int a1), (3, .int v6), (4, .int v40), (5, .int e57), (6, .int v61), (7, .int v73)]) [0, 1, 2, 3, 4, 5, 6, 7] rfl
                                exact hj _ _ rfl _ _ _ hl hP hD hS
                              ·
                                replace h := (if_neg c79).symm.trans h
                                refine lv_aload_n hx hb d15_75_129 rfl (lv_at hl 0 rfl) ?_
                                refine lv_iload hx hb d15_75_130 (lv_at hl 7 rfl) ?_
                                refine lv_iload hx hb d15_75_132 (lv_at hl 6 rfl) ?_
                                obtain ⟨st81, hc, h⟩ := ob h
                                refine sV_v (As := [.int v73, .int v61]) (rest := []) ⟨hx, hb, hml, hown, hts⟩ (cm_selects l G Zd q v73 v61 v74 st81 hc _) (kw_V (n := 2) hts k1585 k1582 k15 k1584 ks96 (by decide +kernel) ⟨Nat.le_of_ble_eq_true rfl, Nat.le_of_ble_eq_true rfl⟩) hP hD hK hS hA hZ (va_recv (ci := 13) (q0 := 0) hK hP rfl rfl) rfl hl.1 rfl (Nat.le_of_ble_eq_true rfl) d15_75_134 ⟨Nat.le_of_ble_eq_true rfl, Nat.le_of_ble_eq_true rfl⟩ (fun u9 H locs hp hP hD hS => ?_)
                                clear u9
                                clear hp
                                clear hc
                                refine W.eq (g2 := F0 m 137 ls []) rfl ?_
                                have hP : va_P G.1 vwCl (wMs q G.2 st81) H := hP
                                have hD : va_D A (wMs q G.2 st81) := hD
                                refine lv_iinc (k := 7) (v := v73 + 1) (lv' := [(7, .int (v73 + 1)), (0, .ref (q 0)), (1, .int a0), (2, .int a1), (3, .int v6), (4, .int v40), (5, .int e57), (6, .int v61)]) hx hb d15_75_137 hl rfl (by first | decide | rfl) (by decide) rfl (fun ls hl => ?_)
                                refine lv_goto (tgt := 118) hx hb d15_75_140 rfl ?_
                                have hl := lv_sub hl (l' := [(0, .ref (q 0)), (1, .int a0), (2, .int a1), (3, .int v6), (4, .int v40), (5, .int e57), (6, .int v61), (7, .int (v73 + 1))]) [1, 2, 3, 4, 5, 6, 7, 0] rfl
                                exact ih _ _ h _ _ _ hl hP hD hS
                          have hl := lv_sub hl (l' := [(0, .ref (q 0)), (1, .int a0), (2, .int a1), (3, .int v6), (4, .int v40), (5, .int e57), (6, .int v61), (7, .int e70)]) [1, 2, 3, 4, 5, 6, 7, 0] rfl
                          exact hloop _ _ _ hX _ _ _ hl hP hD hS
                        clear h
                        refine lv_if_ne (tgt := 108) hx hb d15_75_101 rfl (fun c69 => ?_) (fun c69 => ?_)
                        ·
                          replace h := (if_neg c69).symm.trans hX
                          refine lv_aload_n hx hb d15_75_108 rfl (lv_at hl 0 rfl) ?_
                          refine va_get (D := G.1) (ci := 13) (v := .ref (q 10)) (C := r_13) (T := f_13) (N := 42) (ref := "PagedValuesModel") hx hb hts (fun w h => List.mem_cons_of_mem _ (ly_13 w h)) hown hK hP 0 rfl rfl 17 (by decide) (hts _ (List.mem_cons_of_mem _ k1168)) (fun _ h9 => h9) rfl d15_75_109 ?_
                          refine lv_iload_n hx hb d15_75_112 rfl (lv_at hl 3 rfl) ?_
                          refine lv_iconst (v := 1) hx hb d15_75_113 (by decide) ?_
                          refine lv_isub hx hb d15_75_114 ?_
                          obtain ⟨y83, hr, h⟩ := ob h
                          refine lv_topi (fun y9 ey => ?_)
                          have e9 := ey.trans (Option.some.inj hr)
                          clear ey
                          subst y9
                          clear hr
                          obtain ⟨x84, hr, h⟩ := ob h
                          obtain ⟨hi, hv⟩ := rd_some hr
                          refine va_iald (D := G.1) hx hb hK hP 10 1 rfl rfl (i := y83) hi d15_75_115 ?_
                          refine lv_topi (fun y9 ey => ?_)
                          have e9 := ey.trans hv
                          clear ey
                          subst y9
                          clear hv hi hr
                          have e9 := Option.some.inj h
                          subst e70
                          have hl := lv_sub hl (l' := [(0, .ref (q 0)), (1, .int a0), (2, .int a1), (3, .int v6), (4, .int v40), (5, .int e57), (6, .int v61)]) [0, 1, 2, 3, 4, 5, 6] rfl
                          exact hj _ _ _ hl hP hD hS
                        ·
                          replace h := (if_pos c69).symm.trans hX
                          refine lv_iconst (v := 0) hx hb d15_75_104 (by decide) ?_
                          refine lv_goto (tgt := 116) hx hb d15_75_105 rfl ?_
                          have e9 := Option.some.inj h
                          subst e70
                          have hl := lv_sub hl (l' := [(0, .ref (q 0)), (1, .int a0), (2, .int a1), (3, .int v6), (4, .int v40), (5, .int e57), (6, .int v61)]) [0, 1, 2, 3, 4, 5, 6] rfl
                          exact hj _ _ _ hl hP hD hS
                  have hl := lv_sub hl (l' := [(0, .ref (q 0)), (1, .int a0), (2, .int a1), (3, .int v6), (4, .int v40), (5, .int e57), (6, .int x59)]) [2, 3, 4, 5, 6, 1, 0] rfl
                  exact hloop _ _ _ hX _ _ _ hl hP hD hS
                clear h
                refine lv_if_eq (tgt := 73) hx hb d15_75_55 rfl (fun c56 => ?_) (fun c56 => ?_)
                ·
                  replace h := (if_pos c56).symm.trans hX
                  refine lv_iconst (v := 1) hx hb d15_75_73 (by decide) ?_
                  have e9 := Option.some.inj h
                  subst e57
                  have hl := lv_sub hl (l' := [(0, .ref (q 0)), (1, .int a0), (2, .int a1), (3, .int v6), (4, .int v40)]) [0, 1, 2, 3, 4] rfl
                  exact hj _ _ _ hl hP hD hS
                ·
                  replace h := (if_neg c56).symm.trans hX
                  refine lv_aload_n hx hb d15_75_58 rfl (lv_at hl 0 rfl) ?_
                  refine va_get (D := G.1) (ci := 13) (v := .ref (q 3)) (C := r_13) (T := f_13) (N := 42) (ref := "PagedValuesModel") hx hb hts (fun w h => List.mem_cons_of_mem _ (ly_13 w h)) hown hK hP 0 rfl rfl 5 (by decide) (hts _ (List.mem_cons_of_mem _ k1156)) (fun _ h9 => h9) rfl d15_75_59 ?_
                  refine lv_aload_n hx hb d15_75_62 rfl (lv_at hl 0 rfl) ?_
                  refine va_get (D := G.1) (ci := 13) (v := .ref (q 15)) (C := r_13) (T := f_13) (N := 42) (ref := "PagedValuesModel") hx hb hts (fun w h => List.mem_cons_of_mem _ (ly_13 w h)) hown hK hP 0 rfl rfl 24 (by decide) (hts _ (List.mem_cons_of_mem _ k1175)) (fun _ h9 => h9) rfl d15_75_63 ?_
                  refine lv_iload hx hb d15_75_66 (lv_at hl 4 rfl) ?_
                  obtain ⟨x85, hr, h⟩ := ob h
                  obtain ⟨hi, hv⟩ := rd_some hr
                  refine va_iald (D := G.1) hx hb hK hP 15 1 rfl rfl (i := v40) hi d15_75_68 ?_
                  refine lv_topi (fun y9 ey => ?_)
                  have e9 := ey.trans hv
                  clear ey
                  subst y9
                  clear hv hi hr
                  obtain ⟨x86, hr, h⟩ := ob h
                  obtain ⟨hi, hv⟩ := rd_some hr
                  refine va_bald (D := G.1) hx hb hK hP 3 2 rfl rfl (i := x85) hi d15_75_69 ?_
                  refine lv_topi (fun y9 ey => ?_)
                  have e9 := ey.trans hv
                  clear ey
                  subst y9
                  clear hv hi hr
                  refine lv_goto (tgt := 74) hx hb d15_75_70 rfl ?_
                  have e9 := Option.some.inj h
                  subst e57
                  have hl := lv_sub hl (l' := [(0, .ref (q 0)), (1, .int a0), (2, .int a1), (3, .int v6), (4, .int v40)]) [0, 1, 2, 3, 4] rfl
                  exact hj _ _ _ hl hP hD hS
          have hl := lv_sub hl (l' := [(0, .ref (q 0)), (1, .int a0), (2, .int a1), (3, .int v6), (4, .int 0)]) [1, 2, 3, 4, 0] rfl
          exact hloop _ _ _ hX _ _ _ hl hP hD hS
  have hl := lv_sub hl (l' := [(0, .ref (q 0)), (1, .int a0), (2, .int a1), (3, .int 0)]) [1, 2, 3, 0] rfl
  exact hloop _ _ _ hX _ _ _ hl hP hD hS
def m_query_l1 (a0 : Int32) (a1 : Int32) : Nat → (Int32 × MS) → Option (Int32 × MS)
  | 0, _ => none
  | n9 + 1, e9 => if (8 : Int32) ≤ e9.1 then (some (e9.1, e9.2)) else (if (e9.2.1 9) = (0 : Int32) then ((m_rootOf a0 e9.2).bind fun x25 => (m_rowOf x25 e9.1 e9.2).bind fun x28 => (if x28 < (0 : Int32) then (some e9.2) else (if a1 = ((-1) : Int32) then ((m_ask x28 e9.1 e9.2).bind fun st36 => some st36) else (if a1 = e9.1 then ((m_ask x28 e9.1 e9.2).bind fun st40 => some st40) else (some e9.2)))).bind fun e32 => m_query_l1 a0 a1 n9 (e9.1 + 1, e32)) else (some (e9.1, e9.2)))
theorem m_query_l1_s (a0 : Int32) (a1 : Int32) (n9 : Nat) (e9 : Int32 × MS) : m_query_l1 a0 a1 (n9 + 1) e9 = (if (8 : Int32) ≤ e9.1 then (some (e9.1, e9.2)) else (if (e9.2.1 9) = (0 : Int32) then ((m_rootOf a0 e9.2).bind fun x25 => (m_rowOf x25 e9.1 e9.2).bind fun x28 => (if x28 < (0 : Int32) then (some e9.2) else (if a1 = ((-1) : Int32) then ((m_ask x28 e9.1 e9.2).bind fun st36 => some st36) else (if a1 = e9.1 then ((m_ask x28 e9.1 e9.2).bind fun st40 => some st40) else (some e9.2)))).bind fun e32 => m_query_l1 a0 a1 n9 (e9.1 + 1, e32)) else (some (e9.1, e9.2)))) := rfl
def m_query_l2 (a0 : Int32) (a1 : Int32) : Nat → (Int32 × MS) → Option (Int32 × MS)
  | 0, _ => none
  | n9 + 1, e9 => if (8 : Int32) ≤ e9.1 then (some (e9.1, e9.2)) else (if (e9.2.1 9) = (0 : Int32) then ((m_rootOf a0 e9.2).bind fun x68 => (m_rowOf x68 e9.1 e9.2).bind fun x71 => (if x71 < (0 : Int32) then (some e9.2) else (if a1 = ((-1) : Int32) then ((m_ask x71 e9.1 e9.2).bind fun st79 => some st79) else (if a1 = e9.1 then ((m_ask x71 e9.1 e9.2).bind fun st83 => some st83) else (some e9.2)))).bind fun e75 => m_query_l2 a0 a1 n9 (e9.1 + 1, e75)) else (some (e9.1, e9.2)))
theorem m_query_l2_s (a0 : Int32) (a1 : Int32) (n9 : Nat) (e9 : Int32 × MS) : m_query_l2 a0 a1 (n9 + 1) e9 = (if (8 : Int32) ≤ e9.1 then (some (e9.1, e9.2)) else (if (e9.2.1 9) = (0 : Int32) then ((m_rootOf a0 e9.2).bind fun x68 => (m_rowOf x68 e9.1 e9.2).bind fun x71 => (if x71 < (0 : Int32) then (some e9.2) else (if a1 = ((-1) : Int32) then ((m_ask x71 e9.1 e9.2).bind fun st79 => some st79) else (if a1 = e9.1 then ((m_ask x71 e9.1 e9.2).bind fun st83 => some st83) else (some e9.2)))).bind fun e75 => m_query_l2 a0 a1 n9 (e9.1 + 1, e75)) else (some (e9.1, e9.2)))) := rfl
def m_query (a0 : Int32) (a1 : Int32) (st : MS) : Option (Int32 × MS) := if (st.1 13) = (0 : Int32) then ((m_isReader a0 st).bind fun x2 => if x2 = (0 : Int32) then (some (((-1) : Int32), st)) else (if a1 = ((-1) : Int32) then ((m_readQuery (upd st.1 10 0, st.2.1, st.2.2.1, st.2.2.2)).bind fun st8 => if (st8.1 2) < (0 : Int32) then ((m_query_l1 a0 a1 4096 ((0 : Int32), (upd (upd st8.1 0 0) 9 0, st8.2.1, st8.2.2.1, st8.2.2.2))).bind fun e11 => (if (e11.2.1 9) = (0 : Int32) then (some (e11.2.1 10)) else (some (0 : Int32))).bind fun e18 => (if (e11.2.1 9) = (0 : Int32) then (some e18) else (some ((-6) : Int32))).bind fun e21 => some (e21, (upd e11.2.1 10 e18, e11.2.2.1, e11.2.2.2.1, e11.2.2.2.2))) else ((some ((-100) - (st8.1 2))).bind fun y42 => some (y42, (upd st8.1 0 0, st8.2.1, st8.2.2.1, st8.2.2.2)))) else ((m_rootOf a0 st).bind fun x43 => (m_rowOf x43 a1 st).bind fun x46 => if (0 : Int32) ≤ x46 then ((m_readQuery (upd st.1 10 0, st.2.1, st.2.2.1, st.2.2.2)).bind fun st51 => if (st51.1 2) < (0 : Int32) then ((m_query_l2 a0 a1 4096 ((0 : Int32), (upd (upd st51.1 0 0) 9 0, st51.2.1, st51.2.2.1, st51.2.2.2))).bind fun e54 => (if (e54.2.1 9) = (0 : Int32) then (some (e54.2.1 10)) else (some (0 : Int32))).bind fun e61 => (if (e54.2.1 9) = (0 : Int32) then (some e61) else (some ((-6) : Int32))).bind fun e64 => some (e64, (upd e54.2.1 10 e61, e54.2.2.1, e54.2.2.2.1, e54.2.2.2.2))) else ((some ((-100) - (st51.1 2))).bind fun y85 => some (y85, (upd st51.1 0 0, st51.2.1, st51.2.2.1, st51.2.2.2)))) else (some (((-1) : Int32), st))))) else (some (((-9) : Int32), st))
set_option maxHeartbeats 4000000 in
set_option maxRecDepth 100000 in
theorem cm_query (l : Launch) (G : Gk) (Zd : Nat → Nat) (q : Nat → Nat) (a0 : Int32) (a1 : Int32) (st : MS) (r0 : Int32) (st0 : MS) (hm : m_query a0 a1 st = some (r0, st0)) (sz : Nat) : Met l y15_78 (Cond.code y15_78 prog_15_method_78_code 5 (some .int) :: TB) (rmD 7 0 0) (va_Pc [.ref (q 0), .int a0, .int a1] (pcW G Zd (wMs q G.2 st) sz)) (qI G (fun rr (_ : Unit) => rr = r0) (fun _ => (wMs q G.2 st0)) (va_A (wMs q G.2 st) sz)) 0 0 (va_A (wMs q G.2 st) sz) := by
  refine go (y := y15_78) (cc := prog_15_method_78_code) (maxL := 5) (ret := (some .int)) (av := [.ref (q 0), .int a0, .int a1]) (Qc := qI G (fun rr (_ : Unit) => rr = r0) (fun _ => (wMs q G.2 st0))) "PagedValuesModel" rfl (by decide) (Nat.le_of_ble_eq_true rfl) ?_
  intro p e s m below meth c ls A hx hb hr hlk hml hown hts hin hl hP hD hK hS hA hZ
  have hl : lv_has ls 5 [(0, .ref (q 0)), (1, .int a0), (2, .int a1)] := hl
  have h := hm
  clear hm
  refine lv_aload_n hx hb d15_78_0 rfl (lv_at hl 0 rfl) ?_
  refine va_get (D := G.1) (ci := 13) (v := .int (st.1 13)) (C := r_13) (T := f_13) (N := 42) (ref := "PagedValuesModel") hx hb hts (fun w h => List.mem_cons_of_mem _ (ly_13 w h)) hown hK hP 0 rfl rfl 40 (by decide) (hts _ (List.mem_cons_of_mem _ k1191)) (fun _ h9 => h9) rfl d15_78_1 ?_
  refine lv_if_eq (tgt := 10) hx hb d15_78_4 rfl (fun c1 => ?_) (fun c1 => ?_)
  ·
    replace h := (if_pos c1).symm.trans h
    refine lv_aload_n hx hb d15_78_10 rfl (lv_at hl 0 rfl) ?_
    refine lv_iload_n hx hb d15_78_11 rfl (lv_at hl 1 rfl) ?_
    obtain ⟨x2, hc, h⟩ := ob h
    refine sV_i (As := [.int a0]) (rest := []) ⟨hx, hb, hml, hown, hts⟩ (cm_isReader l G Zd q a0 st x2 hc _) (kw_V (n := 1) hts k1542 k1539 k15 k1541 ks86 (by decide +kernel) ⟨Nat.le_of_ble_eq_true rfl, Nat.le_of_ble_eq_true rfl⟩) hP hD hK hS hA hZ (va_recv (ci := 13) (q0 := 0) hK hP rfl rfl) rfl hl.1 rfl (Nat.le_of_ble_eq_true rfl) d15_78_12 ⟨Nat.le_of_ble_eq_true rfl, Nat.le_of_ble_eq_true rfl⟩ (fun rr u9 H locs hp hP hD hS => ?_)
    clear u9
    subst rr
    clear hc
    refine W.eq (g2 := F0 m 15 ls [.int x2]) rfl ?_
    have hP : va_P G.1 vwCl (wMs q G.2 st) H := hP
    have hD : va_D A (wMs q G.2 st) := hD
    refine lv_if_eq (tgt := 36) hx hb d15_78_15 rfl (fun c5 => ?_) (fun c5 => ?_)
    ·
      replace h := (if_pos c5).symm.trans h
      refine lv_iconst (v := (-1)) hx hb d15_78_36 (by decide) ?_
      cases h
      exact fin_i hx hb hr hlk hS () rfl hP hD (Nat.le_of_ble_eq_true rfl) (Nat.le_of_ble_eq_true rfl) d15_78_37
    ·
      replace h := (if_neg c5).symm.trans h
      refine lv_iload_n hx hb d15_78_18 rfl (lv_at hl 2 rfl) ?_
      refine lv_iconst (v := (-1)) hx hb d15_78_19 (by decide) ?_
      refine lv_icmp_eq (tgt := 38) hx hb d15_78_20 rfl (fun c6 => ?_) (fun c6 => ?_)
      ·
        replace h := (if_pos c6).symm.trans h
        refine lv_aload_n hx hb d15_78_38 rfl (lv_at hl 0 rfl) ?_
        refine lv_iconst (v := 0) hx hb d15_78_39 (by decide) ?_
        refine va_put (D := G.1) (ci := 13) (v := .int 0) (ty := .int) (C := r_13) (T := f_13) (N := 42) (ref := "PagedValuesModel") hx hb hts (fun w h => List.mem_cons_of_mem _ (ly_13 w h)) ft_13 ft_13_ok nm_13 hown hK hP hD hS 0 rfl rfl 28 (by decide) (hts _ (List.mem_cons_of_mem _ k1179)) (fun _ h9 => h9) rfl (by decide +kernel) rfl rfl (Nat.le_of_ble_eq_true rfl) d15_78_40 (fun H locs hP hD hS => ?_)
        have hP : va_P G.1 vwCl (wMs q G.2 (upd st.1 10 0, st.2.1, st.2.2.1, st.2.2.2)) H := hP
        have hD : va_D A (wMs q G.2 (upd st.1 10 0, st.2.1, st.2.2.1, st.2.2.2)) := hD
        refine lv_aload_n hx hb d15_78_43 rfl (lv_at hl 0 rfl) ?_
        obtain ⟨st8, hc, h⟩ := ob h
        refine sV_v (As := []) (rest := []) ⟨hx, hb, hml, hown, hts⟩ (cm_readQuery l G Zd q (upd st.1 10 0, st.2.1, st.2.2.1, st.2.2.2) st8 hc _) (kw_V (n := 0) hts k1550 k1547 k15 k1549 ks88 (by decide +kernel) ⟨Nat.le_of_ble_eq_true rfl, Nat.le_of_ble_eq_true rfl⟩) hP hD hK hS hA hZ (va_recv (ci := 13) (q0 := 0) hK hP rfl rfl) rfl hl.1 rfl (Nat.le_of_ble_eq_true rfl) d15_78_44 ⟨Nat.le_of_ble_eq_true rfl, Nat.le_of_ble_eq_true rfl⟩ (fun u9 H locs hp hP hD hS => ?_)
        clear u9
        clear hp
        clear hc
        refine W.eq (g2 := F0 m 47 ls []) rfl ?_
        have hP : va_P G.1 vwCl (wMs q G.2 st8) H := hP
        have hD : va_D A (wMs q G.2 st8) := hD
        refine lv_aload_n hx hb d15_78_47 rfl (lv_at hl 0 rfl) ?_
        refine lv_iconst (v := 0) hx hb d15_78_48 (by decide) ?_
        refine va_put (D := G.1) (ci := 13) (v := .int 0) (ty := .int) (C := r_13) (T := f_13) (N := 42) (ref := "PagedValuesModel") hx hb hts (fun w h => List.mem_cons_of_mem _ (ly_13 w h)) ft_13 ft_13_ok nm_13 hown hK hP hD hS 0 rfl rfl 1 (by decide) (hts _ (List.mem_cons_of_mem _ k1152)) (fun _ h9 => h9) rfl (by decide +kernel) rfl rfl (Nat.le_of_ble_eq_true rfl) d15_78_49 (fun H locs hP hD hS => ?_)
        have hP : va_P G.1 vwCl (wMs q G.2 (upd st8.1 0 0, st8.2.1, st8.2.2.1, st8.2.2.2)) H := hP
        have hD : va_D A (wMs q G.2 (upd st8.1 0 0, st8.2.1, st8.2.2.1, st8.2.2.2)) := hD
        refine lv_aload_n hx hb d15_78_52 rfl (lv_at hl 0 rfl) ?_
        refine va_get (D := G.1) (ci := 13) (v := .int (st8.1 2)) (C := r_13) (T := f_13) (N := 42) (ref := "PagedValuesModel") hx hb hts (fun w h => List.mem_cons_of_mem _ (ly_13 w h)) hown hK hP 0 rfl rfl 3 (by decide) (hts _ (List.mem_cons_of_mem _ k1154)) (fun _ h9 => h9) rfl d15_78_53 ?_
        refine lv_if_lt (tgt := 67) hx hb d15_78_56 rfl (fun c10 => ?_) (fun c10 => ?_)
        ·
          replace h := (if_pos c10).symm.trans h
          refine lv_aload_n hx hb d15_78_67 rfl (lv_at hl 0 rfl) ?_
          refine lv_iconst (v := 0) hx hb d15_78_68 (by decide) ?_
          refine va_put (D := G.1) (ci := 13) (v := .int 0) (ty := .boolean) (C := r_13) (T := f_13) (N := 42) (ref := "PagedValuesModel") hx hb hts (fun w h => List.mem_cons_of_mem _ (ly_13 w h)) ft_13 ft_13_ok nm_13 hown hK hP hD hS 0 rfl rfl 27 (by decide) (hts _ (List.mem_cons_of_mem _ k1178)) (fun _ h9 => h9) rfl (by decide +kernel) (by decide) (by decide) (Nat.le_of_ble_eq_true rfl) d15_78_69 (fun H locs hP hD hS => ?_)
          have hP : va_P G.1 vwCl (wMs q G.2 (upd (upd st8.1 0 0) 9 0, st8.2.1, st8.2.2.1, st8.2.2.2)) H := hP
          have hD : va_D A (wMs q G.2 (upd (upd st8.1 0 0) 9 0, st8.2.1, st8.2.2.1, st8.2.2.2)) := hD
          refine lv_iconst (v := 0) hx hb d15_78_72 (by decide) ?_
          refine lv_istore_n (lv' := [(3, .int 0), (0, .ref (q 0)), (1, .int a0), (2, .int a1)]) hx hb d15_78_73 rfl hl (by decide) rfl (fun ls hl => ?_)
          obtain ⟨e11, hX, hrest⟩ := ob h
          clear h
          have hj : ∀ (v15 : Int32) (v16 : MS), e11 = (v15, v16) → ∀ (H : Heap) (locs : List Loc) (ls : Array Slot), lv_has ls 5 [(0, .ref (q 0)), (1, .int a0), (2, .int a1), (3, .int v15)] → va_P G.1 vwCl (wMs q G.2 v16) H → va_D A (wMs q G.2 v16) → va_S A s.heap H locs → W p l e (rmD 7 0 0) s m ([.ref (q 0), .int a0, .int a1] : List Value).toArray below meth c H locs 0 0 (MQ below (qI G (fun rr (_ : Unit) => rr = r0) (fun _ => (wMs q G.2 st0)) A) ([.ref (q 0), .int a0, .int a1] : List Value).toArray s 0 0 A) (F0 m 127 ls []) := by
            intro v15 v16 he H locs ls hl hP hD hS
            subst e11
            have h := hrest
            refine lv_aload_n hx hb d15_78_127 rfl (lv_at hl 0 rfl) ?_
            refine lv_aload_n hx hb d15_78_128 rfl (lv_at hl 0 rfl) ?_
            refine va_get (D := G.1) (ci := 13) (v := .int (v16.1 9)) (C := r_13) (T := f_13) (N := 42) (ref := "PagedValuesModel") hx hb hts (fun w h => List.mem_cons_of_mem _ (ly_13 w h)) hown hK hP 0 rfl rfl 27 (by decide) (hts _ (List.mem_cons_of_mem _ k1178)) (fun _ h9 => h9) rfl d15_78_129 ?_
            obtain ⟨e18, hX, h⟩ := ob h
            have hj : ∀ (H : Heap) (locs : List Loc) (ls : Array Slot), lv_has ls 5 [(0, .ref (q 0)), (1, .int a0), (2, .int a1), (3, .int v15)] → va_P G.1 vwCl (wMs q G.2 v16) H → va_D A (wMs q G.2 v16) → va_S A s.heap H locs → W p l e (rmD 7 0 0) s m ([.ref (q 0), .int a0, .int a1] : List Value).toArray below meth c H locs 0 0 (MQ below (qI G (fun rr (_ : Unit) => rr = r0) (fun _ => (wMs q G.2 st0)) A) ([.ref (q 0), .int a0, .int a1] : List Value).toArray s 0 0 A) (F0 m 143 ls [.int e18, .ref (q 0)]) := by
              intro H locs ls hl hP hD hS
              refine va_put (D := G.1) (ci := 13) (v := .int e18) (ty := .int) (C := r_13) (T := f_13) (N := 42) (ref := "PagedValuesModel") hx hb hts (fun w h => List.mem_cons_of_mem _ (ly_13 w h)) ft_13 ft_13_ok nm_13 hown hK hP hD hS 0 rfl rfl 28 (by decide) (hts _ (List.mem_cons_of_mem _ k1179)) (fun _ h9 => h9) rfl (by decide +kernel) rfl rfl (Nat.le_of_ble_eq_true rfl) d15_78_143 (fun H locs hP hD hS => ?_)
              have hP : va_P G.1 vwCl (wMs q G.2 (upd v16.1 10 e18, v16.2.1, v16.2.2.1, v16.2.2.2)) H := hP
              have hD : va_D A (wMs q G.2 (upd v16.1 10 e18, v16.2.1, v16.2.2.1, v16.2.2.2)) := hD
              refine lv_aload_n hx hb d15_78_146 rfl (lv_at hl 0 rfl) ?_
              refine va_get (D := G.1) (ci := 13) (v := .int (v16.1 9)) (C := r_13) (T := f_13) (N := 42) (ref := "PagedValuesModel") hx hb hts (fun w h => List.mem_cons_of_mem _ (ly_13 w h)) hown hK hP 0 rfl rfl 27 (by decide) (hts _ (List.mem_cons_of_mem _ k1178)) (fun _ h9 => h9) rfl d15_78_147 ?_
              obtain ⟨e21, hX, h⟩ := ob h
              have hj : ∀ (H : Heap) (locs : List Loc) (ls : Array Slot), lv_has ls 5 [(0, .ref (q 0)), (1, .int a0), (2, .int a1), (3, .int v15)] → va_P G.1 vwCl (wMs q G.2 (upd v16.1 10 e18, v16.2.1, v16.2.2.1, v16.2.2.2)) H → va_D A (wMs q G.2 (upd v16.1 10 e18, v16.2.1, v16.2.2.1, v16.2.2.2)) → va_S A s.heap H locs → W p l e (rmD 7 0 0) s m ([.ref (q 0), .int a0, .int a1] : List Value).toArray below meth c H locs 0 0 (MQ below (qI G (fun rr (_ : Unit) => rr = r0) (fun _ => (wMs q G.2 st0)) A) ([.ref (q 0), .int a0, .int a1] : List Value).toArray s 0 0 A) (F0 m 162 ls [.int e21]) := by
                intro H locs ls hl hP hD hS
                cases h
                exact fin_i hx hb hr hlk hS () rfl hP hD (Nat.le_of_ble_eq_true rfl) (Nat.le_of_ble_eq_true rfl) d15_78_162
              clear h
              refine lv_if_eq (tgt := 158) hx hb d15_78_150 rfl (fun c20 => ?_) (fun c20 => ?_)
              ·
                replace h := (if_pos c20).symm.trans hX
                refine lv_aload_n hx hb d15_78_158 rfl (lv_at hl 0 rfl) ?_
                refine va_get (D := G.1) (ci := 13) (v := .int e18) (C := r_13) (T := f_13) (N := 42) (ref := "PagedValuesModel") hx hb hts (fun w h => List.mem_cons_of_mem _ (ly_13 w h)) hown hK hP 0 rfl rfl 28 (by decide) (hts _ (List.mem_cons_of_mem _ k1179)) (fun _ h9 => h9) rfl d15_78_159 ?_
                have e9 := Option.some.inj h
                subst e21
                have hl := lv_sub hl (l' := [(0, .ref (q 0)), (1, .int a0), (2, .int a1), (3, .int v15)]) [0, 1, 2, 3] rfl
                exact hj _ _ _ hl hP hD hS
              ·
                replace h := (if_neg c20).symm.trans hX
                refine lv_bipush (v := (-6)) hx hb d15_78_153 (by decide) ?_
                refine lv_goto (tgt := 162) hx hb d15_78_155 rfl ?_
                have e9 := Option.some.inj h
                subst e21
                have hl := lv_sub hl (l' := [(0, .ref (q 0)), (1, .int a0), (2, .int a1), (3, .int v15)]) [0, 1, 2, 3] rfl
                exact hj _ _ _ hl hP hD hS
            clear h
            refine lv_if_eq (tgt := 139) hx hb d15_78_132 rfl (fun c17 => ?_) (fun c17 => ?_)
            ·
              replace h := (if_pos c17).symm.trans hX
              refine lv_aload_n hx hb d15_78_139 rfl (lv_at hl 0 rfl) ?_
              refine va_get (D := G.1) (ci := 13) (v := .int (v16.1 10)) (C := r_13) (T := f_13) (N := 42) (ref := "PagedValuesModel") hx hb hts (fun w h => List.mem_cons_of_mem _ (ly_13 w h)) hown hK hP 0 rfl rfl 28 (by decide) (hts _ (List.mem_cons_of_mem _ k1179)) (fun _ h9 => h9) rfl d15_78_140 ?_
              have e9 := Option.some.inj h
              subst e18
              have hl := lv_sub hl (l' := [(0, .ref (q 0)), (1, .int a0), (2, .int a1), (3, .int v15)]) [0, 1, 2, 3] rfl
              exact hj _ _ _ hl hP hD hS
            ·
              replace h := (if_neg c17).symm.trans hX
              refine lv_iconst (v := 0) hx hb d15_78_135 (by decide) ?_
              refine lv_goto (tgt := 143) hx hb d15_78_136 rfl ?_
              have e9 := Option.some.inj h
              subst e18
              have hl := lv_sub hl (l' := [(0, .ref (q 0)), (1, .int a0), (2, .int a1), (3, .int v15)]) [0, 1, 2, 3] rfl
              exact hj _ _ _ hl hP hD hS
          have hloop : ∀ (n9 : Nat) (v12 : Int32) (v13 : MS), m_query_l1 a0 a1 n9 (v12, v13) = some e11 → ∀ (H : Heap) (locs : List Loc) (ls : Array Slot), lv_has ls 5 [(0, .ref (q 0)), (1, .int a0), (2, .int a1), (3, .int v12)] → va_P G.1 vwCl (wMs q G.2 v13) H → va_D A (wMs q G.2 v13) → va_S A s.heap H locs → W p l e (rmD 7 0 0) s m ([.ref (q 0), .int a0, .int a1] : List Value).toArray below meth c H locs 0 0 (MQ below (qI G (fun rr (_ : Unit) => rr = r0) (fun _ => (wMs q G.2 st0)) A) ([.ref (q 0), .int a0, .int a1] : List Value).toArray s 0 0 A) (F0 m 74 ls []) := by
            intro n9
            induction n9 with
            | zero =>
              intro v12 v13 h
              cases h
            | succ n9 ih =>
              intro v12 v13 h H locs ls hl hP hD hS
              replace h := (m_query_l1_s a0 a1 n9 (v12, v13)).symm.trans h
              refine lv_iload_n hx hb d15_78_74 rfl (lv_at hl 3 rfl) ?_
              refine lv_bipush (v := 8) hx hb d15_78_75 (by decide) ?_
              refine lv_icmp_ge (tgt := 127) hx hb d15_78_77 rfl (fun c23 => ?_) (fun c23 => ?_)
              ·
                replace h := (if_pos c23).symm.trans h
                have e9 := Option.some.inj h
                subst e11
                have hl := lv_sub hl (l' := [(0, .ref (q 0)), (1, .int a0), (2, .int a1), (3, .int v12)]) [0, 1, 2, 3] rfl
                exact hj _ _ rfl _ _ _ hl hP hD hS
              ·
                replace h := (if_neg c23).symm.trans h
                refine lv_aload_n hx hb d15_78_80 rfl (lv_at hl 0 rfl) ?_
                refine va_get (D := G.1) (ci := 13) (v := .int (v13.1 9)) (C := r_13) (T := f_13) (N := 42) (ref := "PagedValuesModel") hx hb hts (fun w h => List.mem_cons_of_mem _ (ly_13 w h)) hown hK hP 0 rfl rfl 27 (by decide) (hts _ (List.mem_cons_of_mem _ k1178)) (fun _ h9 => h9) rfl d15_78_81 ?_
                refine lv_if_ne (tgt := 127) hx hb d15_78_84 rfl (fun c24 => ?_) (fun c24 => ?_)
                ·
                  replace h := (if_neg c24).symm.trans h
                  have e9 := Option.some.inj h
                  subst e11
                  have hl := lv_sub hl (l' := [(0, .ref (q 0)), (1, .int a0), (2, .int a1), (3, .int v12)]) [0, 1, 2, 3] rfl
                  exact hj _ _ rfl _ _ _ hl hP hD hS
                ·
                  replace h := (if_pos c24).symm.trans h
                  refine lv_aload_n hx hb d15_78_87 rfl (lv_at hl 0 rfl) ?_
                  refine lv_aload_n hx hb d15_78_88 rfl (lv_at hl 0 rfl) ?_
                  refine lv_iload_n hx hb d15_78_89 rfl (lv_at hl 1 rfl) ?_
                  obtain ⟨x25, hc, h⟩ := ob h
                  refine sV_i (As := [.int a0]) (rest := [.ref (q 0)]) ⟨hx, hb, hml, hown, hts⟩ (cm_rootOf l G Zd q a0 v13 x25 hc _) (kw_V (n := 1) hts k1546 k1543 k15 k1545 ks87 (by decide +kernel) ⟨Nat.le_of_ble_eq_true rfl, Nat.le_of_ble_eq_true rfl⟩) hP hD hK hS hA hZ (va_recv (ci := 13) (q0 := 0) hK hP rfl rfl) rfl hl.1 rfl (Nat.le_of_ble_eq_true rfl) d15_78_90 ⟨Nat.le_of_ble_eq_true rfl, Nat.le_of_ble_eq_true rfl⟩ (fun rr u9 H locs hp hP hD hS => ?_)
                  clear u9
                  subst rr
                  clear hc
                  refine W.eq (g2 := F0 m 93 ls [.int x25, .ref (q 0)]) rfl ?_
                  have hP : va_P G.1 vwCl (wMs q G.2 v13) H := hP
                  have hD : va_D A (wMs q G.2 v13) := hD
                  refine lv_iload_n hx hb d15_78_93 rfl (lv_at hl 3 rfl) ?_
                  obtain ⟨x28, hc, h⟩ := ob h
                  refine sV_i (As := [.int x25, .int v12]) (rest := []) ⟨hx, hb, hml, hown, hts⟩ (cm_rowOf l G Zd q x25 v12 v13 x28 hc _) (kw_V (n := 2) hts k1400 k1397 k15 k1399 ks58 (by decide +kernel) ⟨Nat.le_of_ble_eq_true rfl, Nat.le_of_ble_eq_true rfl⟩) hP hD hK hS hA hZ (va_recv (ci := 13) (q0 := 0) hK hP rfl rfl) rfl hl.1 rfl (Nat.le_of_ble_eq_true rfl) d15_78_94 ⟨Nat.le_of_ble_eq_true rfl, Nat.le_of_ble_eq_true rfl⟩ (fun rr u9 H locs hp hP hD hS => ?_)
                  clear u9
                  subst rr
                  clear hc
                  refine W.eq (g2 := F0 m 97 ls [.int x28]) rfl ?_
                  have hP : va_P G.1 vwCl (wMs q G.2 v13) H := hP
                  have hD : va_D A (wMs q G.2 v13) := hD
                  refine lv_istore (lv' := [(4, .int x28), (0, .ref (q 0)), (1, .int a0), (2, .int a1), (3, .int v12)]) hx hb d15_78_97 hl (by decide) rfl (fun ls hl => ?_)
                  refine lv_iload hx hb d15_78_99 (lv_at hl 0 rfl) ?_
                  obtain ⟨e32, hX, h⟩ := ob h
                  have hj : ∀ (H : Heap) (locs : List Loc) (ls : Array Slot), lv_has ls 5 [(0, .ref (q 0)), (1, .int a0), (2, .int a1), (3, .int v12), (4, .int x28)] → va_P G.1 vwCl (wMs q G.2 e32) H → va_D A (wMs q G.2 e32) → va_S A s.heap H locs → W p l e (rmD 7 0 0) s m ([.ref (q 0), .int a0, .int a1] : List Value).toArray below meth c H locs 0 0 (MQ below (qI G (fun rr (_ : Unit) => rr = r0) (fun _ => (wMs q G.2 st0)) A) ([.ref (q 0), .int a0, .int a1] : List Value).toArray s 0 0 A) (F0 m 121 ls []) := by
                    intro H locs ls hl hP hD hS
                    refine lv_iinc (k := 3) (v := v12 + 1) (lv' := [(3, .int (v12 + 1)), (0, .ref (q 0)), (1, .int a0), (2, .int a1), (4, .int x28)]) hx hb d15_78_121 hl rfl (by first | decide | rfl) (by decide) rfl (fun ls hl => ?_)
                    refine lv_goto (tgt := 74) hx hb d15_78_124 rfl ?_
                    have hl := lv_sub hl (l' := [(0, .ref (q 0)), (1, .int a0), (2, .int a1), (3, .int (v12 + 1))]) [1, 2, 3, 0] rfl
                    exact ih _ _ h _ _ _ hl hP hD hS
                  clear h
                  refine lv_if_lt (tgt := 121) hx hb d15_78_101 rfl (fun c31 => ?_) (fun c31 => ?_)
                  ·
                    replace h := (if_pos c31).symm.trans hX
                    have e9 := Option.some.inj h
                    subst e32
                    have hl := lv_sub hl (l' := [(0, .ref (q 0)), (1, .int a0), (2, .int a1), (3, .int v12), (4, .int x28)]) [1, 2, 3, 4, 0] rfl
                    exact hj _ _ _ hl hP hD hS
                  ·
                    replace h := (if_neg c31).symm.trans hX
                    refine lv_iload_n hx hb d15_78_104 rfl (lv_at hl 3 rfl) ?_
                    refine lv_iconst (v := (-1)) hx hb d15_78_105 (by decide) ?_
                    refine lv_icmp_eq (tgt := 114) hx hb d15_78_106 rfl (fun c34 => ?_) (fun c34 => ?_)
                    ·
                      replace h := (if_pos c34).symm.trans h
                      refine lv_aload_n hx hb d15_78_114 rfl (lv_at hl 1 rfl) ?_
                      refine lv_iload hx hb d15_78_115 (lv_at hl 0 rfl) ?_
                      refine lv_iload_n hx hb d15_78_117 rfl (lv_at hl 4 rfl) ?_
                      obtain ⟨st36, hc, h⟩ := ob h
                      refine sV_v (As := [.int x28, .int v12]) (rest := []) ⟨hx, hb, hml, hown, hts⟩ (cm_ask l G Zd q x28 v12 v13 st36 hc _) (kw_V (n := 2) hts k1581 k1578 k15 k1580 ks95 (by decide +kernel) ⟨Nat.le_of_ble_eq_true rfl, Nat.le_of_ble_eq_true rfl⟩) hP hD hK hS hA hZ (va_recv (ci := 13) (q0 := 0) hK hP rfl rfl) rfl hl.1 rfl (Nat.le_of_ble_eq_true rfl) d15_78_118 ⟨Nat.le_of_ble_eq_true rfl, Nat.le_of_ble_eq_true rfl⟩ (fun u9 H locs hp hP hD hS => ?_)
                      clear u9
                      clear hp
                      clear hc
                      refine W.eq (g2 := F0 m 121 ls []) rfl ?_
                      have hP : va_P G.1 vwCl (wMs q G.2 st36) H := hP
                      have hD : va_D A (wMs q G.2 st36) := hD
                      have e9 := Option.some.inj h
                      subst e32
                      have hl := lv_sub hl (l' := [(0, .ref (q 0)), (1, .int a0), (2, .int a1), (3, .int v12), (4, .int x28)]) [1, 2, 3, 4, 0] rfl
                      exact hj _ _ _ hl hP hD hS
                    ·
                      replace h := (if_neg c34).symm.trans h
                      refine lv_iload_n hx hb d15_78_109 rfl (lv_at hl 3 rfl) ?_
                      refine lv_iload_n hx hb d15_78_110 rfl (lv_at hl 4 rfl) ?_
                      refine lv_icmp_ne (tgt := 121) hx hb d15_78_111 rfl (fun c38 => ?_) (fun c38 => ?_)
                      ·
                        replace h := (if_neg c38).symm.trans h
                        have e9 := Option.some.inj h
                        subst e32
                        have hl := lv_sub hl (l' := [(0, .ref (q 0)), (1, .int a0), (2, .int a1), (3, .int v12), (4, .int x28)]) [1, 2, 3, 4, 0] rfl
                        exact hj _ _ _ hl hP hD hS
                      ·
                        replace h := (if_pos c38).symm.trans h
                        refine lv_aload_n hx hb d15_78_114 rfl (lv_at hl 1 rfl) ?_
                        refine lv_iload hx hb d15_78_115 (lv_at hl 0 rfl) ?_
                        refine lv_iload_n hx hb d15_78_117 rfl (lv_at hl 4 rfl) ?_
                        obtain ⟨st40, hc, h⟩ := ob h
                        refine sV_v (As := [.int x28, .int v12]) (rest := []) ⟨hx, hb, hml, hown, hts⟩ (cm_ask l G Zd q x28 v12 v13 st40 hc _) (kw_V (n := 2) hts k1581 k1578 k15 k1580 ks95 (by decide +kernel) ⟨Nat.le_of_ble_eq_true rfl, Nat.le_of_ble_eq_true rfl⟩) hP hD hK hS hA hZ (va_recv (ci := 13) (q0 := 0) hK hP rfl rfl) rfl hl.1 rfl (Nat.le_of_ble_eq_true rfl) d15_78_118 ⟨Nat.le_of_ble_eq_true rfl, Nat.le_of_ble_eq_true rfl⟩ (fun u9 H locs hp hP hD hS => ?_)
                        clear u9
                        clear hp
                        clear hc
                        refine W.eq (g2 := F0 m 121 ls []) rfl ?_
                        have hP : va_P G.1 vwCl (wMs q G.2 st40) H := hP
                        have hD : va_D A (wMs q G.2 st40) := hD
                        have e9 := Option.some.inj h
                        subst e32
                        have hl := lv_sub hl (l' := [(0, .ref (q 0)), (1, .int a0), (2, .int a1), (3, .int v12), (4, .int x28)]) [1, 2, 3, 4, 0] rfl
                        exact hj _ _ _ hl hP hD hS
          have hl := lv_sub hl (l' := [(0, .ref (q 0)), (1, .int a0), (2, .int a1), (3, .int 0)]) [1, 2, 3, 0] rfl
          exact hloop _ _ _ hX _ _ _ hl hP hD hS
        ·
          replace h := (if_neg c10).symm.trans h
          refine lv_bipush (v := (-100)) hx hb d15_78_59 (by decide) ?_
          refine lv_aload_n hx hb d15_78_61 rfl (lv_at hl 0 rfl) ?_
          refine va_get (D := G.1) (ci := 13) (v := .int (st8.1 2)) (C := r_13) (T := f_13) (N := 42) (ref := "PagedValuesModel") hx hb hts (fun w h => List.mem_cons_of_mem _ (ly_13 w h)) hown hK hP 0 rfl rfl 3 (by decide) (hts _ (List.mem_cons_of_mem _ k1154)) (fun _ h9 => h9) rfl d15_78_62 ?_
          refine lv_isub hx hb d15_78_65 ?_
          obtain ⟨y42, hr, h⟩ := ob h
          refine lv_topi (fun y9 ey => ?_)
          have e9 := ey.trans (Option.some.inj hr)
          clear ey
          subst y9
          clear hr
          cases h
          exact fin_i hx hb hr hlk hS () rfl hP hD (Nat.le_of_ble_eq_true rfl) (Nat.le_of_ble_eq_true rfl) d15_78_66
      ·
        replace h := (if_neg c6).symm.trans h
        refine lv_aload_n hx hb d15_78_23 rfl (lv_at hl 0 rfl) ?_
        refine lv_aload_n hx hb d15_78_24 rfl (lv_at hl 0 rfl) ?_
        refine lv_iload_n hx hb d15_78_25 rfl (lv_at hl 1 rfl) ?_
        obtain ⟨x43, hc, h⟩ := ob h
        refine sV_i (As := [.int a0]) (rest := [.ref (q 0)]) ⟨hx, hb, hml, hown, hts⟩ (cm_rootOf l G Zd q a0 st x43 hc _) (kw_V (n := 1) hts k1546 k1543 k15 k1545 ks87 (by decide +kernel) ⟨Nat.le_of_ble_eq_true rfl, Nat.le_of_ble_eq_true rfl⟩) hP hD hK hS hA hZ (va_recv (ci := 13) (q0 := 0) hK hP rfl rfl) rfl hl.1 rfl (Nat.le_of_ble_eq_true rfl) d15_78_26 ⟨Nat.le_of_ble_eq_true rfl, Nat.le_of_ble_eq_true rfl⟩ (fun rr u9 H locs hp hP hD hS => ?_)
        clear u9
        subst rr
        clear hc
        refine W.eq (g2 := F0 m 29 ls [.int x43, .ref (q 0)]) rfl ?_
        have hP : va_P G.1 vwCl (wMs q G.2 st) H := hP
        have hD : va_D A (wMs q G.2 st) := hD
        refine lv_iload_n hx hb d15_78_29 rfl (lv_at hl 2 rfl) ?_
        obtain ⟨x46, hc, h⟩ := ob h
        refine sV_i (As := [.int x43, .int a1]) (rest := []) ⟨hx, hb, hml, hown, hts⟩ (cm_rowOf l G Zd q x43 a1 st x46 hc _) (kw_V (n := 2) hts k1400 k1397 k15 k1399 ks58 (by decide +kernel) ⟨Nat.le_of_ble_eq_true rfl, Nat.le_of_ble_eq_true rfl⟩) hP hD hK hS hA hZ (va_recv (ci := 13) (q0 := 0) hK hP rfl rfl) rfl hl.1 rfl (Nat.le_of_ble_eq_true rfl) d15_78_30 ⟨Nat.le_of_ble_eq_true rfl, Nat.le_of_ble_eq_true rfl⟩ (fun rr u9 H locs hp hP hD hS => ?_)
        clear u9
        subst rr
        clear hc
        refine W.eq (g2 := F0 m 33 ls [.int x46]) rfl ?_
        have hP : va_P G.1 vwCl (wMs q G.2 st) H := hP
        have hD : va_D A (wMs q G.2 st) := hD
        refine lv_if_ge (tgt := 38) hx hb d15_78_33 rfl (fun c49 => ?_) (fun c49 => ?_)
        ·
          replace h := (if_pos c49).symm.trans h
          refine lv_aload_n hx hb d15_78_38 rfl (lv_at hl 0 rfl) ?_
          refine lv_iconst (v := 0) hx hb d15_78_39 (by decide) ?_
          refine va_put (D := G.1) (ci := 13) (v := .int 0) (ty := .int) (C := r_13) (T := f_13) (N := 42) (ref := "PagedValuesModel") hx hb hts (fun w h => List.mem_cons_of_mem _ (ly_13 w h)) ft_13 ft_13_ok nm_13 hown hK hP hD hS 0 rfl rfl 28 (by decide) (hts _ (List.mem_cons_of_mem _ k1179)) (fun _ h9 => h9) rfl (by decide +kernel) rfl rfl (Nat.le_of_ble_eq_true rfl) d15_78_40 (fun H locs hP hD hS => ?_)
          have hP : va_P G.1 vwCl (wMs q G.2 (upd st.1 10 0, st.2.1, st.2.2.1, st.2.2.2)) H := hP
          have hD : va_D A (wMs q G.2 (upd st.1 10 0, st.2.1, st.2.2.1, st.2.2.2)) := hD
          refine lv_aload_n hx hb d15_78_43 rfl (lv_at hl 0 rfl) ?_
          obtain ⟨st51, hc, h⟩ := ob h
          refine sV_v (As := []) (rest := []) ⟨hx, hb, hml, hown, hts⟩ (cm_readQuery l G Zd q (upd st.1 10 0, st.2.1, st.2.2.1, st.2.2.2) st51 hc _) (kw_V (n := 0) hts k1550 k1547 k15 k1549 ks88 (by decide +kernel) ⟨Nat.le_of_ble_eq_true rfl, Nat.le_of_ble_eq_true rfl⟩) hP hD hK hS hA hZ (va_recv (ci := 13) (q0 := 0) hK hP rfl rfl) rfl hl.1 rfl (Nat.le_of_ble_eq_true rfl) d15_78_44 ⟨Nat.le_of_ble_eq_true rfl, Nat.le_of_ble_eq_true rfl⟩ (fun u9 H locs hp hP hD hS => ?_)
          clear u9
          clear hp
          clear hc
          refine W.eq (g2 := F0 m 47 ls []) rfl ?_
          have hP : va_P G.1 vwCl (wMs q G.2 st51) H := hP
          have hD : va_D A (wMs q G.2 st51) := hD
          refine lv_aload_n hx hb d15_78_47 rfl (lv_at hl 0 rfl) ?_
          refine lv_iconst (v := 0) hx hb d15_78_48 (by decide) ?_
          refine va_put (D := G.1) (ci := 13) (v := .int 0) (ty := .int) (C := r_13) (T := f_13) (N := 42) (ref := "PagedValuesModel") hx hb hts (fun w h => List.mem_cons_of_mem _ (ly_13 w h)) ft_13 ft_13_ok nm_13 hown hK hP hD hS 0 rfl rfl 1 (by decide) (hts _ (List.mem_cons_of_mem _ k1152)) (fun _ h9 => h9) rfl (by decide +kernel) rfl rfl (Nat.le_of_ble_eq_true rfl) d15_78_49 (fun H locs hP hD hS => ?_)
          have hP : va_P G.1 vwCl (wMs q G.2 (upd st51.1 0 0, st51.2.1, st51.2.2.1, st51.2.2.2)) H := hP
          have hD : va_D A (wMs q G.2 (upd st51.1 0 0, st51.2.1, st51.2.2.1, st51.2.2.2)) := hD
          refine lv_aload_n hx hb d15_78_52 rfl (lv_at hl 0 rfl) ?_
          refine va_get (D := G.1) (ci := 13) (v := .int (st51.1 2)) (C := r_13) (T := f_13) (N := 42) (ref := "PagedValuesModel") hx hb hts (fun w h => List.mem_cons_of_mem _ (ly_13 w h)) hown hK hP 0 rfl rfl 3 (by decide) (hts _ (List.mem_cons_of_mem _ k1154)) (fun _ h9 => h9) rfl d15_78_53 ?_
          refine lv_if_lt (tgt := 67) hx hb d15_78_56 rfl (fun c53 => ?_) (fun c53 => ?_)
          ·
            replace h := (if_pos c53).symm.trans h
            refine lv_aload_n hx hb d15_78_67 rfl (lv_at hl 0 rfl) ?_
            refine lv_iconst (v := 0) hx hb d15_78_68 (by decide) ?_
            refine va_put (D := G.1) (ci := 13) (v := .int 0) (ty := .boolean) (C := r_13) (T := f_13) (N := 42) (ref := "PagedValuesModel") hx hb hts (fun w h => List.mem_cons_of_mem _ (ly_13 w h)) ft_13 ft_13_ok nm_13 hown hK hP hD hS 0 rfl rfl 27 (by decide) (hts _ (List.mem_cons_of_mem _ k1178)) (fun _ h9 => h9) rfl (by decide +kernel) (by decide) (by decide) (Nat.le_of_ble_eq_true rfl) d15_78_69 (fun H locs hP hD hS => ?_)
            have hP : va_P G.1 vwCl (wMs q G.2 (upd (upd st51.1 0 0) 9 0, st51.2.1, st51.2.2.1, st51.2.2.2)) H := hP
            have hD : va_D A (wMs q G.2 (upd (upd st51.1 0 0) 9 0, st51.2.1, st51.2.2.1, st51.2.2.2)) := hD
            refine lv_iconst (v := 0) hx hb d15_78_72 (by decide) ?_
            refine lv_istore_n (lv' := [(3, .int 0), (0, .ref (q 0)), (1, .int a0), (2, .int a1)]) hx hb d15_78_73 rfl hl (by decide) rfl (fun ls hl => ?_)
            obtain ⟨e54, hX, hrest⟩ := ob h
            clear h
            have hj : ∀ (v58 : Int32) (v59 : MS), e54 = (v58, v59) → ∀ (H : Heap) (locs : List Loc) (ls : Array Slot), lv_has ls 5 [(0, .ref (q 0)), (1, .int a0), (2, .int a1), (3, .int v58)] → va_P G.1 vwCl (wMs q G.2 v59) H → va_D A (wMs q G.2 v59) → va_S A s.heap H locs → W p l e (rmD 7 0 0) s m ([.ref (q 0), .int a0, .int a1] : List Value).toArray below meth c H locs 0 0 (MQ below (qI G (fun rr (_ : Unit) => rr = r0) (fun _ => (wMs q G.2 st0)) A) ([.ref (q 0), .int a0, .int a1] : List Value).toArray s 0 0 A) (F0 m 127 ls []) := by
              intro v58 v59 he H locs ls hl hP hD hS
              subst e54
              have h := hrest
              refine lv_aload_n hx hb d15_78_127 rfl (lv_at hl 0 rfl) ?_
              refine lv_aload_n hx hb d15_78_128 rfl (lv_at hl 0 rfl) ?_
              refine va_get (D := G.1) (ci := 13) (v := .int (v59.1 9)) (C := r_13) (T := f_13) (N := 42) (ref := "PagedValuesModel") hx hb hts (fun w h => List.mem_cons_of_mem _ (ly_13 w h)) hown hK hP 0 rfl rfl 27 (by decide) (hts _ (List.mem_cons_of_mem _ k1178)) (fun _ h9 => h9) rfl d15_78_129 ?_
              obtain ⟨e61, hX, h⟩ := ob h
              have hj : ∀ (H : Heap) (locs : List Loc) (ls : Array Slot), lv_has ls 5 [(0, .ref (q 0)), (1, .int a0), (2, .int a1), (3, .int v58)] → va_P G.1 vwCl (wMs q G.2 v59) H → va_D A (wMs q G.2 v59) → va_S A s.heap H locs → W p l e (rmD 7 0 0) s m ([.ref (q 0), .int a0, .int a1] : List Value).toArray below meth c H locs 0 0 (MQ below (qI G (fun rr (_ : Unit) => rr = r0) (fun _ => (wMs q G.2 st0)) A) ([.ref (q 0), .int a0, .int a1] : List Value).toArray s 0 0 A) (F0 m 143 ls [.int e61, .ref (q 0)]) := by
                intro H locs ls hl hP hD hS
                refine va_put (D := G.1) (ci := 13) (v := .int e61) (ty := .int) (C := r_13) (T := f_13) (N := 42) (ref := "PagedValuesModel") hx hb hts (fun w h => List.mem_cons_of_mem _ (ly_13 w h)) ft_13 ft_13_ok nm_13 hown hK hP hD hS 0 rfl rfl 28 (by decide) (hts _ (List.mem_cons_of_mem _ k1179)) (fun _ h9 => h9) rfl (by decide +kernel) rfl rfl (Nat.le_of_ble_eq_true rfl) d15_78_143 (fun H locs hP hD hS => ?_)
                have hP : va_P G.1 vwCl (wMs q G.2 (upd v59.1 10 e61, v59.2.1, v59.2.2.1, v59.2.2.2)) H := hP
                have hD : va_D A (wMs q G.2 (upd v59.1 10 e61, v59.2.1, v59.2.2.1, v59.2.2.2)) := hD
                refine lv_aload_n hx hb d15_78_146 rfl (lv_at hl 0 rfl) ?_
                refine va_get (D := G.1) (ci := 13) (v := .int (v59.1 9)) (C := r_13) (T := f_13) (N := 42) (ref := "PagedValuesModel") hx hb hts (fun w h => List.mem_cons_of_mem _ (ly_13 w h)) hown hK hP 0 rfl rfl 27 (by decide) (hts _ (List.mem_cons_of_mem _ k1178)) (fun _ h9 => h9) rfl d15_78_147 ?_
                obtain ⟨e64, hX, h⟩ := ob h
                have hj : ∀ (H : Heap) (locs : List Loc) (ls : Array Slot), lv_has ls 5 [(0, .ref (q 0)), (1, .int a0), (2, .int a1), (3, .int v58)] → va_P G.1 vwCl (wMs q G.2 (upd v59.1 10 e61, v59.2.1, v59.2.2.1, v59.2.2.2)) H → va_D A (wMs q G.2 (upd v59.1 10 e61, v59.2.1, v59.2.2.1, v59.2.2.2)) → va_S A s.heap H locs → W p l e (rmD 7 0 0) s m ([.ref (q 0), .int a0, .int a1] : List Value).toArray below meth c H locs 0 0 (MQ below (qI G (fun rr (_ : Unit) => rr = r0) (fun _ => (wMs q G.2 st0)) A) ([.ref (q 0), .int a0, .int a1] : List Value).toArray s 0 0 A) (F0 m 162 ls [.int e64]) := by
                  intro H locs ls hl hP hD hS
                  cases h
                  exact fin_i hx hb hr hlk hS () rfl hP hD (Nat.le_of_ble_eq_true rfl) (Nat.le_of_ble_eq_true rfl) d15_78_162
                clear h
                refine lv_if_eq (tgt := 158) hx hb d15_78_150 rfl (fun c63 => ?_) (fun c63 => ?_)
                ·
                  replace h := (if_pos c63).symm.trans hX
                  refine lv_aload_n hx hb d15_78_158 rfl (lv_at hl 0 rfl) ?_
                  refine va_get (D := G.1) (ci := 13) (v := .int e61) (C := r_13) (T := f_13) (N := 42) (ref := "PagedValuesModel") hx hb hts (fun w h => List.mem_cons_of_mem _ (ly_13 w h)) hown hK hP 0 rfl rfl 28 (by decide) (hts _ (List.mem_cons_of_mem _ k1179)) (fun _ h9 => h9) rfl d15_78_159 ?_
                  have e9 := Option.some.inj h
                  subst e64
                  have hl := lv_sub hl (l' := [(0, .ref (q 0)), (1, .int a0), (2, .int a1), (3, .int v58)]) [0, 1, 2, 3] rfl
                  exact hj _ _ _ hl hP hD hS
                ·
                  replace h := (if_neg c63).symm.trans hX
                  refine lv_bipush (v := (-6)) hx hb d15_78_153 (by decide) ?_
                  refine lv_goto (tgt := 162) hx hb d15_78_155 rfl ?_
                  have e9 := Option.some.inj h
                  subst e64
                  have hl := lv_sub hl (l' := [(0, .ref (q 0)), (1, .int a0), (2, .int a1), (3, .int v58)]) [0, 1, 2, 3] rfl
                  exact hj _ _ _ hl hP hD hS
              clear h
              refine lv_if_eq (tgt := 139) hx hb d15_78_132 rfl (fun c60 => ?_) (fun c60 => ?_)
              ·
                replace h := (if_pos c60).symm.trans hX
                refine lv_aload_n hx hb d15_78_139 rfl (lv_at hl 0 rfl) ?_
                refine va_get (D := G.1) (ci := 13) (v := .int (v59.1 10)) (C := r_13) (T := f_13) (N := 42) (ref := "PagedValuesModel") hx hb hts (fun w h => List.mem_cons_of_mem _ (ly_13 w h)) hown hK hP 0 rfl rfl 28 (by decide) (hts _ (List.mem_cons_of_mem _ k1179)) (fun _ h9 => h9) rfl d15_78_140 ?_
                have e9 := Option.some.inj h
                subst e61
                have hl := lv_sub hl (l' := [(0, .ref (q 0)), (1, .int a0), (2, .int a1), (3, .int v58)]) [0, 1, 2, 3] rfl
                exact hj _ _ _ hl hP hD hS
              ·
                replace h := (if_neg c60).symm.trans hX
                refine lv_iconst (v := 0) hx hb d15_78_135 (by decide) ?_
                refine lv_goto (tgt := 143) hx hb d15_78_136 rfl ?_
                have e9 := Option.some.inj h
                subst e61
                have hl := lv_sub hl (l' := [(0, .ref (q 0)), (1, .int a0), (2, .int a1), (3, .int v58)]) [0, 1, 2, 3] rfl
                exact hj _ _ _ hl hP hD hS
            have hloop : ∀ (n9 : Nat) (v55 : Int32) (v56 : MS), m_query_l2 a0 a1 n9 (v55, v56) = some e54 → ∀ (H : Heap) (locs : List Loc) (ls : Array Slot), lv_has ls 5 [(0, .ref (q 0)), (1, .int a0), (2, .int a1), (3, .int v55)] → va_P G.1 vwCl (wMs q G.2 v56) H → va_D A (wMs q G.2 v56) → va_S A s.heap H locs → W p l e (rmD 7 0 0) s m ([.ref (q 0), .int a0, .int a1] : List Value).toArray below meth c H locs 0 0 (MQ below (qI G (fun rr (_ : Unit) => rr = r0) (fun _ => (wMs q G.2 st0)) A) ([.ref (q 0), .int a0, .int a1] : List Value).toArray s 0 0 A) (F0 m 74 ls []) := by
              intro n9
              induction n9 with
              | zero =>
                intro v55 v56 h
                cases h
              | succ n9 ih =>
                intro v55 v56 h H locs ls hl hP hD hS
                replace h := (m_query_l2_s a0 a1 n9 (v55, v56)).symm.trans h
                refine lv_iload_n hx hb d15_78_74 rfl (lv_at hl 3 rfl) ?_
                refine lv_bipush (v := 8) hx hb d15_78_75 (by decide) ?_
                refine lv_icmp_ge (tgt := 127) hx hb d15_78_77 rfl (fun c66 => ?_) (fun c66 => ?_)
                ·
                  replace h := (if_pos c66).symm.trans h
                  have e9 := Option.some.inj h
                  subst e54
                  have hl := lv_sub hl (l' := [(0, .ref (q 0)), (1, .int a0), (2, .int a1), (3, .int v55)]) [0, 1, 2, 3] rfl
                  exact hj _ _ rfl _ _ _ hl hP hD hS
                ·
                  replace h := (if_neg c66).symm.trans h
                  refine lv_aload_n hx hb d15_78_80 rfl (lv_at hl 0 rfl) ?_
                  refine va_get (D := G.1) (ci := 13) (v := .int (v56.1 9)) (C := r_13) (T := f_13) (N := 42) (ref := "PagedValuesModel") hx hb hts (fun w h => List.mem_cons_of_mem _ (ly_13 w h)) hown hK hP 0 rfl rfl 27 (by decide) (hts _ (List.mem_cons_of_mem _ k1178)) (fun _ h9 => h9) rfl d15_78_81 ?_
                  refine lv_if_ne (tgt := 127) hx hb d15_78_84 rfl (fun c67 => ?_) (fun c67 => ?_)
                  ·
                    replace h := (if_neg c67).symm.trans h
                    have e9 := Option.some.inj h
                    subst e54
                    have hl := lv_sub hl (l' := [(0, .ref (q 0)), (1, .int a0), (2, .int a1), (3, .int v55)]) [0, 1, 2, 3] rfl
                    exact hj _ _ rfl _ _ _ hl hP hD hS
                  ·
                    replace h := (if_pos c67).symm.trans h
                    refine lv_aload_n hx hb d15_78_87 rfl (lv_at hl 0 rfl) ?_
                    refine lv_aload_n hx hb d15_78_88 rfl (lv_at hl 0 rfl) ?_
                    refine lv_iload_n hx hb d15_78_89 rfl (lv_at hl 1 rfl) ?_
                    obtain ⟨x68, hc, h⟩ := ob h
                    refine sV_i (As := [.int a0]) (rest := [.ref (q 0)]) ⟨hx, hb, hml, hown, hts⟩ (cm_rootOf l G Zd q a0 v56 x68 hc _) (kw_V (n := 1) hts k1546 k1543 k15 k1545 ks87 (by decide +kernel) ⟨Nat.le_of_ble_eq_true rfl, Nat.le_of_ble_eq_true rfl⟩) hP hD hK hS hA hZ (va_recv (ci := 13) (q0 := 0) hK hP rfl rfl) rfl hl.1 rfl (Nat.le_of_ble_eq_true rfl) d15_78_90 ⟨Nat.le_of_ble_eq_true rfl, Nat.le_of_ble_eq_true rfl⟩ (fun rr u9 H locs hp hP hD hS => ?_)
                    clear u9
                    subst rr
                    clear hc
                    refine W.eq (g2 := F0 m 93 ls [.int x68, .ref (q 0)]) rfl ?_
                    have hP : va_P G.1 vwCl (wMs q G.2 v56) H := hP
                    have hD : va_D A (wMs q G.2 v56) := hD
                    refine lv_iload_n hx hb d15_78_93 rfl (lv_at hl 3 rfl) ?_
                    obtain ⟨x71, hc, h⟩ := ob h
                    refine sV_i (As := [.int x68, .int v55]) (rest := []) ⟨hx, hb, hml, hown, hts⟩ (cm_rowOf l G Zd q x68 v55 v56 x71 hc _) (kw_V (n := 2) hts k1400 k1397 k15 k1399 ks58 (by decide +kernel) ⟨Nat.le_of_ble_eq_true rfl, Nat.le_of_ble_eq_true rfl⟩) hP hD hK hS hA hZ (va_recv (ci := 13) (q0 := 0) hK hP rfl rfl) rfl hl.1 rfl (Nat.le_of_ble_eq_true rfl) d15_78_94 ⟨Nat.le_of_ble_eq_true rfl, Nat.le_of_ble_eq_true rfl⟩ (fun rr u9 H locs hp hP hD hS => ?_)
                    clear u9
                    subst rr
                    clear hc
                    refine W.eq (g2 := F0 m 97 ls [.int x71]) rfl ?_
                    have hP : va_P G.1 vwCl (wMs q G.2 v56) H := hP
                    have hD : va_D A (wMs q G.2 v56) := hD
                    refine lv_istore (lv' := [(4, .int x71), (0, .ref (q 0)), (1, .int a0), (2, .int a1), (3, .int v55)]) hx hb d15_78_97 hl (by decide) rfl (fun ls hl => ?_)
                    refine lv_iload hx hb d15_78_99 (lv_at hl 0 rfl) ?_
                    obtain ⟨e75, hX, h⟩ := ob h
                    have hj : ∀ (H : Heap) (locs : List Loc) (ls : Array Slot), lv_has ls 5 [(0, .ref (q 0)), (1, .int a0), (2, .int a1), (3, .int v55), (4, .int x71)] → va_P G.1 vwCl (wMs q G.2 e75) H → va_D A (wMs q G.2 e75) → va_S A s.heap H locs → W p l e (rmD 7 0 0) s m ([.ref (q 0), .int a0, .int a1] : List Value).toArray below meth c H locs 0 0 (MQ below (qI G (fun rr (_ : Unit) => rr = r0) (fun _ => (wMs q G.2 st0)) A) ([.ref (q 0), .int a0, .int a1] : List Value).toArray s 0 0 A) (F0 m 121 ls []) := by
                      intro H locs ls hl hP hD hS
                      refine lv_iinc (k := 3) (v := v55 + 1) (lv' := [(3, .int (v55 + 1)), (0, .ref (q 0)), (1, .int a0), (2, .int a1), (4, .int x71)]) hx hb d15_78_121 hl rfl (by first | decide | rfl) (by decide) rfl (fun ls hl => ?_)
                      refine lv_goto (tgt := 74) hx hb d15_78_124 rfl ?_
                      have hl := lv_sub hl (l' := [(0, .ref (q 0)), (1, .int a0), (2, .int a1), (3, .int (v55 + 1))]) [1, 2, 3, 0] rfl
                      exact ih _ _ h _ _ _ hl hP hD hS
                    clear h
                    refine lv_if_lt (tgt := 121) hx hb d15_78_101 rfl (fun c74 => ?_) (fun c74 => ?_)
                    ·
                      replace h := (if_pos c74).symm.trans hX
                      have e9 := Option.some.inj h
                      subst e75
                      have hl := lv_sub hl (l' := [(0, .ref (q 0)), (1, .int a0), (2, .int a1), (3, .int v55), (4, .int x71)]) [1, 2, 3, 4, 0] rfl
                      exact hj _ _ _ hl hP hD hS
                    ·
                      replace h := (if_neg c74).symm.trans hX
                      refine lv_iload_n hx hb d15_78_104 rfl (lv_at hl 3 rfl) ?_
                      refine lv_iconst (v := (-1)) hx hb d15_78_105 (by decide) ?_
                      refine lv_icmp_eq (tgt := 114) hx hb d15_78_106 rfl (fun c77 => ?_) (fun c77 => ?_)
                      ·
                        replace h := (if_pos c77).symm.trans h
                        refine lv_aload_n hx hb d15_78_114 rfl (lv_at hl 1 rfl) ?_
                        refine lv_iload hx hb d15_78_115 (lv_at hl 0 rfl) ?_
                        refine lv_iload_n hx hb d15_78_117 rfl (lv_at hl 4 rfl) ?_
                        obtain ⟨st79, hc, h⟩ := ob h
                        refine sV_v (As := [.int x71, .int v55]) (rest := []) ⟨hx, hb, hml, hown, hts⟩ (cm_ask l G Zd q x71 v55 v56 st79 hc _) (kw_V (n := 2) hts k1581 k1578 k15 k1580 ks95 (by decide +kernel) ⟨Nat.le_of_ble_eq_true rfl, Nat.le_of_ble_eq_true rfl⟩) hP hD hK hS hA hZ (va_recv (ci := 13) (q0 := 0) hK hP rfl rfl) rfl hl.1 rfl (Nat.le_of_ble_eq_true rfl) d15_78_118 ⟨Nat.le_of_ble_eq_true rfl, Nat.le_of_ble_eq_true rfl⟩ (fun u9 H locs hp hP hD hS => ?_)
                        clear u9
                        clear hp
                        clear hc
                        refine W.eq (g2 := F0 m 121 ls []) rfl ?_
                        have hP : va_P G.1 vwCl (wMs q G.2 st79) H := hP
                        have hD : va_D A (wMs q G.2 st79) := hD
                        have e9 := Option.some.inj h
                        subst e75
                        have hl := lv_sub hl (l' := [(0, .ref (q 0)), (1, .int a0), (2, .int a1), (3, .int v55), (4, .int x71)]) [1, 2, 3, 4, 0] rfl
                        exact hj _ _ _ hl hP hD hS
                      ·
                        replace h := (if_neg c77).symm.trans h
                        refine lv_iload_n hx hb d15_78_109 rfl (lv_at hl 3 rfl) ?_
                        refine lv_iload_n hx hb d15_78_110 rfl (lv_at hl 4 rfl) ?_
                        refine lv_icmp_ne (tgt := 121) hx hb d15_78_111 rfl (fun c81 => ?_) (fun c81 => ?_)
                        ·
                          replace h := (if_neg c81).symm.trans h
                          have e9 := Option.some.inj h
                          subst e75
                          have hl := lv_sub hl (l' := [(0, .ref (q 0)), (1, .int a0), (2, .int a1), (3, .int v55), (4, .int x71)]) [1, 2, 3, 4, 0] rfl
                          exact hj _ _ _ hl hP hD hS
                        ·
                          replace h := (if_pos c81).symm.trans h
                          refine lv_aload_n hx hb d15_78_114 rfl (lv_at hl 1 rfl) ?_
                          refine lv_iload hx hb d15_78_115 (lv_at hl 0 rfl) ?_
                          refine lv_iload_n hx hb d15_78_117 rfl (lv_at hl 4 rfl) ?_
                          obtain ⟨st83, hc, h⟩ := ob h
                          refine sV_v (As := [.int x71, .int v55]) (rest := []) ⟨hx, hb, hml, hown, hts⟩ (cm_ask l G Zd q x71 v55 v56 st83 hc _) (kw_V (n := 2) hts k1581 k1578 k15 k1580 ks95 (by decide +kernel) ⟨Nat.le_of_ble_eq_true rfl, Nat.le_of_ble_eq_true rfl⟩) hP hD hK hS hA hZ (va_recv (ci := 13) (q0 := 0) hK hP rfl rfl) rfl hl.1 rfl (Nat.le_of_ble_eq_true rfl) d15_78_118 ⟨Nat.le_of_ble_eq_true rfl, Nat.le_of_ble_eq_true rfl⟩ (fun u9 H locs hp hP hD hS => ?_)
                          clear u9
                          clear hp
                          clear hc
                          refine W.eq (g2 := F0 m 121 ls []) rfl ?_
                          have hP : va_P G.1 vwCl (wMs q G.2 st83) H := hP
                          have hD : va_D A (wMs q G.2 st83) := hD
                          have e9 := Option.some.inj h
                          subst e75
                          have hl := lv_sub hl (l' := [(0, .ref (q 0)), (1, .int a0), (2, .int a1), (3, .int v55), (4, .int x71)]) [1, 2, 3, 4, 0] rfl
                          exact hj _ _ _ hl hP hD hS
            have hl := lv_sub hl (l' := [(0, .ref (q 0)), (1, .int a0), (2, .int a1), (3, .int 0)]) [1, 2, 3, 0] rfl
            exact hloop _ _ _ hX _ _ _ hl hP hD hS
          ·
            replace h := (if_neg c53).symm.trans h
            refine lv_bipush (v := (-100)) hx hb d15_78_59 (by decide) ?_
            refine lv_aload_n hx hb d15_78_61 rfl (lv_at hl 0 rfl) ?_
            refine va_get (D := G.1) (ci := 13) (v := .int (st51.1 2)) (C := r_13) (T := f_13) (N := 42) (ref := "PagedValuesModel") hx hb hts (fun w h => List.mem_cons_of_mem _ (ly_13 w h)) hown hK hP 0 rfl rfl 3 (by decide) (hts _ (List.mem_cons_of_mem _ k1154)) (fun _ h9 => h9) rfl d15_78_62 ?_
            refine lv_isub hx hb d15_78_65 ?_
            obtain ⟨y85, hr, h⟩ := ob h
            refine lv_topi (fun y9 ey => ?_)
            have e9 := ey.trans (Option.some.inj hr)
            clear ey
            subst y9
            clear hr
            cases h
            exact fin_i hx hb hr hlk hS () rfl hP hD (Nat.le_of_ble_eq_true rfl) (Nat.le_of_ble_eq_true rfl) d15_78_66
        ·
          replace h := (if_neg c49).symm.trans h
          refine lv_iconst (v := (-1)) hx hb d15_78_36 (by decide) ?_
          cases h
          exact fin_i hx hb hr hlk hS () rfl hP hD (Nat.le_of_ble_eq_true rfl) (Nat.le_of_ble_eq_true rfl) d15_78_37
  ·
    replace h := (if_neg c1).symm.trans h
    refine lv_bipush (v := (-9)) hx hb d15_78_7 (by decide) ?_
    cases h
    exact fin_i hx hb hr hlk hS () rfl hP hD (Nat.le_of_ble_eq_true rfl) (Nat.le_of_ble_eq_true rfl) d15_78_9
