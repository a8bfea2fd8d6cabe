def m_element_l1 (a0 : Int32) (st : MS) : Nat → (Int32 × Int32 × Int32) → Option (Int32 × Int32 × Int32)
  | 0, _ => none
  | n9 + 1, e9 => (rd (st.2.2.1 2) 2100 a0).bind fun x10 => (some (a0 + x10)).bind fun y11 => if y11 ≤ e9.2.2 then (some (e9.1, e9.2.1, e9.2.2)) else ((if e9.1 = (0 : Int32) then (some e9.2.2) else (some e9.2.1)).bind fun e14 => (rd (st.2.2.1 2) 2100 e9.2.2).bind fun x16 => (some (e9.2.2 + x16)).bind fun y17 => m_element_l1 a0 st n9 (e9.1 + (-1), e14, y17))
theorem m_element_l1_s (a0 : Int32) (st : MS) (n9 : Nat) (e9 : Int32 × Int32 × Int32) : m_element_l1 a0 st (n9 + 1) e9 = ((rd (st.2.2.1 2) 2100 a0).bind fun x10 => (some (a0 + x10)).bind fun y11 => if y11 ≤ e9.2.2 then (some (e9.1, e9.2.1, e9.2.2)) else ((if e9.1 = (0 : Int32) then (some e9.2.2) else (some e9.2.1)).bind fun e14 => (rd (st.2.2.1 2) 2100 e9.2.2).bind fun x16 => (some (e9.2.2 + x16)).bind fun y17 => m_element_l1 a0 st n9 (e9.1 + (-1), e14, y17))) := rfl
def m_element (a0 : Int32) (a1 : Int32) (st : MS) : Option (Int32) := (some (a0 + 1)).bind fun y1 => (m_element_l1 a0 st 4096 (a1, ((-1) : Int32), y1)).bind fun e2 => some e2.2.1
set_option maxHeartbeats 4000000 in
set_option maxRecDepth 100000 in
theorem cm_element (l : Launch) (G : Gk) (Zd : Nat → Nat) (q : Nat → Nat) (a0 : Int32) (a1 : Int32) (st : MS) (r0 : Int32) (hm : m_element a0 a1 st = some r0) (sz : Nat) : Met l y15_37 (Cond.code y15_37 prog_15_method_37_code 6 (some .int) :: TB) (rmD 0 0 0) (va_Pc [.ref (q 0), .int a0, .int a1] (pcW G Zd (wMs q G.2 st) sz)) (qI G (fun rr (_ : Unit) => rr = r0) (fun _ => (wMs q G.2 st)) (va_A (wMs q G.2 st) sz)) 0 0 (va_A (wMs q G.2 st) sz) := by
  refine go (y := y15_37) (cc := prog_15_method_37_code) (maxL := 6) (ret := (some .int)) (av := [.ref (q 0), .int a0, .int a1]) (Qc := qI G (fun rr (_ : Unit) => rr = r0) (fun _ => (wMs q G.2 st))) "PagedValuesModel" rfl (by decide) (Nat.le_of_ble_eq_true rfl) ?_
  intro p e s m below meth c ls A hx hb hr hlk hml hown hts hin hl hP hD hK hS hA hZ
  have hl : lv_has ls 6 [(0, .ref (q 0)), (1, .int a0), (2, .int a1)] := hl
  have h := hm
  clear hm
  refine lv_iload_n hx hb d15_37_0 rfl (lv_at hl 2 rfl) ?_
  refine lv_istore_n (lv' := [(3, .int a1), (0, .ref (q 0)), (1, .int a0), (2, .int a1)]) hx hb d15_37_1 rfl hl (by decide) rfl (fun ls hl => ?_)
  refine lv_iconst (v := (-1)) hx hb d15_37_2 (by decide) ?_
  refine lv_istore (lv' := [(4, .int (-1)), (3, .int a1), (0, .ref (q 0)), (1, .int a0), (2, .int a1)]) hx hb d15_37_3 hl (by decide) rfl (fun ls hl => ?_)
  refine lv_iload_n hx hb d15_37_5 rfl (lv_at hl 3 rfl) ?_
  refine lv_iconst (v := 1) hx hb d15_37_6 (by decide) ?_
  refine lv_iadd hx hb d15_37_7 ?_
  obtain ⟨y1, hr, h⟩ := ob h
  refine lv_topi (fun y9 ey => ?_)
  have e9 := ey.trans (Option.some.inj hr)
  clear ey
  subst y9
  clear hr
  refine lv_istore (lv' := [(5, .int y1), (4, .int (-1)), (3, .int a1), (0, .ref (q 0)), (1, .int a0), (2, .int a1)]) hx hb d15_37_8 hl (by decide) rfl (fun ls hl => ?_)
  obtain ⟨e2, hX, hrest⟩ := ob h
  clear h
  have hj : ∀ (v7 : Int32) (v8 : Int32) (v9 : Int32), e2 = (v7, v8, v9) → ∀ (H : Heap) (locs : List Loc) (ls : Array Slot), lv_has ls 6 [(0, .ref (q 0)), (1, .int a0), (2, .int a1), (3, .int v7), (4, .int v8), (5, .int v9)] → va_P G.1 vwCl (wMs q G.2 st) H → va_D A (wMs q G.2 st) → va_S A s.heap H locs → W p l e (rmD 0 0 0) s m ([.ref (q 0), .int a0, .int a1] : List Value).toArray below meth c H locs 0 0 (MQ below (qI G (fun rr (_ : Unit) => rr = r0) (fun _ => (wMs q G.2 st)) A) ([.ref (q 0), .int a0, .int a1] : List Value).toArray s 0 0 A) (F0 m 54 ls []) := by
    intro v7 v8 v9 he H locs ls hl hP hD hS
    subst e2
    have h := hrest
    refine lv_iload hx hb d15_37_54 (lv_at hl 4 rfl) ?_
    cases h
    exact fin_i hx hb hr hlk hS () rfl hP hD (Nat.le_of_ble_eq_true rfl) (Nat.le_of_ble_eq_true rfl) d15_37_56
  have hloop : ∀ (n9 : Nat) (v3 : Int32) (v4 : Int32) (v5 : Int32), m_element_l1 a0 st n9 (v3, v4, v5) = some e2 → ∀ (H : Heap) (locs : List Loc) (ls : Array Slot), lv_has ls 6 [(0, .ref (q 0)), (1, .int a0), (2, .int a1), (3, .int v3), (4, .int v4), (5, .int v5)] → va_P G.1 vwCl (wMs q G.2 st) H → va_D A (wMs q G.2 st) → va_S A s.heap H locs → W p l e (rmD 0 0 0) s m ([.ref (q 0), .int a0, .int a1] : List Value).toArray below meth c H locs 0 0 (MQ below (qI G (fun rr (_ : Unit) => rr = r0) (fun _ => (wMs q G.2 st)) A) ([.ref (q 0), .int a0, .int a1] : List Value).toArray s 0 0 A) (F0 m 10 ls []) := by
    intro n9
    induction n9 with
    | zero =>
      intro v3 v4 v5 h
      cases h
    | succ n9 ih =>
      intro v3 v4 v5 h H locs ls hl hP hD hS
      replace h := (m_element_l1_s a0 st n9 (v3, v4, v5)).symm.trans h
      refine lv_iload hx hb d15_37_10 (lv_at hl 5 rfl) ?_
      refine lv_iload_n hx hb d15_37_12 rfl (lv_at hl 1 rfl) ?_
      refine lv_aload_n hx hb d15_37_13 rfl (lv_at hl 0 rfl) ?_
      refine va_get (D := G.1) (ci := 13) (v := .ref (q 3)) (C := r_13) (T := f_13) (N := 42) (ref := "PagedValuesModel") hx hb hts (fun w h => List.mem_cons_of_mem _ (ly_13 w h)) hown hK hP 0 rfl rfl 5 (by decide) (hts _ (List.mem_cons_of_mem _ k1156)) (fun _ h9 => h9) rfl d15_37_14 ?_
      refine lv_iload_n hx hb d15_37_17 rfl (lv_at hl 1 rfl) ?_
      obtain ⟨x10, hr, h⟩ := ob h
      obtain ⟨hi, hv⟩ := rd_some hr
      refine va_bald (D := G.1) hx hb hK hP 3 2 rfl rfl (i := a0) hi d15_37_18 ?_
      refine lv_topi (fun y9 ey => ?_)
      have e9 := ey.trans hv
      clear ey
      subst y9
      clear hv hi hr
      refine lv_iadd hx hb d15_37_19 ?_
      obtain ⟨y11, hr, h⟩ := ob h
      refine lv_topi (fun y9 ey => ?_)
      have e9 := ey.trans (Option.some.inj hr)
      clear ey
      subst y9
      clear hr
      refine lv_icmp_ge (tgt := 54) hx hb d15_37_20 rfl (fun c12 => ?_) (fun c12 => ?_)
      ·
        replace h := (if_pos c12).symm.trans h
        have e9 := Option.some.inj h
        subst e2
        have hl := lv_sub hl (l' := [(0, .ref (q 0)), (1, .int a0), (2, .int a1), (3, .int v3), (4, .int v4), (5, .int v5)]) [0, 1, 2, 3, 4, 5] rfl
        exact hj _ _ _ rfl _ _ _ hl hP hD hS
      ·
        replace h := (if_neg c12).symm.trans h
        refine lv_iload_n hx hb d15_37_23 rfl (lv_at hl 3 rfl) ?_
        obtain ⟨e14, hX, h⟩ := ob h
        have hj : ∀ (H : Heap) (locs : List Loc) (ls : Array Slot), lv_has ls 6 [(0, .ref (q 0)), (1, .int a0), (2, .int a1), (3, .int v3), (4, .int v4), (5, .int v5)] → va_P G.1 vwCl (wMs q G.2 st) H → va_D A (wMs q G.2 st) → va_S A s.heap H locs → W p l e (rmD 0 0 0) s m ([.ref (q 0), .int a0, .int a1] : List Value).toArray below meth c H locs 0 0 (MQ below (qI G (fun rr (_ : Unit) => rr = r0) (fun _ => (wMs q G.2 st)) A) ([.ref (q 0), .int a0, .int a1] : List Value).toArray s 0 0 A) (F0 m 34 ls [.int e14]) := by
          intro H locs ls hl hP hD hS
          refine lv_istore (lv' := [(4, .int e14), (0, .ref (q 0)), (1, .int a0), (2, .int a1), (3, .int v3), (5, .int v5)]) hx hb d15_37_34 hl (by decide) rfl (fun ls hl => ?_)
          refine lv_iinc (k := 4) (v := v3 + (-1)) (lv' := [(3, .int (v3 + (-1))), (4, .int e14), (0, .ref (q 0)), (1, .int a0), (2, .int a1), (5, .int v5)]) hx hb d15_37_36 hl rfl (by first | decide | rfl) (by decide) rfl (fun ls hl => ?_)
          refine lv_iload hx hb d15_37_39 (lv_at hl 5 rfl) ?_
          refine lv_aload_n hx hb d15_37_41 rfl (lv_at hl 2 rfl) ?_
          refine va_get (D := G.1) (ci := 13) (v := .ref (q 3)) (C := r_13) (T := f_13) (N := 42) (ref := "PagedValuesModel") hx hb hts (fun w h => List.mem_cons_of_mem _ (ly_13 w h)) hown hK hP 0 rfl rfl 5 (by decide) (hts _ (List.mem_cons_of_mem _ k1156)) (fun _ h9 => h9) rfl d15_37_42 ?_
          refine lv_iload hx hb d15_37_45 (lv_at hl 5 rfl) ?_
          obtain ⟨x16, hr, h⟩ := ob h
          obtain ⟨hi, hv⟩ := rd_some hr
          refine va_bald (D := G.1) hx hb hK hP 3 2 rfl rfl (i := v5) hi d15_37_47 ?_
          refine lv_topi (fun y9 ey => ?_)
          have e9 := ey.trans hv
          clear ey
          subst y9
          clear hv hi hr
          refine lv_iadd hx hb d15_37_48 ?_
          obtain ⟨y17, hr, h⟩ := ob h
          refine lv_topi (fun y9 ey => ?_)
          have e9 := ey.trans (Option.some.inj hr)
          clear ey
          subst y9
          clear hr
          refine lv_istore (lv' := [(5, .int y17), (3, .int (v3 + (-1))), (4, .int e14), (0, .ref (q 0)), (1, .int a0), (2, .int a1)]) hx hb d15_37_49 hl (by decide) rfl (fun ls hl => ?_)
          refine lv_goto (tgt := 10) hx hb d15_37_51 rfl ?_
          have hl := lv_sub hl (l' := [(0, .ref (q 0)), (1, .int a0), (2, .int a1), (3, .int (v3 + (-1))), (4, .int e14), (5, .int y17)]) [3, 4, 5, 1, 2, 0] rfl
          exact ih _ _ _ h _ _ _ hl hP hD hS
        clear h
        refine lv_if_ne (tgt := 32) hx hb d15_37_24 rfl (fun c13 => ?_) (fun c13 => ?_)
        ·
          replace h := (if_neg c13).symm.trans hX
          refine lv_iload hx hb d15_37_32 (lv_at hl 4 rfl) ?_
          have e9 := Option.some.inj h
          subst e14
          have hl := lv_sub hl (l' := [(0, .ref (q 0)), (1, .int a0), (2, .int a1), (3, .int v3), (4, .int v4), (5, .int v5)]) [0, 1, 2, 3, 4, 5] rfl
          exact hj _ _ _ hl hP hD hS
        ·
          replace h := (if_pos c13).symm.trans hX
          refine lv_iload hx hb d15_37_27 (lv_at hl 5 rfl) ?_
          refine lv_goto (tgt := 34) hx hb d15_37_29 rfl ?_
          have e9 := Option.some.inj h
          subst e14
          have hl := lv_sub hl (l' := [(0, .ref (q 0)), (1, .int a0), (2, .int a1), (3, .int v3), (4, .int v4), (5, .int v5)]) [0, 1, 2, 3, 4, 5] rfl
          exact hj _ _ _ hl hP hD hS
  have hl := lv_sub hl (l' := [(0, .ref (q 0)), (1, .int a0), (2, .int a1), (3, .int a1), (4, .int (-1)), (5, .int y1)]) [3, 4, 5, 2, 1, 0] rfl
  exact hloop _ _ _ _ hX _ _ _ hl hP hD hS
def m_walk_l1 (a0 : Int64) (a1 : Int64) (a2 : Int32) : Nat → (Int32 × Int32 × MS) → Option (Int32 × Int32 × MS)
  | 0, _ => none
  | n9 + 1, e9 => if a2 ≤ e9.2.1 then (some (e9.1, e9.2.1, e9.2.2)) else (if e9.1 < (0 : Int32) then (some (e9.1, e9.2.1, e9.2.2)) else ((m_token a0 a1 e9.2.1 e9.2.2).bind fun r16 => (rd (r16.2.2.2.1 1) 2100 e9.1).bind fun x17 => (if x17 = (5 : Int32) then ((m_tokenNumber r16.2).bind fun x32 => some x32) else (some ((-1) : Int32))).bind fun e19 => (rd (r16.2.2.2.1 1) 2100 e9.1).bind fun x21 => (if x21 = (6 : Int32) then ((m_member e9.1 (r16.2.2.1 0) (r16.2.2.1 1) r16.2).bind fun x29 => some x29) else (if e19 < (0 : Int32) then (some ((-1) : Int32)) else ((m_element e9.1 e19 r16.2).bind fun x26 => some x26))).bind fun e23 => m_walk_l1 a0 a1 a2 n9 (e23, r16.1, r16.2)))
theorem m_walk_l1_s (a0 : Int64) (a1 : Int64) (a2 : Int32) (n9 : Nat) (e9 : Int32 × Int32 × MS) : m_walk_l1 a0 a1 a2 (n9 + 1) e9 = (if a2 ≤ e9.2.1 then (some (e9.1, e9.2.1, e9.2.2)) else (if e9.1 < (0 : Int32) then (some (e9.1, e9.2.1, e9.2.2)) else ((m_token a0 a1 e9.2.1 e9.2.2).bind fun r16 => (rd (r16.2.2.2.1 1) 2100 e9.1).bind fun x17 => (if x17 = (5 : Int32) then ((m_tokenNumber r16.2).bind fun x32 => some x32) else (some ((-1) : Int32))).bind fun e19 => (rd (r16.2.2.2.1 1) 2100 e9.1).bind fun x21 => (if x21 = (6 : Int32) then ((m_member e9.1 (r16.2.2.1 0) (r16.2.2.1 1) r16.2).bind fun x29 => some x29) else (if e19 < (0 : Int32) then (some ((-1) : Int32)) else ((m_element e9.1 e19 r16.2).bind fun x26 => some x26))).bind fun e23 => m_walk_l1 a0 a1 a2 n9 (e23, r16.1, r16.2)))) := rfl
def m_walk (a0 : Int64) (a1 : Int64) (a2 : Int32) (st : MS) : Option (Int32 × MS) := (m_at (81 : Int32)).bind fun x1 => (m_walk_l1 a0 a1 a2 4096 (x1, (0 : Int32), st)).bind fun e4 => some (e4.1, e4.2.2)
set_option maxHeartbeats 4000000 in
set_option maxRecDepth 100000 in
theorem cm_walk (l : Launch) (G : Gk) (Zd : Nat → Nat) (q : Nat → Nat) (a0 : Int64) (a1 : Int64) (a2 : Int32) (st : MS) (r0 : Int32) (st0 : MS) (hm : m_walk a0 a1 a2 st = some (r0, st0)) (sz : Nat) : Met l y15_43 (Cond.code y15_43 prog_15_method_43_code 9 (some .int) :: TB) (rmD 3 0 0) (va_Pc [.ref (q 0), .long a0, .long a1, .int a2] (pcW G Zd (wMs q G.2 st) sz)) (qI G (fun rr (_ : Unit) => rr = r0) (fun _ => (wMs q G.2 st0)) (va_A (wMs q G.2 st) sz)) 0 0 (va_A (wMs q G.2 st) sz) := by
  refine go (y := y15_43) (cc := prog_15_method_43_code) (maxL := 9) (ret := (some .int)) (av := [.ref (q 0), .long a0, .long a1, .int a2]) (Qc := qI G (fun rr (_ : Unit) => rr = r0) (fun _ => (wMs q G.2 st0))) "PagedValuesModel" rfl (by decide) (Nat.le_of_ble_eq_true rfl) ?_
  intro p e s m below meth c ls A hx hb hr hlk hml hown hts hin hl hP hD hK hS hA hZ
  have hl : lv_has ls 9 [(0, .ref (q 0)), (1, .long a0), (3, .long a1), (5, .int a2)] := hl
  have h := hm
  clear hm
  refine lv_bipush (v := 81) hx hb d15_43_0 (by decide) ?_
  obtain ⟨x1, hc, h⟩ := ob h
  refine sS_i (As := [.int 81]) (rest := []) ⟨hx, hb, hml, hown, hts⟩ (cm_at l G Zd _ (81 : Int32) x1 hc _) (kw_S (n := 1) hts k1312 k1310 k15 k1311 (by decide +kernel) ⟨Nat.le_of_ble_eq_true rfl, Nat.le_of_ble_eq_true rfl⟩) hP hD hK hS hA hZ rfl hl.1 rfl (Nat.le_of_ble_eq_true rfl) d15_43_2 ⟨Nat.le_of_ble_eq_true rfl, Nat.le_of_ble_eq_true rfl⟩ (fun rr u9 H locs hp hP hD hS => ?_)
  clear u9
  subst rr
  clear hc
  refine W.eq (g2 := F0 m 5 ls [.int x1]) rfl ?_
  have hP : va_P G.1 vwCl (wMs q G.2 st) H := hP
  have hD : va_D A (wMs q G.2 st) := hD
  refine lv_istore (lv' := [(6, .int x1), (0, .ref (q 0)), (1, .long a0), (3, .long a1), (5, .int a2)]) hx hb d15_43_5 hl (by decide) rfl (fun ls hl => ?_)
  refine lv_iconst (v := 0) hx hb d15_43_7 (by decide) ?_
  refine lv_istore (lv' := [(7, .int 0), (6, .int x1), (0, .ref (q 0)), (1, .long a0), (3, .long a1), (5, .int a2)]) hx hb d15_43_8 hl (by decide) rfl (fun ls hl => ?_)
  obtain ⟨e4, hX, hrest⟩ := ob h
  clear h
  have hj : ∀ (v9 : Int32) (v10 : Int32) (v11 : MS), e4 = (v9, v10, v11) → ∀ (H : Heap) (locs : List Loc) (ls : Array Slot), lv_has ls 9 [(0, .ref (q 0)), (1, .long a0), (3, .long a1), (5, .int a2), (6, .int v9), (7, .int v10)] → va_P G.1 vwCl (wMs q G.2 v11) H → va_D A (wMs q G.2 v11) → va_S A s.heap H locs → W p l e (rmD 3 0 0) s m ([.ref (q 0), .long a0, .long a1, .int a2] : List Value).toArray below meth c H locs 0 0 (MQ below (qI G (fun rr (_ : Unit) => rr = r0) (fun _ => (wMs q G.2 st0)) A) ([.ref (q 0), .long a0, .long a1, .int a2] : List Value).toArray s 0 0 A) (F0 m 104 ls []) := by
    intro v9 v10 v11 he H locs ls hl hP hD hS
    subst e4
    have h := hrest
    refine lv_iload hx hb d15_43_104 (lv_at hl 4 rfl) ?_
    cases h
    exact fin_i hx hb hr hlk hS () rfl hP hD (Nat.le_of_ble_eq_true rfl) (Nat.le_of_ble_eq_true rfl) d15_43_106
  have hloop : ∀ (n9 : Nat) (v5 : Int32) (v6 : Int32) (v7 : MS), m_walk_l1 a0 a1 a2 n9 (v5, v6, v7) = some e4 → ∀ (H : Heap) (locs : List Loc) (ls : Array Slot), lv_has ls 9 [(0, .ref (q 0)), (1, .long a0), (3, .long a1), (5, .int a2), (6, .int v5), (7, .int v6)] → va_P G.1 vwCl (wMs q G.2 v7) H → va_D A (wMs q G.2 v7) → va_S A s.heap H locs → W p l e (rmD 3 0 0) s m ([.ref (q 0), .long a0, .long a1, .int a2] : List Value).toArray below meth c H locs 0 0 (MQ below (qI G (fun rr (_ : Unit) => rr = r0) (fun _ => (wMs q G.2 st0)) A) ([.ref (q 0), .long a0, .long a1, .int a2] : List Value).toArray s 0 0 A) (F0 m 10 ls []) := by
    intro n9
    induction n9 with
    | zero =>
      intro v5 v6 v7 h
      cases h
    | succ n9 ih =>
      intro v5 v6 v7 h H locs ls hl hP hD hS
      replace h := (m_walk_l1_s a0 a1 a2 n9 (v5, v6, v7)).symm.trans h
      refine lv_iload hx hb d15_43_10 (lv_at hl 5 rfl) ?_
      refine lv_iload hx hb d15_43_12 (lv_at hl 3 rfl) ?_
      refine lv_icmp_ge (tgt := 104) hx hb d15_43_14 rfl (fun c12 => ?_) (fun c12 => ?_)
      ·
        replace h := (if_pos c12).symm.trans h
        have e9 := Option.some.inj h
        subst e4
        have hl := lv_sub hl (l' := [(0, .ref (q 0)), (1, .long a0), (3, .long a1), (5, .int a2), (6, .int v5), (7, .int v6)]) [0, 1, 2, 3, 4, 5] rfl
        exact hj _ _ _ rfl _ _ _ hl hP hD hS
      ·
        replace h := (if_neg c12).symm.trans h
        refine lv_iload hx hb d15_43_17 (lv_at hl 4 rfl) ?_
        refine lv_if_lt (tgt := 104) hx hb d15_43_19 rfl (fun c13 => ?_) (fun c13 => ?_)
        ·
          replace h := (if_pos c13).symm.trans h
          have e9 := Option.some.inj h
          subst e4
          have hl := lv_sub hl (l' := [(0, .ref (q 0)), (1, .long a0), (3, .long a1), (5, .int a2), (6, .int v5), (7, .int v6)]) [0, 1, 2, 3, 4, 5] rfl
          exact hj _ _ _ rfl _ _ _ hl hP hD hS
        ·
          replace h := (if_neg c13).symm.trans h
          refine lv_aload_n hx hb d15_43_22 rfl (lv_at hl 0 rfl) ?_
          refine lv_lload_n hx hb d15_43_23 rfl (lv_at hl 1 rfl) ?_
          refine lv_lload_n hx hb d15_43_24 rfl (lv_at hl 2 rfl) ?_
          refine lv_iload hx hb d15_43_25 (lv_at hl 5 rfl) ?_
          obtain ⟨⟨x14, st15⟩, hc, h⟩ := ob h
          refine sV_i (As := [.long a0, .long a1, .int v6]) (rest := []) ⟨hx, hb, hml, hown, hts⟩ (cm_token l G Zd q a0 a1 v6 v7 x14 st15 hc _) (kw_V (n := 3) hts k1475 k1472 k15 k1474 ks72 (by decide +kernel) ⟨Nat.le_of_ble_eq_true rfl, Nat.le_of_ble_eq_true rfl⟩) hP hD hK hS hA hZ (va_recv (ci := 13) (q0 := 0) hK hP rfl rfl) rfl hl.1 rfl (Nat.le_of_ble_eq_true rfl) d15_43_27 ⟨Nat.le_of_ble_eq_true rfl, Nat.le_of_ble_eq_true rfl⟩ (fun rr u9 H locs hp hP hD hS => ?_)
          clear u9
          subst rr
          clear hc
          refine W.eq (g2 := F0 m 30 ls [.int x14]) rfl ?_
          have hP : va_P G.1 vwCl (wMs q G.2 st15) H := hP
          have hD : va_D A (wMs q G.2 st15) := hD
          refine lv_istore (lv' := [(7, .int x14), (0, .ref (q 0)), (1, .long a0), (3, .long a1), (5, .int a2), (6, .int v5)]) hx hb d15_43_30 hl (by decide) rfl (fun ls hl => ?_)
          refine lv_aload_n hx hb d15_43_32 rfl (lv_at hl 1 rfl) ?_
          refine va_get (D := G.1) (ci := 13) (v := .ref (q 2)) (C := r_13) (T := f_13) (N := 42) (ref := "PagedValuesModel") hx hb hts (fun w h => List.mem_cons_of_mem _ (ly_13 w h)) hown hK hP 0 rfl rfl 4 (by decide) (hts _ (List.mem_cons_of_mem _ k1155)) (fun _ h9 => h9) rfl d15_43_33 ?_
          refine lv_iload hx hb d15_43_36 (lv_at hl 5 rfl) ?_
          obtain ⟨x17, hr, h⟩ := ob h
          obtain ⟨hi, hv⟩ := rd_some hr
          refine va_bald (D := G.1) hx hb hK hP 2 2 rfl rfl (i := v5) hi d15_43_38 ?_
          refine lv_topi (fun y9 ey => ?_)
          have e9 := ey.trans hv
          clear ey
          subst y9
          clear hv hi hr
          refine lv_iconst (v := 5) hx hb d15_43_39 (by decide) ?_
          obtain ⟨e19, hX, h⟩ := ob h
          have hj : ∀ (H : Heap) (locs : List Loc) (ls : Array Slot), lv_has ls 9 [(0, .ref (q 0)), (1, .long a0), (3, .long a1), (5, .int a2), (6, .int v5), (7, .int x14)] → va_P G.1 vwCl (wMs q G.2 st15) H → va_D A (wMs q G.2 st15) → va_S A s.heap H locs → W p l e (rmD 3 0 0) s m ([.ref (q 0), .long a0, .long a1, .int a2] : List Value).toArray below meth c H locs 0 0 (MQ below (qI G (fun rr (_ : Unit) => rr = r0) (fun _ => (wMs q G.2 st0)) A) ([.ref (q 0), .long a0, .long a1, .int a2] : List Value).toArray s 0 0 A) (F0 m 51 ls [.int e19]) := by
            intro H locs ls hl hP hD hS
            refine lv_istore (lv' := [(8, .int e19), (0, .ref (q 0)), (1, .long a0), (3, .long a1), (5, .int a2), (6, .int v5), (7, .int x14)]) hx hb d15_43_51 hl (by decide) rfl (fun ls hl => ?_)
            refine lv_aload_n hx hb d15_43_53 rfl (lv_at hl 1 rfl) ?_
            refine va_get (D := G.1) (ci := 13) (v := .ref (q 2)) (C := r_13) (T := f_13) (N := 42) (ref := "PagedValuesModel") hx hb hts (fun w h => List.mem_cons_of_mem _ (ly_13 w h)) hown hK hP 0 rfl rfl 4 (by decide) (hts _ (List.mem_cons_of_mem _ k1155)) (fun _ h9 => h9) rfl d15_43_54 ?_
            refine lv_iload hx hb d15_43_57 (lv_at hl 5 rfl) ?_
            obtain ⟨x21, hr, h⟩ := ob h
            obtain ⟨hi, hv⟩ := rd_some hr
            refine va_bald (D := G.1) hx hb hK hP 2 2 rfl rfl (i := v5) hi d15_43_59 ?_
            refine lv_topi (fun y9 ey => ?_)
            have e9 := ey.trans hv
            clear ey
            subst y9
            clear hv hi hr
            refine lv_bipush (v := 6) hx hb d15_43_60 (by decide) ?_
            obtain ⟨e23, hX, h⟩ := ob h
            have hj : ∀ (H : Heap) (locs : List Loc) (ls : Array Slot), lv_has ls 9 [(0, .ref (q 0)), (1, .long a0), (3, .long a1), (5, .int a2), (6, .int v5), (7, .int x14), (8, .int e19)] → va_P G.1 vwCl (wMs q G.2 st15) H → va_D A (wMs q G.2 st15) → va_S A s.heap H locs → W p l e (rmD 3 0 0) s m ([.ref (q 0), .long a0, .long a1, .int a2] : List Value).toArray below meth c H locs 0 0 (MQ below (qI G (fun rr (_ : Unit) => rr = r0) (fun _ => (wMs q G.2 st0)) A) ([.ref (q 0), .long a0, .long a1, .int a2] : List Value).toArray s 0 0 A) (F0 m 99 ls [.int e23]) := by
              intro H locs ls hl hP hD hS
              refine lv_istore (lv' := [(6, .int e23), (0, .ref (q 0)), (1, .long a0), (3, .long a1), (5, .int a2), (7, .int x14), (8, .int e19)]) hx hb d15_43_99 hl (by decide) rfl (fun ls hl => ?_)
              refine lv_goto (tgt := 10) hx hb d15_43_101 rfl ?_
              have hl := lv_sub hl (l' := [(0, .ref (q 0)), (1, .long a0), (3, .long a1), (5, .int a2), (6, .int e23), (7, .int x14)]) [1, 2, 3, 4, 0, 5] rfl
              exact ih _ _ _ h _ _ _ hl hP hD hS
            clear h
            refine lv_icmp_ne (tgt := 82) hx hb d15_43_62 rfl (fun c22 => ?_) (fun c22 => ?_)
            ·
              replace h := (if_neg c22).symm.trans hX
              refine lv_iload hx hb d15_43_82 (lv_at hl 0 rfl) ?_
              refine lv_if_lt (tgt := 98) hx hb d15_43_84 rfl (fun c25 => ?_) (fun c25 => ?_)
              ·
                replace h := (if_pos c25).symm.trans h
                refine lv_iconst (v := (-1)) hx hb d15_43_98 (by decide) ?_
                have e9 := Option.some.inj h
                subst e23
                have hl := lv_sub hl (l' := [(0, .ref (q 0)), (1, .long a0), (3, .long a1), (5, .int a2), (6, .int v5), (7, .int x14), (8, .int e19)]) [1, 2, 3, 4, 5, 6, 0] rfl
                exact hj _ _ _ hl hP hD hS
              ·
                replace h := (if_neg c25).symm.trans h
                refine lv_aload_n hx hb d15_43_87 rfl (lv_at hl 1 rfl) ?_
                refine lv_iload hx hb d15_43_88 (lv_at hl 5 rfl) ?_
                refine lv_iload hx hb d15_43_90 (lv_at hl 0 rfl) ?_
                obtain ⟨x26, hc, h⟩ := ob h
                refine sV_i (As := [.int v5, .int e19]) (rest := []) ⟨hx, hb, hml, hown, hts⟩ (cm_element l G Zd q v5 e19 st15 x26 hc _) (kw_V (n := 2) hts k1483 k1480 k15 k1482 ks74 (by decide +kernel) ⟨Nat.le_of_ble_eq_true rfl, Nat.le_of_ble_eq_true rfl⟩) hP hD hK hS hA hZ (va_recv (ci := 13) (q0 := 0) hK hP rfl rfl) rfl hl.1 rfl (Nat.le_of_ble_eq_true rfl) d15_43_92 ⟨Nat.le_of_ble_eq_true rfl, Nat.le_of_ble_eq_true rfl⟩ (fun rr u9 H locs hp hP hD hS => ?_)
                clear u9
                subst rr
                clear hc
                refine W.eq (g2 := F0 m 95 ls [.int x26]) rfl ?_
                have hP : va_P G.1 vwCl (wMs q G.2 st15) H := hP
                have hD : va_D A (wMs q G.2 st15) := hD
                refine lv_goto (tgt := 99) hx hb d15_43_95 rfl ?_
                have e9 := Option.some.inj h
                subst e23
                have hl := lv_sub hl (l' := [(0, .ref (q 0)), (1, .long a0), (3, .long a1), (5, .int a2), (6, .int v5), (7, .int x14), (8, .int e19)]) [1, 2, 3, 4, 5, 6, 0] rfl
                exact hj _ _ _ hl hP hD hS
            ·
              replace h := (if_pos c22).symm.trans hX
              refine lv_aload_n hx hb d15_43_65 rfl (lv_at hl 1 rfl) ?_
              refine lv_iload hx hb d15_43_66 (lv_at hl 5 rfl) ?_
              refine lv_aload_n hx hb d15_43_68 rfl (lv_at hl 1 rfl) ?_
              refine va_get (D := G.1) (ci := 13) (v := .long (st15.2.1 0)) (C := r_13) (T := f_13) (N := 42) (ref := "PagedValuesModel") hx hb hts (fun w h => List.mem_cons_of_mem _ (ly_13 w h)) hown hK hP 0 rfl rfl 11 (by decide) (hts _ (List.mem_cons_of_mem _ k1162)) (fun _ h9 => h9) rfl d15_43_69 ?_
              refine lv_aload_n hx hb d15_43_72 rfl (lv_at hl 1 rfl) ?_
              refine va_get (D := G.1) (ci := 13) (v := .long (st15.2.1 1)) (C := r_13) (T := f_13) (N := 42) (ref := "PagedValuesModel") hx hb hts (fun w h => List.mem_cons_of_mem _ (ly_13 w h)) hown hK hP 0 rfl rfl 12 (by decide) (hts _ (List.mem_cons_of_mem _ k1163)) (fun _ h9 => h9) rfl d15_43_73 ?_
              obtain ⟨x29, hc, h⟩ := ob h
              refine sV_i (As := [.int v5, .long (st15.2.1 0), .long (st15.2.1 1)]) (rest := []) ⟨hx, hb, hml, hown, hts⟩ (cm_member l G Zd q v5 (st15.2.1 0) (st15.2.1 1) st15 x29 hc _) (kw_V (n := 3) hts k1388 k1385 k15 k1387 ks55 (by decide +kernel) ⟨Nat.le_of_ble_eq_true rfl, Nat.le_of_ble_eq_true rfl⟩) hP hD hK hS hA hZ (va_recv (ci := 13) (q0 := 0) hK hP rfl rfl) rfl hl.1 rfl (Nat.le_of_ble_eq_true rfl) d15_43_76 ⟨Nat.le_of_ble_eq_true rfl, Nat.le_of_ble_eq_true rfl⟩ (fun rr u9 H locs hp hP hD hS => ?_)
              clear u9
              subst rr
              clear hc
              refine W.eq (g2 := F0 m 79 ls [.int x29]) rfl ?_
              have hP : va_P G.1 vwCl (wMs q G.2 st15) H := hP
              have hD : va_D A (wMs q G.2 st15) := hD
              refine lv_goto (tgt := 99) hx hb d15_43_79 rfl ?_
              have e9 := Option.some.inj h
              subst e23
              have hl := lv_sub hl (l' := [(0, .ref (q 0)), (1, .long a0), (3, .long a1), (5, .int a2), (6, .int v5), (7, .int x14), (8, .int e19)]) [1, 2, 3, 4, 5, 6, 0] rfl
              exact hj _ _ _ hl hP hD hS
          clear h
          refine lv_icmp_ne (tgt := 50) hx hb d15_43_40 rfl (fun c18 => ?_) (fun c18 => ?_)
          ·
            replace h := (if_neg c18).symm.trans hX
            refine lv_iconst (v := (-1)) hx hb d15_43_50 (by decide) ?_
            have e9 := Option.some.inj h
            subst e19
            have hl := lv_sub hl (l' := [(0, .ref (q 0)), (1, .long a0), (3, .long a1), (5, .int a2), (6, .int v5), (7, .int x14)]) [1, 2, 3, 4, 5, 0] rfl
            exact hj _ _ _ hl hP hD hS
          ·
            replace h := (if_pos c18).symm.trans hX
            refine lv_aload_n hx hb d15_43_43 rfl (lv_at hl 1 rfl) ?_
            obtain ⟨x32, hc, h⟩ := ob h
            refine sV_i (As := []) (rest := []) ⟨hx, hb, hml, hown, hts⟩ (cm_tokenNumber l G Zd q st15 x32 hc _) (kw_V (n := 0) hts k1479 k1476 k15 k1478 ks73 (by decide +kernel) ⟨Nat.le_of_ble_eq_true rfl, Nat.le_of_ble_eq_true rfl⟩) hP hD hK hS hA hZ (va_recv (ci := 13) (q0 := 0) hK hP rfl rfl) rfl hl.1 rfl (Nat.le_of_ble_eq_true rfl) d15_43_44 ⟨Nat.le_of_ble_eq_true rfl, Nat.le_of_ble_eq_true rfl⟩ (fun rr u9 H locs hp hP hD hS => ?_)
            clear u9
            subst rr
            clear hc
            refine W.eq (g2 := F0 m 47 ls [.int x32]) rfl ?_
            have hP : va_P G.1 vwCl (wMs q G.2 st15) H := hP
            have hD : va_D A (wMs q G.2 st15) := hD
            refine lv_goto (tgt := 51) hx hb d15_43_47 rfl ?_
            have e9 := Option.some.inj h
            subst e19
            have hl := lv_sub hl (l' := [(0, .ref (q 0)), (1, .long a0), (3, .long a1), (5, .int a2), (6, .int v5), (7, .int x14)]) [1, 2, 3, 4, 5, 0] rfl
            exact hj _ _ _ hl hP hD hS
  have hl := lv_sub hl (l' := [(0, .ref (q 0)), (1, .long a0), (3, .long a1), (5, .int a2), (6, .int x1), (7, .int 0)]) [2, 3, 4, 5, 1, 0] rfl
  exact hloop _ _ _ _ hX _ _ _ hl hP hD hS
def m_part (a0 : Int32) (st : MS) : Option (MS) := (m_at (82 : Int32)).bind fun x1 => (rd (st.2.2.1 2) 2100 a0).bind fun x4 => (m_copy a0 x1 x4 st).bind fun st6 => some st6
set_option maxHeartbeats 4000000 in
set_option maxRecDepth 100000 in
theorem cm_part (l : Launch) (G : Gk) (Zd : Nat → Nat) (q : Nat → Nat) (a0 : Int32) (st : MS) (st0 : MS) (hm : m_part a0 st = some st0) (sz : Nat) : Met l y15_34 (Cond.code y15_34 prog_15_method_34_code 2 none :: TB) (rmD 1 0 0) (va_Pc [.ref (q 0), .int a0] (pcW G Zd (wMs q G.2 st) sz)) (qV G (fun (_ : Unit) => True) (fun _ => (wMs q G.2 st0)) (va_A (wMs q G.2 st) sz)) 0 0 (va_A (wMs q G.2 st) sz) := by
  refine go (y := y15_34) (cc := prog_15_method_34_code) (maxL := 2) (ret := none) (av := [.ref (q 0), .int a0]) (Qc := qV G (fun (_ : Unit) => True) (fun _ => (wMs q G.2 st0))) "PagedValuesModel" rfl (by decide) (Nat.le_of_ble_eq_true rfl) ?_
  intro p e s m below meth c ls A hx hb hr hlk hml hown hts hin hl hP hD hK hS hA hZ
  have hl : lv_has ls 2 [(0, .ref (q 0)), (1, .int a0)] := hl
  have h := hm
  clear hm
  refine lv_aload_n hx hb d15_34_0 rfl (lv_at hl 0 rfl) ?_
  refine lv_iload_n hx hb d15_34_1 rfl (lv_at hl 1 rfl) ?_
  refine lv_bipush (v := 82) hx hb d15_34_2 (by decide) ?_
  obtain ⟨x1, hc, h⟩ := ob h
  refine sS_i (As := [.int 82]) (rest := [.int a0, .ref (q 0)]) ⟨hx, hb, hml, hown, hts⟩ (cm_at l G Zd _ (82 : Int32) x1 hc _) (kw_S (n := 1) hts k1312 k1310 k15 k1311 (by decide +kernel) ⟨Nat.le_of_ble_eq_true rfl, Nat.le_of_ble_eq_true rfl⟩) hP hD hK hS hA hZ rfl hl.1 rfl (Nat.le_of_ble_eq_true rfl) d15_34_4 ⟨Nat.le_of_ble_eq_true rfl, Nat.le_of_ble_eq_true rfl⟩ (fun rr u9 H locs hp hP hD hS => ?_)
  clear u9
  subst rr
  clear hc
  refine W.eq (g2 := F0 m 7 ls [.int x1, .int a0, .ref (q 0)]) rfl ?_
  have hP : va_P G.1 vwCl (wMs q G.2 st) H := hP
  have hD : va_D A (wMs q G.2 st) := hD
  refine lv_aload_n hx hb d15_34_7 rfl (lv_at hl 0 rfl) ?_
  refine va_get (D := G.1) (ci := 13) (v := .ref (q 3)) (C := r_13) (T := f_13) (N := 42) (ref := "PagedValuesModel") hx hb hts (fun w h => List.mem_cons_of_mem _ (ly_13 w h)) hown hK hP 0 rfl rfl 5 (by decide) (hts _ (List.mem_cons_of_mem _ k1156)) (fun _ h9 => h9) rfl d15_34_8 ?_
  refine lv_iload_n hx hb d15_34_11 rfl (lv_at hl 1 rfl) ?_
  obtain ⟨x4, hr, h⟩ := ob h
  obtain ⟨hi, hv⟩ := rd_some hr
  refine va_bald (D := G.1) hx hb hK hP 3 2 rfl rfl (i := a0) hi d15_34_12 ?_
  refine lv_topi (fun y9 ey => ?_)
  have e9 := ey.trans hv
  clear ey
  subst y9
  clear hv hi hr
  obtain ⟨st6, hc, h⟩ := ob h
  refine sV_v (As := [.int a0, .int x1, .int x4]) (rest := []) ⟨hx, hb, hml, hown, hts⟩ (cm_copy l G Zd q a0 x1 x4 st st6 hc _) (kw_V (n := 3) hts k1424 k1421 k15 k1423 ks64 (by decide +kernel) ⟨Nat.le_of_ble_eq_true rfl, Nat.le_of_ble_eq_true rfl⟩) hP hD hK hS hA hZ (va_recv (ci := 13) (q0 := 0) hK hP rfl rfl) rfl hl.1 rfl (Nat.le_of_ble_eq_true rfl) d15_34_13 ⟨Nat.le_of_ble_eq_true rfl, Nat.le_of_ble_eq_true rfl⟩ (fun u9 H locs hp hP hD hS => ?_)
  clear u9
  clear hp
  clear hc
  refine W.eq (g2 := F0 m 16 ls []) rfl ?_
  have hP : va_P G.1 vwCl (wMs q G.2 st6) H := hP
  have hD : va_D A (wMs q G.2 st6) := hD
  cases h
  exact fin_v hx hb hr hlk hS () trivial hP hD (Nat.le_of_ble_eq_true rfl) (Nat.le_of_ble_eq_true rfl) d15_34_16
def m_partName (a0 : Int64) (a1 : Int64) (st : MS) : Option (MS) := (m_at (82 : Int32)).bind fun x1 => (ix 2100 x1).bind fun k4z => (m_at (82 : Int32)).bind fun x5 => (ix 2100 x5).bind fun k8z => some (st.1, st.2.1, st.2.2.1, va_up (va_up st.2.2.2 2 (vp_updL (st.2.2.2 2) k4z a0)) 3 (vp_updL (st.2.2.2 3) k8z a1))
set_option maxHeartbeats 4000000 in
set_option maxRecDepth 100000 in
theorem cm_partName (l : Launch) (G : Gk) (Zd : Nat → Nat) (q : Nat → Nat) (a0 : Int64) (a1 : Int64) (st : MS) (st0 : MS) (hm : m_partName a0 a1 st = some st0) (sz : Nat) : Met l y15_35 (Cond.code y15_35 prog_15_method_35_code 5 none :: TB) (rmD 1 0 0) (va_Pc [.ref (q 0), .long a0, .long a1] (pcW G Zd (wMs q G.2 st) sz)) (qV G (fun (_ : Unit) => True) (fun _ => (wMs q G.2 st0)) (va_A (wMs q G.2 st) sz)) 0 0 (va_A (wMs q G.2 st) sz) := by
  refine go (y := y15_35) (cc := prog_15_method_35_code) (maxL := 5) (ret := none) (av := [.ref (q 0), .long a0, .long a1]) (Qc := qV G (fun (_ : Unit) => True) (fun _ => (wMs q G.2 st0))) "PagedValuesModel" rfl (by decide) (Nat.le_of_ble_eq_true rfl) ?_
  intro p e s m below meth c ls A hx hb hr hlk hml hown hts hin hl hP hD hK hS hA hZ
  have hl : lv_has ls 5 [(0, .ref (q 0)), (1, .long a0), (3, .long a1)] := hl
  have h := hm
  clear hm
  refine lv_aload_n hx hb d15_35_0 rfl (lv_at hl 0 rfl) ?_
  refine va_get (D := G.1) (ci := 13) (v := .ref (q 6)) (C := r_13) (T := f_13) (N := 42) (ref := "PagedValuesModel") hx hb hts (fun w h => List.mem_cons_of_mem _ (ly_13 w h)) hown hK hP 0 rfl rfl 8 (by decide) (hts _ (List.mem_cons_of_mem _ k1159)) (fun _ h9 => h9) rfl d15_35_1 ?_
  refine lv_bipush (v := 82) hx hb d15_35_4 (by decide) ?_
  obtain ⟨x1, hc, h⟩ := ob h
  refine sS_i (As := [.int 82]) (rest := [.ref (q 6)]) ⟨hx, hb, hml, hown, hts⟩ (cm_at l G Zd _ (82 : Int32) x1 hc _) (kw_S (n := 1) hts k1312 k1310 k15 k1311 (by decide +kernel) ⟨Nat.le_of_ble_eq_true rfl, Nat.le_of_ble_eq_true rfl⟩) hP hD hK hS hA hZ rfl hl.1 rfl (Nat.le_of_ble_eq_true rfl) d15_35_6 ⟨Nat.le_of_ble_eq_true rfl, Nat.le_of_ble_eq_true rfl⟩ (fun rr u9 H locs hp hP hD hS => ?_)
  clear u9
  subst rr
  clear hc
  refine W.eq (g2 := F0 m 9 ls [.int x1, .ref (q 6)]) rfl ?_
  have hP : va_P G.1 vwCl (wMs q G.2 st) H := hP
  have hD : va_D A (wMs q G.2 st) := hD
  refine lv_lload_n hx hb d15_35_9 rfl (lv_at hl 1 rfl) ?_
  obtain ⟨k4z, hr, h⟩ := ob h
  obtain ⟨hi, hk⟩ := ix_some hr
  clear hr
  refine va_last (D := G.1) hx hb hK hP hD hS 6 4 rfl rfl (i := x1) (x := a0) hi d15_35_10 (fun H locs hP hD hS => ?_)
  rw [hk] at hP hD
  clear hk hi
  have hP : va_P G.1 vwCl (wMs q G.2 (st.1, st.2.1, st.2.2.1, va_up st.2.2.2 2 (vp_updL (st.2.2.2 2) k4z a0))) H := hP
  have hD : va_D A (wMs q G.2 (st.1, st.2.1, st.2.2.1, va_up st.2.2.2 2 (vp_updL (st.2.2.2 2) k4z a0))) := hD
  refine lv_aload_n hx hb d15_35_11 rfl (lv_at hl 0 rfl) ?_
  refine va_get (D := G.1) (ci := 13) (v := .ref (q 7)) (C := r_13) (T := f_13) (N := 42) (ref := "PagedValuesModel") hx hb hts (fun w h => List.mem_cons_of_mem _ (ly_13 w h)) hown hK hP 0 rfl rfl 9 (by decide) (hts _ (List.mem_cons_of_mem _ k1160)) (fun _ h9 => h9) rfl d15_35_12 ?_
  refine lv_bipush (v := 82) hx hb d15_35_15 (by decide) ?_
  obtain ⟨x5, hc, h⟩ := ob h
  refine sS_i (As := [.int 82]) (rest := [.ref (q 7)]) ⟨hx, hb, hml, hown, hts⟩ (cm_at l G Zd _ (82 : Int32) x5 hc _) (kw_S (n := 1) hts k1312 k1310 k15 k1311 (by decide +kernel) ⟨Nat.le_of_ble_eq_true rfl, Nat.le_of_ble_eq_true rfl⟩) hP hD hK hS hA hZ rfl hl.1 rfl (Nat.le_of_ble_eq_true rfl) d15_35_17 ⟨Nat.le_of_ble_eq_true rfl, Nat.le_of_ble_eq_true rfl⟩ (fun rr u9 H locs hp hP hD hS => ?_)
  clear u9
  subst rr
  clear hc
  refine W.eq (g2 := F0 m 20 ls [.int x5, .ref (q 7)]) rfl ?_
  have hP : va_P G.1 vwCl (wMs q G.2 (st.1, st.2.1, st.2.2.1, va_up st.2.2.2 2 (vp_updL (st.2.2.2 2) k4z a0))) H := hP
  have hD : va_D A (wMs q G.2 (st.1, st.2.1, st.2.2.1, va_up st.2.2.2 2 (vp_updL (st.2.2.2 2) k4z a0))) := hD
  refine lv_lload_n hx hb d15_35_20 rfl (lv_at hl 2 rfl) ?_
  obtain ⟨k8z, hr, h⟩ := ob h
  obtain ⟨hi, hk⟩ := ix_some hr
  clear hr
  refine va_last (D := G.1) hx hb hK hP hD hS 7 4 rfl rfl (i := x5) (x := a1) hi d15_35_21 (fun H locs hP hD hS => ?_)
  rw [hk] at hP hD
  clear hk hi
  have hP : va_P G.1 vwCl (wMs q G.2 (st.1, st.2.1, st.2.2.1, va_up (va_up st.2.2.2 2 (vp_updL (st.2.2.2 2) k4z a0)) 3 (vp_updL (st.2.2.2 3) k8z a1))) H := hP
  have hD : va_D A (wMs q G.2 (st.1, st.2.1, st.2.2.1, va_up (va_up st.2.2.2 2 (vp_updL (st.2.2.2 2) k4z a0)) 3 (vp_updL (st.2.2.2 3) k8z a1))) := hD
  cases h
  exact fin_v hx hb hr hlk hS () trivial hP hD (Nat.le_of_ble_eq_true rfl) (Nat.le_of_ble_eq_true rfl) d15_35_22
def m_above_l1 (a0 : Int32) (st : MS) : Nat → (Int32 × Int32) → Option (Int32 × Int32)
  | 0, _ => none
  | n9 + 1, e9 => if a0 ≤ e9.2 then (some (e9.1, e9.2)) else ((rd (st.2.2.1 2) 2100 e9.2).bind fun x11 => (some (e9.2 + x11)).bind fun y12 => (if y12 ≤ a0 then (some e9.1) else (some e9.2)).bind fun e14 => m_above_l1 a0 st n9 (e14, e9.2 + 1))
theorem m_above_l1_s (a0 : Int32) (st : MS) (n9 : Nat) (e9 : Int32 × Int32) : m_above_l1 a0 st (n9 + 1) e9 = (if a0 ≤ e9.2 then (some (e9.1, e9.2)) else ((rd (st.2.2.1 2) 2100 e9.2).bind fun x11 => (some (e9.2 + x11)).bind fun y12 => (if y12 ≤ a0 then (some e9.1) else (some e9.2)).bind fun e14 => m_above_l1 a0 st n9 (e14, e9.2 + 1))) := rfl
def m_above (a0 : Int32) (st : MS) : Option (Int32) := (m_at (81 : Int32)).bind fun x1 => (m_above_l1 a0 st 4096 (((-1) : Int32), x1)).bind fun e4 => some e4.1
set_option maxHeartbeats 4000000 in
set_option maxRecDepth 100000 in
theorem cm_above (l : Launch) (G : Gk) (Zd : Nat → Nat) (q : Nat → Nat) (a0 : Int32) (st : MS) (r0 : Int32) (hm : m_above a0 st = some r0) (sz : Nat) : Met l y15_32 (Cond.code y15_32 prog_15_method_32_code 4 (some .int) :: TB) (rmD 1 0 0) (va_Pc [.ref (q 0), .int a0] (pcW G Zd (wMs q G.2 st) sz)) (qI G (fun rr (_ : Unit) => rr = r0) (fun _ => (wMs q G.2 st)) (va_A (wMs q G.2 st) sz)) 0 0 (va_A (wMs q G.2 st) sz) := by
  refine go (y := y15_32) (cc := prog_15_method_32_code) (maxL := 4) (ret := (some .int)) (av := [.ref (q 0), .int a0]) (Qc := qI G (fun rr (_ : Unit) => rr = r0) (fun _ => (wMs q G.2 st))) "PagedValuesModel" rfl (by decide) (Nat.le_of_ble_eq_true rfl) ?_
  intro p e s m below meth c ls A hx hb hr hlk hml hown hts hin hl hP hD hK hS hA hZ
  have hl : lv_has ls 4 [(0, .ref (q 0)), (1, .int a0)] := hl
  have h := hm
  clear hm
  refine lv_iconst (v := (-1)) hx hb d15_32_0 (by decide) ?_
  refine lv_istore_n (lv' := [(2, .int (-1)), (0, .ref (q 0)), (1, .int a0)]) hx hb d15_32_1 rfl hl (by decide) rfl (fun ls hl => ?_)
  refine lv_bipush (v := 81) hx hb d15_32_2 (by decide) ?_
  obtain ⟨x1, hc, h⟩ := ob h
  refine sS_i (As := [.int 81]) (rest := []) ⟨hx, hb, hml, hown, hts⟩ (cm_at l G Zd _ (81 : Int32) x1 hc _) (kw_S (n := 1) hts k1312 k1310 k15 k1311 (by decide +kernel) ⟨Nat.le_of_ble_eq_true rfl, Nat.le_of_ble_eq_true rfl⟩) hP hD hK hS hA hZ rfl hl.1 rfl (Nat.le_of_ble_eq_true rfl) d15_32_4 ⟨Nat.le_of_ble_eq_true rfl, Nat.le_of_ble_eq_true rfl⟩ (fun rr u9 H locs hp hP hD hS => ?_)
  clear u9
  subst rr
  clear hc
  refine W.eq (g2 := F0 m 7 ls [.int x1]) rfl ?_
  have hP : va_P G.1 vwCl (wMs q G.2 st) H := hP
  have hD : va_D A (wMs q G.2 st) := hD
  refine lv_istore_n (lv' := [(3, .int x1), (2, .int (-1)), (0, .ref (q 0)), (1, .int a0)]) hx hb d15_32_7 rfl hl (by decide) rfl (fun ls hl => ?_)
  obtain ⟨e4, hX, hrest⟩ := ob h
  clear h
  have hj : ∀ (v8 : Int32) (v9 : Int32), e4 = (v8, v9) → ∀ (H : Heap) (locs : List Loc) (ls : Array Slot), lv_has ls 4 [(0, .ref (q 0)), (1, .int a0), (2, .int v8), (3, .int v9)] → va_P G.1 vwCl (wMs q G.2 st) H → va_D A (wMs q G.2 st) → va_S A s.heap H locs → W p l e (rmD 1 0 0) s m ([.ref (q 0), .int a0] : List Value).toArray below meth c H locs 0 0 (MQ below (qI G (fun rr (_ : Unit) => rr = r0) (fun _ => (wMs q G.2 st)) A) ([.ref (q 0), .int a0] : List Value).toArray s 0 0 A) (F0 m 37 ls []) := by
    intro v8 v9 he H locs ls hl hP hD hS
    subst e4
    have h := hrest
    refine lv_iload_n hx hb d15_32_37 rfl (lv_at hl 2 rfl) ?_
    cases h
    exact fin_i hx hb hr hlk hS () rfl hP hD (Nat.le_of_ble_eq_true rfl) (Nat.le_of_ble_eq_true rfl) d15_32_38
  have hloop : ∀ (n9 : Nat) (v5 : Int32) (v6 : Int32), m_above_l1 a0 st n9 (v5, v6) = some e4 → ∀ (H : Heap) (locs : List Loc) (ls : Array Slot), lv_has ls 4 [(0, .ref (q 0)), (1, .int a0), (2, .int v5), (3, .int v6)] → va_P G.1 vwCl (wMs q G.2 st) H → va_D A (wMs q G.2 st) → va_S A s.heap H locs → W p l e (rmD 1 0 0) s m ([.ref (q 0), .int a0] : List Value).toArray below meth c H locs 0 0 (MQ below (qI G (fun rr (_ : Unit) => rr = r0) (fun _ => (wMs q G.2 st)) A) ([.ref (q 0), .int a0] : List Value).toArray s 0 0 A) (F0 m 8 ls []) := by
    intro n9
    induction n9 with
    | zero =>
      intro v5 v6 h
      cases h
    | succ n9 ih =>
      intro v5 v6 h H locs ls hl hP hD hS
      replace h := (m_above_l1_s a0 st n9 (v5, v6)).symm.trans h
      refine lv_iload_n hx hb d15_32_8 rfl (lv_at hl 3 rfl) ?_
      refine lv_iload_n hx hb d15_32_9 rfl (lv_at hl 1 rfl) ?_
      refine lv_icmp_ge (tgt := 37) hx hb d15_32_10 rfl (fun c10 => ?_) (fun c10 => ?_)
      ·
        replace h := (if_pos c10).symm.trans h
        have e9 := Option.some.inj h
        subst e4
        have hl := lv_sub hl (l' := [(0, .ref (q 0)), (1, .int a0), (2, .int v5), (3, .int v6)]) [0, 1, 2, 3] rfl
        exact hj _ _ rfl _ _ _ hl hP hD hS
      ·
        replace h := (if_neg c10).symm.trans h
        refine lv_iload_n hx hb d15_32_13 rfl (lv_at hl 3 rfl) ?_
        refine lv_aload_n hx hb d15_32_14 rfl (lv_at hl 0 rfl) ?_
        refine va_get (D := G.1) (ci := 13) (v := .ref (q 3)) (C := r_13) (T := f_13) (N := 42) (ref := "PagedValuesModel") hx hb hts (fun w h => List.mem_cons_of_mem _ (ly_13 w h)) hown hK hP 0 rfl rfl 5 (by decide) (hts _ (List.mem_cons_of_mem _ k1156)) (fun _ h9 => h9) rfl d15_32_15 ?_
        refine lv_iload_n hx hb d15_32_18 rfl (lv_at hl 3 rfl) ?_
        obtain ⟨x11, hr, h⟩ := ob h
        obtain ⟨hi, hv⟩ := rd_some hr
        refine va_bald (D := G.1) hx hb hK hP 3 2 rfl rfl (i := v6) hi d15_32_19 ?_
        refine lv_topi (fun y9 ey => ?_)
        have e9 := ey.trans hv
        clear ey
        subst y9
        clear hv hi hr
        refine lv_iadd hx hb d15_32_20 ?_
        obtain ⟨y12, hr, h⟩ := ob h
        refine lv_topi (fun y9 ey => ?_)
        have e9 := ey.trans (Option.some.inj hr)
        clear ey
        subst y9
        clear hr
        refine lv_iload_n hx hb d15_32_21 rfl (lv_at hl 1 rfl) ?_
        obtain ⟨e14, hX, h⟩ := ob h
        have hj : ∀ (H : Heap) (locs : List Loc) (ls : Array Slot), lv_has ls 4 [(0, .ref (q 0)), (1, .int a0), (2, .int v5), (3, .int v6)] → va_P G.1 vwCl (wMs q G.2 st) H → va_D A (wMs q G.2 st) → va_S A s.heap H locs → W p l e (rmD 1 0 0) s m ([.ref (q 0), .int a0] : List Value).toArray below meth c H locs 0 0 (MQ below (qI G (fun rr (_ : Unit) => rr = r0) (fun _ => (wMs q G.2 st)) A) ([.ref (q 0), .int a0] : List Value).toArray s 0 0 A) (F0 m 30 ls [.int e14]) := by
          intro H locs ls hl hP hD hS
          refine lv_istore_n (lv' := [(2, .int e14), (0, .ref (q 0)), (1, .int a0), (3, .int v6)]) hx hb d15_32_30 rfl hl (by decide) rfl (fun ls hl => ?_)
          refine lv_iinc (k := 3) (v := v6 + 1) (lv' := [(3, .int (v6 + 1)), (2, .int e14), (0, .ref (q 0)), (1, .int a0)]) hx hb d15_32_31 hl rfl (by first | decide | rfl) (by decide) rfl (fun ls hl => ?_)
          refine lv_goto (tgt := 8) hx hb d15_32_34 rfl ?_
          have hl := lv_sub hl (l' := [(0, .ref (q 0)), (1, .int a0), (2, .int e14), (3, .int (v6 + 1))]) [2, 3, 1, 0] rfl
          exact ih _ _ h _ _ _ hl hP hD hS
        clear h
        refine lv_icmp_le (tgt := 29) hx hb d15_32_22 rfl (fun c13 => ?_) (fun c13 => ?_)
        ·
          replace h := (if_pos c13).symm.trans hX
          refine lv_iload_n hx hb d15_32_29 rfl (lv_at hl 2 rfl) ?_
          have e9 := Option.some.inj h
          subst e14
          have hl := lv_sub hl (l' := [(0, .ref (q 0)), (1, .int a0), (2, .int v5), (3, .int v6)]) [0, 1, 2, 3] rfl
          exact hj _ _ _ hl hP hD hS
        ·
          replace h := (if_neg c13).symm.trans hX
          refine lv_iload_n hx hb d15_32_25 rfl (lv_at hl 3 rfl) ?_
          refine lv_goto (tgt := 30) hx hb d15_32_26 rfl ?_
          have e9 := Option.some.inj h
          subst e14
          have hl := lv_sub hl (l' := [(0, .ref (q 0)), (1, .int a0), (2, .int v5), (3, .int v6)]) [0, 1, 2, 3] rfl
          exact hj _ _ _ hl hP hD hS
  have hl := lv_sub hl (l' := [(0, .ref (q 0)), (1, .int a0), (2, .int (-1)), (3, .int x1)]) [2, 3, 1, 0] rfl
  exact hloop _ _ _ hX _ _ _ hl hP hD hS
def m_shift_l1 (a0 : Int32) (a1 : Int32) (a2 : Int32) : Nat → (Int32 × MS) → Option (Int32 × MS)
  | 0, _ => none
  | n9 + 1, e9 => (some (a1 - a0)).bind fun y7 => if y7 ≤ e9.1 then (some (e9.1, e9.2)) else ((if a2 ≤ (0 : Int32) then ((some (a0 + e9.1)).bind fun y16 => some y16) else ((some (a1 - 1)).bind fun y17 => (some (y17 - e9.1)).bind fun y18 => some y18)).bind fun e10 => (some (e10 + a2)).bind fun y12 => (m_copy e10 y12 (1 : Int32) e9.2).bind fun st14 => m_shift_l1 a0 a1 a2 n9 (e9.1 + 1, st14))
theorem m_shift_l1_s (a0 : Int32) (a1 : Int32) (a2 : Int32) (n9 : Nat) (e9 : Int32 × MS) : m_shift_l1 a0 a1 a2 (n9 + 1) e9 = ((some (a1 - a0)).bind fun y7 => if y7 ≤ e9.1 then (some (e9.1, e9.2)) else ((if a2 ≤ (0 : Int32) then ((some (a0 + e9.1)).bind fun y16 => some y16) else ((some (a1 - 1)).bind fun y17 => (some (y17 - e9.1)).bind fun y18 => some y18)).bind fun e10 => (some (e10 + a2)).bind fun y12 => (m_copy e10 y12 (1 : Int32) e9.2).bind fun st14 => m_shift_l1 a0 a1 a2 n9 (e9.1 + 1, st14))) := rfl
def m_shift (a0 : Int32) (a1 : Int32) (a2 : Int32) (st : MS) : Option (MS) := (m_shift_l1 a0 a1 a2 4096 ((0 : Int32), st)).bind fun e1 => some e1.2
set_option maxHeartbeats 4000000 in
set_option maxRecDepth 100000 in
theorem cm_shift (l : Launch) (G : Gk) (Zd : Nat → Nat) (q : Nat → Nat) (a0 : Int32) (a1 : Int32) (a2 : Int32) (st : MS) (st0 : MS) (hm : m_shift a0 a1 a2 st = some st0) (sz : Nat) : Met l y15_31 (Cond.code y15_31 prog_15_method_31_code 6 none :: TB) (rmD 1 0 0) (va_Pc [.ref (q 0), .int a0, .int a1, .int a2] (pcW G Zd (wMs q G.2 st) sz)) (qV G (fun (_ : Unit) => True) (fun _ => (wMs q G.2 st0)) (va_A (wMs q G.2 st) sz)) 0 0 (va_A (wMs q G.2 st) sz) := by
  refine go (y := y15_31) (cc := prog_15_method_31_code) (maxL := 6) (ret := none) (av := [.ref (q 0), .int a0, .int a1, .int a2]) (Qc := qV G (fun (_ : Unit) => True) (fun _ => (wMs q G.2 st0))) "PagedValuesModel" rfl (by decide) (Nat.le_of_ble_eq_true rfl) ?_
  intro p e s m below meth c ls A hx hb hr hlk hml hown hts hin hl hP hD hK hS hA hZ
  have hl : lv_has ls 6 [(0, .ref (q 0)), (1, .int a0), (2, .int a1), (3, .int a2)] := hl
  have h := hm
  clear hm
  refine lv_iconst (v := 0) hx hb d15_31_0 (by decide) ?_
  refine lv_istore (lv' := [(4, .int 0), (0, .ref (q 0)), (1, .int a0), (2, .int a1), (3, .int a2)]) hx hb d15_31_1 hl (by decide) rfl (fun ls hl => ?_)
  obtain ⟨e1, hX, hrest⟩ := ob h
  clear h
  have hj : ∀ (v5 : Int32) (v6 : MS), e1 = (v5, v6) → ∀ (H : Heap) (locs : List Loc) (ls : Array Slot), lv_has ls 6 [(0, .ref (q 0)), (1, .int a0), (2, .int a1), (3, .int a2), (4, .int v5)] → va_P G.1 vwCl (wMs q G.2 v6) H → va_D A (wMs q G.2 v6) → va_S A s.heap H locs → W p l e (rmD 1 0 0) s m ([.ref (q 0), .int a0, .int a1, .int a2] : List Value).toArray below meth c H locs 0 0 (MQ below (qV G (fun (_ : Unit) => True) (fun _ => (wMs q G.2 st0)) A) ([.ref (q 0), .int a0, .int a1, .int a2] : List Value).toArray s 0 0 A) (F0 m 47 ls []) := by
    intro v5 v6 he H locs ls hl hP hD hS
    subst e1
    have h := hrest
    cases h
    exact fin_v hx hb hr hlk hS () trivial hP hD (Nat.le_of_ble_eq_true rfl) (Nat.le_of_ble_eq_true rfl) d15_31_47
  have hloop : ∀ (n9 : Nat) (v2 : Int32) (v3 : MS), m_shift_l1 a0 a1 a2 n9 (v2, v3) = some e1 → ∀ (H : Heap) (locs : List Loc) (ls : Array Slot), lv_has ls 6 [(0, .ref (q 0)), (1, .int a0), (2, .int a1), (3, .int a2), (4, .int v2)] → va_P G.1 vwCl (wMs q G.2 v3) H → va_D A (wMs q G.2 v3) → va_S A s.heap H locs → W p l e (rmD 1 0 0) s m ([.ref (q 0), .int a0, .int a1, .int a2] : List Value).toArray below meth c H locs 0 0 (MQ below (qV G (fun (_ : Unit) => True) (fun _ => (wMs q G.2 st0)) A) ([.ref (q 0), .int a0, .int a1, .int a2] : List Value).toArray s 0 0 A) (F0 m 3 ls []) := by
    intro n9
    induction n9 with
    | zero =>
      intro v2 v3 h
      cases h
    | succ n9 ih =>
      intro v2 v3 h H locs ls hl hP hD hS
      replace h := (m_shift_l1_s a0 a1 a2 n9 (v2, v3)).symm.trans h
      refine lv_iload hx hb d15_31_3 (lv_at hl 4 rfl) ?_
      refine lv_iload_n hx hb d15_31_5 rfl (lv_at hl 2 rfl) ?_
      refine lv_iload_n hx hb d15_31_6 rfl (lv_at hl 1 rfl) ?_
      refine lv_isub hx hb d15_31_7 ?_
      obtain ⟨y7, hr, h⟩ := ob h
      refine lv_topi (fun y9 ey => ?_)
      have e9 := ey.trans (Option.some.inj hr)
      clear ey
      subst y9
      clear hr
      refine lv_icmp_ge (tgt := 47) hx hb d15_31_8 rfl (fun c8 => ?_) (fun c8 => ?_)
      ·
        replace h := (if_pos c8).symm.trans h
        have e9 := Option.some.inj h
        subst e1
        have hl := lv_sub hl (l' := [(0, .ref (q 0)), (1, .int a0), (2, .int a1), (3, .int a2), (4, .int v2)]) [0, 1, 2, 3, 4] rfl
        exact hj _ _ rfl _ _ _ hl hP hD hS
      ·
        replace h := (if_neg c8).symm.trans h
        refine lv_iload_n hx hb d15_31_11 rfl (lv_at hl 3 rfl) ?_
        obtain ⟨e10, hX, h⟩ := ob h
        have hj : ∀ (H : Heap) (locs : List Loc) (ls : Array Slot), lv_has ls 6 [(0, .ref (q 0)), (1, .int a0), (2, .int a1), (3, .int a2), (4, .int v2)] → va_P G.1 vwCl (wMs q G.2 v3) H → va_D A (wMs q G.2 v3) → va_S A s.heap H locs → W p l e (rmD 1 0 0) s m ([.ref (q 0), .int a0, .int a1, .int a2] : List Value).toArray below meth c H locs 0 0 (MQ below (qV G (fun (_ : Unit) => True) (fun _ => (wMs q G.2 st0)) A) ([.ref (q 0), .int a0, .int a1, .int a2] : List Value).toArray s 0 0 A) (F0 m 28 ls [.int e10]) := by
          intro H locs ls hl hP hD hS
          refine lv_istore (lv' := [(5, .int e10), (0, .ref (q 0)), (1, .int a0), (2, .int a1), (3, .int a2), (4, .int v2)]) hx hb d15_31_28 hl (by decide) rfl (fun ls hl => ?_)
          refine lv_aload_n hx hb d15_31_30 rfl (lv_at hl 1 rfl) ?_
          refine lv_iload hx hb d15_31_31 (lv_at hl 0 rfl) ?_
          refine lv_iload hx hb d15_31_33 (lv_at hl 0 rfl) ?_
          refine lv_iload_n hx hb d15_31_35 rfl (lv_at hl 4 rfl) ?_
          refine lv_iadd hx hb d15_31_36 ?_
          obtain ⟨y12, hr, h⟩ := ob h
          refine lv_topi (fun y9 ey => ?_)
          have e9 := ey.trans (Option.some.inj hr)
          clear ey
          subst y9
          clear hr
          refine lv_iconst (v := 1) hx hb d15_31_37 (by decide) ?_
          obtain ⟨st14, hc, h⟩ := ob h
          refine sV_v (As := [.int e10, .int y12, .int 1]) (rest := []) ⟨hx, hb, hml, hown, hts⟩ (cm_copy l G Zd q e10 y12 (1 : Int32) v3 st14 hc _) (kw_V (n := 3) hts k1424 k1421 k15 k1423 ks64 (by decide +kernel) ⟨Nat.le_of_ble_eq_true rfl, Nat.le_of_ble_eq_true rfl⟩) hP hD hK hS hA hZ (va_recv (ci := 13) (q0 := 0) hK hP rfl rfl) rfl hl.1 rfl (Nat.le_of_ble_eq_true rfl) d15_31_38 ⟨Nat.le_of_ble_eq_true rfl, Nat.le_of_ble_eq_true rfl⟩ (fun u9 H locs hp hP hD hS => ?_)
          clear u9
          clear hp
          clear hc
          refine W.eq (g2 := F0 m 41 ls []) rfl ?_
          have hP : va_P G.1 vwCl (wMs q G.2 st14) H := hP
          have hD : va_D A (wMs q G.2 st14) := hD
          refine lv_iinc (k := 5) (v := v2 + 1) (lv' := [(4, .int (v2 + 1)), (5, .int e10), (0, .ref (q 0)), (1, .int a0), (2, .int a1), (3, .int a2)]) hx hb d15_31_41 hl rfl (by first | decide | rfl) (by decide) rfl (fun ls hl => ?_)
          refine lv_goto (tgt := 3) hx hb d15_31_44 rfl ?_
          have hl := lv_sub hl (l' := [(0, .ref (q 0)), (1, .int a0), (2, .int a1), (3, .int a2), (4, .int (v2 + 1))]) [2, 3, 4, 5, 0] rfl
          exact ih _ _ h _ _ _ hl hP hD hS
        clear h
        refine lv_if_le (tgt := 24) hx hb d15_31_12 rfl (fun c9 => ?_) (fun c9 => ?_)
        ·
          replace h := (if_pos c9).symm.trans hX
          refine lv_iload_n hx hb d15_31_24 rfl (lv_at hl 1 rfl) ?_
          refine lv_iload hx hb d15_31_25 (lv_at hl 4 rfl) ?_
          refine lv_iadd hx hb d15_31_27 ?_
          obtain ⟨y16, hr, h⟩ := ob h
          refine lv_topi (fun y9 ey => ?_)
          have e9 := ey.trans (Option.some.inj hr)
          clear ey
          subst y9
          clear hr
          have e9 := Option.some.inj h
          subst e10
          have hl := lv_sub hl (l' := [(0, .ref (q 0)), (1, .int a0), (2, .int a1), (3, .int a2), (4, .int v2)]) [0, 1, 2, 3, 4] rfl
          exact hj _ _ _ hl hP hD hS
        ·
          replace h := (if_neg c9).symm.trans hX
          refine lv_iload_n hx hb d15_31_15 rfl (lv_at hl 2 rfl) ?_
          refine lv_iconst (v := 1) hx hb d15_31_16 (by decide) ?_
          refine lv_isub hx hb d15_31_17 ?_
          obtain ⟨y17, hr, h⟩ := ob h
          refine lv_topi (fun y9 ey => ?_)
          have e9 := ey.trans (Option.some.inj hr)
          clear ey
          subst y9
          clear hr
          refine lv_iload hx hb d15_31_18 (lv_at hl 4 rfl) ?_
          refine lv_isub hx hb d15_31_20 ?_
          obtain ⟨y18, hr, h⟩ := ob h
          refine lv_topi (fun y9 ey => ?_)
          have e9 := ey.trans (Option.some.inj hr)
          clear ey
          subst y9
          clear hr
          refine lv_goto (tgt := 28) hx hb d15_31_21 rfl ?_
          have e9 := Option.some.inj h
          subst e10
          have hl := lv_sub hl (l' := [(0, .ref (q 0)), (1, .int a0), (2, .int a1), (3, .int a2), (4, .int v2)]) [0, 1, 2, 3, 4] rfl
          exact hj _ _ _ hl hP hD hS
  have hl := lv_sub hl (l' := [(0, .ref (q 0)), (1, .int a0), (2, .int a1), (3, .int a2), (4, .int 0)]) [1, 2, 3, 4, 0] rfl
  exact hloop _ _ _ hX _ _ _ hl hP hD hS
def m_splice_l1 (a1 : Int32) (a2 : Int32) (e7 : Int32) : Nat → (Int32 × MS) → Option (Int32 × MS)
  | 0, _ => none
  | n9 + 1, e9 => if a2 < e9.1 then (some (e9.1, e9.2)) else ((rd (e9.2.2.2.1 2) 2100 e9.1).bind fun x30 => (some (e9.1 + x30)).bind fun y31 => (if y31 ≤ a2 then ((rd (e9.2.2.2.1 2) 2100 e9.1).bind fun x38 => some x38) else ((rd (e9.2.2.2.1 2) 2100 e9.1).bind fun x39 => (some (x39 + e7)).bind fun y40 => (some (y40 - a1)).bind fun y41 => some y41)).bind fun e33 => (some e33.toInt8.toInt32).bind fun y35 => (ix 2100 e9.1).bind fun k36z => (some (vp_nar .byte y35)).bind fun y37 => m_splice_l1 a1 a2 e7 n9 (e9.1 + 1, (e9.2.1, e9.2.2.1, va_up e9.2.2.2.1 2 (upd (e9.2.2.2.1 2) k36z y37), e9.2.2.2.2)))
theorem m_splice_l1_s (a1 : Int32) (a2 : Int32) (e7 : Int32) (n9 : Nat) (e9 : Int32 × MS) : m_splice_l1 a1 a2 e7 (n9 + 1) e9 = (if a2 < e9.1 then (some (e9.1, e9.2)) else ((rd (e9.2.2.2.1 2) 2100 e9.1).bind fun x30 => (some (e9.1 + x30)).bind fun y31 => (if y31 ≤ a2 then ((rd (e9.2.2.2.1 2) 2100 e9.1).bind fun x38 => some x38) else ((rd (e9.2.2.2.1 2) 2100 e9.1).bind fun x39 => (some (x39 + e7)).bind fun y40 => (some (y40 - a1)).bind fun y41 => some y41)).bind fun e33 => (some e33.toInt8.toInt32).bind fun y35 => (ix 2100 e9.1).bind fun k36z => (some (vp_nar .byte y35)).bind fun y37 => m_splice_l1 a1 a2 e7 n9 (e9.1 + 1, (e9.2.1, e9.2.2.1, va_up e9.2.2.2.1 2 (upd (e9.2.2.2.1 2) k36z y37), e9.2.2.2.2)))) := rfl
def m_splice (a0 : Int32) (a1 : Int32) (a2 : Int32) (a3 : Int32) (st : MS) : Option (MS) := (m_at (81 : Int32)).bind fun x1 => (rd (st.2.2.1 2) 2100 x1).bind fun x4 => (some (x1 + x4)).bind fun y5 => (if a3 = (0 : Int32) then (some (0 : Int32)) else ((m_at (82 : Int32)).bind fun x42 => (rd (st.2.2.1 2) 2100 x42).bind fun x45 => some x45)).bind fun e7 => (m_splice_l1 a1 a2 e7 4096 (x1, st)).bind fun e9 => (some (a0 + a1)).bind fun y15 => (some (e7 - a1)).bind fun y16 => (m_shift y15 y5 y16 e9.2).bind fun st18 => (if a3 = (0 : Int32) then (some st18) else ((m_at (82 : Int32)).bind fun x23 => (m_copy x23 a0 e7 st18).bind fun st27 => some st27)).bind fun e21 => some e21
set_option maxHeartbeats 4000000 in
set_option maxRecDepth 100000 in
theorem cm_splice (l : Launch) (G : Gk) (Zd : Nat → Nat) (q : Nat → Nat) (a0 : Int32) (a1 : Int32) (a2 : Int32) (a3 : Int32) (st : MS) (st0 : MS) (hm : m_splice a0 a1 a2 a3 st = some st0) (sz : Nat) : Met l y15_33 (Cond.code y15_33 prog_15_method_33_code 9 none :: TB) (rmD 2 0 0) (va_Pc [.ref (q 0), .int a0, .int a1, .int a2, .int a3] (pcW G Zd (wMs q G.2 st) sz)) (qV G (fun (_ : Unit) => True) (fun _ => (wMs q G.2 st0)) (va_A (wMs q G.2 st) sz)) 0 0 (va_A (wMs q G.2 st) sz) := by
  refine go (y := y15_33) (cc := prog_15_method_33_code) (maxL := 9) (ret := none) (av := [.ref (q 0), .int a0, .int a1, .int a2, .int a3]) (Qc := qV G (fun (_ : Unit) => True) (fun _ => (wMs q G.2 st0))) "PagedValuesModel" rfl (by decide) (Nat.le_of_ble_eq_true rfl) ?_
  intro p e s m below meth c ls A hx hb hr hlk hml hown hts hin hl hP hD hK hS hA hZ
  have hl : lv_has ls 9 [(0, .ref (q 0)), (1, .int a0), (2, .int a1), (3, .int a2), (4, .int a3)] := hl
  have h := hm
  clear hm
  refine lv_bipush (v := 81) hx hb d15_33_0 (by decide) ?_
  obtain ⟨x1, hc, h⟩ := ob h
  refine sS_i (As := [.int 81]) (rest := []) ⟨hx, hb, hml, hown, hts⟩ (cm_at l G Zd _ (81 : Int32) x1 hc _) (kw_S (n := 1) hts k1312 k1310 k15 k1311 (by decide +kernel) ⟨Nat.le_of_ble_eq_true rfl, Nat.le_of_ble_eq_true rfl⟩) hP hD hK hS hA hZ rfl hl.1 rfl (Nat.le_of_ble_eq_true rfl) d15_33_2 ⟨Nat.le_of_ble_eq_true rfl, Nat.le_of_ble_eq_true rfl⟩ (fun rr u9 H locs hp hP hD hS => ?_)
  clear u9
  subst rr
  clear hc
  refine W.eq (g2 := F0 m 5 ls [.int x1]) rfl ?_
  have hP : va_P G.1 vwCl (wMs q G.2 st) H := hP
  have hD : va_D A (wMs q G.2 st) := hD
  refine lv_istore (lv' := [(5, .int x1), (0, .ref (q 0)), (1, .int a0), (2, .int a1), (3, .int a2), (4, .int a3)]) hx hb d15_33_5 hl (by decide) rfl (fun ls hl => ?_)
  refine lv_iload hx hb d15_33_7 (lv_at hl 0 rfl) ?_
  refine lv_aload_n hx hb d15_33_9 rfl (lv_at hl 1 rfl) ?_
  refine va_get (D := G.1) (ci := 13) (v := .ref (q 3)) (C := r_13) (T := f_13) (N := 42) (ref := "PagedValuesModel") hx hb hts (fun w h => List.mem_cons_of_mem _ (ly_13 w h)) hown hK hP 0 rfl rfl 5 (by decide) (hts _ (List.mem_cons_of_mem _ k1156)) (fun _ h9 => h9) rfl d15_33_10 ?_
  refine lv_iload hx hb d15_33_13 (lv_at hl 0 rfl) ?_
  obtain ⟨x4, hr, h⟩ := ob h
  obtain ⟨hi, hv⟩ := rd_some hr
  refine va_bald (D := G.1) hx hb hK hP 3 2 rfl rfl (i := x1) hi d15_33_15 ?_
  refine lv_topi (fun y9 ey => ?_)
  have e9 := ey.trans hv
  clear ey
  subst y9
  clear hv hi hr
  refine lv_iadd hx hb d15_33_16 ?_
  obtain ⟨y5, hr, h⟩ := ob h
  refine lv_topi (fun y9 ey => ?_)
  have e9 := ey.trans (Option.some.inj hr)
  clear ey
  subst y9
  clear hr
  refine lv_istore (lv' := [(6, .int y5), (5, .int x1), (0, .ref (q 0)), (1, .int a0), (2, .int a1), (3, .int a2), (4, .int a3)]) hx hb d15_33_17 hl (by decide) rfl (fun ls hl => ?_)
  refine lv_iload hx hb d15_33_19 (lv_at hl 6 rfl) ?_
  obtain ⟨e7, hX, h⟩ := ob h
  have hj : ∀ (H : Heap) (locs : List Loc) (ls : Array Slot), lv_has ls 9 [(0, .ref (q 0)), (1, .int a0), (2, .int a1), (3, .int a2), (4, .int a3), (5, .int x1), (6, .int y5)] → va_P G.1 vwCl (wMs q G.2 st) H → va_D A (wMs q G.2 st) → va_S A s.heap H locs → W p l e (rmD 2 0 0) s m ([.ref (q 0), .int a0, .int a1, .int a2, .int a3] : List Value).toArray below meth c H locs 0 0 (MQ below (qV G (fun (_ : Unit) => True) (fun _ => (wMs q G.2 st0)) A) ([.ref (q 0), .int a0, .int a1, .int a2, .int a3] : List Value).toArray s 0 0 A) (F0 m 38 ls [.int e7]) := by
    intro H locs ls hl hP hD hS
    refine lv_istore (lv' := [(7, .int e7), (0, .ref (q 0)), (1, .int a0), (2, .int a1), (3, .int a2), (4, .int a3), (5, .int x1), (6, .int y5)]) hx hb d15_33_38 hl (by decide) rfl (fun ls hl => ?_)
    refine lv_iload hx hb d15_33_40 (lv_at hl 6 rfl) ?_
    refine lv_istore (lv' := [(8, .int x1), (7, .int e7), (0, .ref (q 0)), (1, .int a0), (2, .int a1), (3, .int a2), (4, .int a3), (5, .int x1), (6, .int y5)]) hx hb d15_33_42 hl (by decide) rfl (fun ls hl => ?_)
    obtain ⟨e9, hX, hrest⟩ := ob h
    clear h
    have hj : ∀ (v13 : Int32) (v14 : MS), e9 = (v13, v14) → ∀ (H : Heap) (locs : List Loc) (ls : Array Slot), lv_has ls 9 [(0, .ref (q 0)), (1, .int a0), (2, .int a1), (3, .int a2), (4, .int a3), (5, .int x1), (6, .int y5), (7, .int e7), (8, .int v13)] → va_P G.1 vwCl (wMs q G.2 v14) H → va_D A (wMs q G.2 v14) → va_S A s.heap H locs → W p l e (rmD 2 0 0) s m ([.ref (q 0), .int a0, .int a1, .int a2, .int a3] : List Value).toArray below meth c H locs 0 0 (MQ below (qV G (fun (_ : Unit) => True) (fun _ => (wMs q G.2 st0)) A) ([.ref (q 0), .int a0, .int a1, .int a2, .int a3] : List Value).toArray s 0 0 A) (F0 m 100 ls []) := by
      intro v13 v14 he H locs ls hl hP hD hS
      subst e9
      have h := hrest
      refine lv_aload_n hx hb d15_33_100 rfl (lv_at hl 0 rfl) ?_
      refine lv_iload_n hx hb d15_33_101 rfl (lv_at hl 1 rfl) ?_
      refine lv_iload_n hx hb d15_33_102 rfl (lv_at hl 2 rfl) ?_
      refine lv_iadd hx hb d15_33_103 ?_
      obtain ⟨y15, hr, h⟩ := ob h
      refine lv_topi (fun y9 ey => ?_)
      have e9 := ey.trans (Option.some.inj hr)
      clear ey
      subst y9
      clear hr
      refine lv_iload hx hb d15_33_104 (lv_at hl 6 rfl) ?_
      refine lv_iload hx hb d15_33_106 (lv_at hl 7 rfl) ?_
      refine lv_iload_n hx hb d15_33_108 rfl (lv_at hl 2 rfl) ?_
      refine lv_isub hx hb d15_33_109 ?_
      obtain ⟨y16, hr, h⟩ := ob h
      refine lv_topi (fun y9 ey => ?_)
      have e9 := ey.trans (Option.some.inj hr)
      clear ey
      subst y9
      clear hr
      obtain ⟨st18, hc, h⟩ := ob h
      refine sV_v (As := [.int y15, .int y5, .int y16]) (rest := []) ⟨hx, hb, hml, hown, hts⟩ (cm_shift l G Zd q y15 y5 y16 v14 st18 hc _) (kw_V (n := 3) hts k1506 k1503 k15 k1505 ks79 (by decide +kernel) ⟨Nat.le_of_ble_eq_true rfl, Nat.le_of_ble_eq_true rfl⟩) hP hD hK hS hA hZ (va_recv (ci := 13) (q0 := 0) hK hP rfl rfl) rfl hl.1 rfl (Nat.le_of_ble_eq_true rfl) d15_33_110 ⟨Nat.le_of_ble_eq_true rfl, Nat.le_of_ble_eq_true rfl⟩ (fun u9 H locs hp hP hD hS => ?_)
      clear u9
      clear hp
      clear hc
      refine W.eq (g2 := F0 m 113 ls []) rfl ?_
      have hP : va_P G.1 vwCl (wMs q G.2 st18) H := hP
      have hD : va_D A (wMs q G.2 st18) := hD
      refine lv_iload hx hb d15_33_113 (lv_at hl 4 rfl) ?_
      obtain ⟨e21, hX, h⟩ := ob h
      have hj : ∀ (H : Heap) (locs : List Loc) (ls : Array Slot), lv_has ls 9 [(0, .ref (q 0)), (1, .int a0), (2, .int a1), (3, .int a2), (4, .int a3), (5, .int x1), (6, .int y5), (7, .int e7), (8, .int v13)] → va_P G.1 vwCl (wMs q G.2 e21) H → va_D A (wMs q G.2 e21) → va_S A s.heap H locs → W p l e (rmD 2 0 0) s m ([.ref (q 0), .int a0, .int a1, .int a2, .int a3] : List Value).toArray below meth c H locs 0 0 (MQ below (qV G (fun (_ : Unit) => True) (fun _ => (wMs q G.2 st0)) A) ([.ref (q 0), .int a0, .int a1, .int a2, .int a3] : List Value).toArray s 0 0 A) (F0 m 130 ls []) := by
        intro H locs ls hl hP hD hS
        cases h
        exact fin_v hx hb hr hlk hS () trivial hP hD (Nat.le_of_ble_eq_true rfl) (Nat.le_of_ble_eq_true rfl) d15_33_130
      clear h
      refine lv_if_eq (tgt := 130) hx hb d15_33_115 rfl (fun c20 => ?_) (fun c20 => ?_)
      ·
        replace h := (if_pos c20).symm.trans hX
        have e9 := Option.some.inj h
        subst e21
        have hl := lv_sub hl (l' := [(0, .ref (q 0)), (1, .int a0), (2, .int a1), (3, .int a2), (4, .int a3), (5, .int x1), (6, .int y5), (7, .int e7), (8, .int v13)]) [0, 1, 2, 3, 4, 5, 6, 7, 8] rfl
        exact hj _ _ _ hl hP hD hS
      ·
        replace h := (if_neg c20).symm.trans hX
        refine lv_aload_n hx hb d15_33_118 rfl (lv_at hl 0 rfl) ?_
        refine lv_bipush (v := 82) hx hb d15_33_119 (by decide) ?_
        obtain ⟨x23, hc, h⟩ := ob h
        refine sS_i (As := [.int 82]) (rest := [.ref (q 0)]) ⟨hx, hb, hml, hown, hts⟩ (cm_at l G Zd _ (82 : Int32) x23 hc _) (kw_S (n := 1) hts k1312 k1310 k15 k1311 (by decide +kernel) ⟨Nat.le_of_ble_eq_true rfl, Nat.le_of_ble_eq_true rfl⟩) hP hD hK hS hA hZ rfl hl.1 rfl (Nat.le_of_ble_eq_true rfl) d15_33_121 ⟨Nat.le_of_ble_eq_true rfl, Nat.le_of_ble_eq_true rfl⟩ (fun rr u9 H locs hp hP hD hS => ?_)
        clear u9
        subst rr
        clear hc
        refine W.eq (g2 := F0 m 124 ls [.int x23, .ref (q 0)]) rfl ?_
        have hP : va_P G.1 vwCl (wMs q G.2 st18) H := hP
        have hD : va_D A (wMs q G.2 st18) := hD
        refine lv_iload_n hx hb d15_33_124 rfl (lv_at hl 1 rfl) ?_
        refine lv_iload hx hb d15_33_125 (lv_at hl 7 rfl) ?_
        obtain ⟨st27, hc, h⟩ := ob h
        refine sV_v (As := [.int x23, .int a0, .int e7]) (rest := []) ⟨hx, hb, hml, hown, hts⟩ (cm_copy l G Zd q x23 a0 e7 st18 st27 hc _) (kw_V (n := 3) hts k1424 k1421 k15 k1423 ks64 (by decide +kernel) ⟨Nat.le_of_ble_eq_true rfl, Nat.le_of_ble_eq_true rfl⟩) hP hD hK hS hA hZ (va_recv (ci := 13) (q0 := 0) hK hP rfl rfl) rfl hl.1 rfl (Nat.le_of_ble_eq_true rfl) d15_33_127 ⟨Nat.le_of_ble_eq_true rfl, Nat.le_of_ble_eq_true rfl⟩ (fun u9 H locs hp hP hD hS => ?_)
        clear u9
        clear hp
        clear hc
        refine W.eq (g2 := F0 m 130 ls []) rfl ?_
        have hP : va_P G.1 vwCl (wMs q G.2 st27) H := hP
        have hD : va_D A (wMs q G.2 st27) := hD
        have e9 := Option.some.inj h
        subst e21
        have hl := lv_sub hl (l' := [(0, .ref (q 0)), (1, .int a0), (2, .int a1), (3, .int a2), (4, .int a3), (5, .int x1), (6, .int y5), (7, .int e7), (8, .int v13)]) [0, 1, 2, 3, 4, 5, 6, 7, 8] rfl
        exact hj _ _ _ hl hP hD hS
    have hloop : ∀ (n9 : Nat) (v10 : Int32) (v11 : MS), m_splice_l1 a1 a2 e7 n9 (v10, v11) = some e9 → ∀ (H : Heap) (locs : List Loc) (ls : Array Slot), lv_has ls 9 [(0, .ref (q 0)), (1, .int a0), (2, .int a1), (3, .int a2), (4, .int a3), (5, .int x1), (6, .int y5), (7, .int e7), (8, .int v10)] → va_P G.1 vwCl (wMs q G.2 v11) H → va_D A (wMs q G.2 v11) → va_S A s.heap H locs → W p l e (rmD 2 0 0) s m ([.ref (q 0), .int a0, .int a1, .int a2, .int a3] : List Value).toArray below meth c H locs 0 0 (MQ below (qV G (fun (_ : Unit) => True) (fun _ => (wMs q G.2 st0)) A) ([.ref (q 0), .int a0, .int a1, .int a2, .int a3] : List Value).toArray s 0 0 A) (F0 m 44 ls []) := by
      intro n9
      induction n9 with
      | zero =>
        intro v10 v11 h
        cases h
      | succ n9 ih =>
        intro v10 v11 h H locs ls hl hP hD hS
        replace h := (m_splice_l1_s a1 a2 e7 n9 (v10, v11)).symm.trans h
        refine lv_iload hx hb d15_33_44 (lv_at hl 8 rfl) ?_
        refine lv_iload_n hx hb d15_33_46 rfl (lv_at hl 3 rfl) ?_
        refine lv_icmp_gt (tgt := 100) hx hb d15_33_47 rfl (fun c29 => ?_) (fun c29 => ?_)
        ·
          replace h := (if_pos c29).symm.trans h
          have e9 := Option.some.inj h
          subst e9
          have hl := lv_sub hl (l' := [(0, .ref (q 0)), (1, .int a0), (2, .int a1), (3, .int a2), (4, .int a3), (5, .int x1), (6, .int y5), (7, .int e7), (8, .int v10)]) [0, 1, 2, 3, 4, 5, 6, 7, 8] rfl
          exact hj _ _ rfl _ _ _ hl hP hD hS
        ·
          replace h := (if_neg c29).symm.trans h
          refine lv_aload_n hx hb d15_33_50 rfl (lv_at hl 0 rfl) ?_
          refine va_get (D := G.1) (ci := 13) (v := .ref (q 3)) (C := r_13) (T := f_13) (N := 42) (ref := "PagedValuesModel") hx hb hts (fun w h => List.mem_cons_of_mem _ (ly_13 w h)) hown hK hP 0 rfl rfl 5 (by decide) (hts _ (List.mem_cons_of_mem _ k1156)) (fun _ h9 => h9) rfl d15_33_51 ?_
          refine lv_iload hx hb d15_33_54 (lv_at hl 8 rfl) ?_
          refine lv_iload hx hb d15_33_56 (lv_at hl 8 rfl) ?_
          refine lv_aload_n hx hb d15_33_58 rfl (lv_at hl 0 rfl) ?_
          refine va_get (D := G.1) (ci := 13) (v := .ref (q 3)) (C := r_13) (T := f_13) (N := 42) (ref := "PagedValuesModel") hx hb hts (fun w h => List.mem_cons_of_mem _ (ly_13 w h)) hown hK hP 0 rfl rfl 5 (by decide) (hts _ (List.mem_cons_of_mem _ k1156)) (fun _ h9 => h9) rfl d15_33_59 ?_
          refine lv_iload hx hb d15_33_62 (lv_at hl 8 rfl) ?_
          obtain ⟨x30, hr, h⟩ := ob h
          obtain ⟨hi, hv⟩ := rd_some hr
          refine va_bald (D := G.1) hx hb hK hP 3 2 rfl rfl (i := v10) hi d15_33_64 ?_
          refine lv_topi (fun y9 ey => ?_)
          have e9 := ey.trans hv
          clear ey
          subst y9
          clear hv hi hr
          refine lv_iadd hx hb d15_33_65 ?_
          obtain ⟨y31, hr, h⟩ := ob h
          refine lv_topi (fun y9 ey => ?_)
          have e9 := ey.trans (Option.some.inj hr)
          clear ey
          subst y9
          clear hr
          refine lv_iload_n hx hb d15_33_66 rfl (lv_at hl 3 rfl) ?_
          obtain ⟨e33, hX, h⟩ := ob h
          have hj : ∀ (H : Heap) (locs : List Loc) (ls : Array Slot), lv_has ls 9 [(0, .ref (q 0)), (1, .int a0), (2, .int a1), (3, .int a2), (4, .int a3), (5, .int x1), (6, .int y5), (7, .int e7), (8, .int v10)] → va_P G.1 vwCl (wMs q G.2 v11) H → va_D A (wMs q G.2 v11) → va_S A s.heap H locs → W p l e (rmD 2 0 0) s m ([.ref (q 0), .int a0, .int a1, .int a2, .int a3] : List Value).toArray below meth c H locs 0 0 (MQ below (qV G (fun (_ : Unit) => True) (fun _ => (wMs q G.2 st0)) A) ([.ref (q 0), .int a0, .int a1, .int a2, .int a3] : List Value).toArray s 0 0 A) (F0 m 92 ls [.int e33, .int v10, .ref (q 3)]) := by
            intro H locs ls hl hP hD hS
            refine lv_i2b hx hb d15_33_92 rfl ?_
            obtain ⟨y35, hr, h⟩ := ob h
            refine lv_topi (fun y9 ey => ?_)
            have e9 := ey.trans (Option.some.inj hr)
            clear ey
            subst y9
            clear hr
            obtain ⟨k36z, hr, h⟩ := ob h
            obtain ⟨hi, hk⟩ := ix_some hr
            clear hr
            refine va_bast (D := G.1) hx hb hK hP hD hS 3 2 rfl rfl (i := v10) (x := y35) hi d15_33_93 (fun H locs hP hD hS => ?_)
            rw [hk] at hP hD
            clear hk hi
            obtain ⟨y37, hr, h⟩ := ob h
            rw [Option.some.inj hr] at hP hD
            clear hr
            have hP : va_P G.1 vwCl (wMs q G.2 (v11.1, v11.2.1, va_up v11.2.2.1 2 (upd (v11.2.2.1 2) k36z y37), v11.2.2.2)) H := hP
            have hD : va_D A (wMs q G.2 (v11.1, v11.2.1, va_up v11.2.2.1 2 (upd (v11.2.2.1 2) k36z y37), v11.2.2.2)) := hD
            refine lv_iinc (k := 8) (v := v10 + 1) (lv' := [(8, .int (v10 + 1)), (0, .ref (q 0)), (1, .int a0), (2, .int a1), (3, .int a2), (4, .int a3), (5, .int x1), (6, .int y5), (7, .int e7)]) hx hb d15_33_94 hl rfl (by first | decide | rfl) (by decide) rfl (fun ls hl => ?_)
            refine lv_goto (tgt := 44) hx hb d15_33_97 rfl ?_
            have hl := lv_sub hl (l' := [(0, .ref (q 0)), (1, .int a0), (2, .int a1), (3, .int a2), (4, .int a3), (5, .int x1), (6, .int y5), (7, .int e7), (8, .int (v10 + 1))]) [1, 2, 3, 4, 5, 6, 7, 8, 0] rfl
            exact ih _ _ h _ _ _ hl hP hD hS
          clear h
          refine lv_icmp_le (tgt := 85) hx hb d15_33_67 rfl (fun c32 => ?_) (fun c32 => ?_)
          ·
            replace h := (if_pos c32).symm.trans hX
            refine lv_aload_n hx hb d15_33_85 rfl (lv_at hl 0 rfl) ?_
            refine va_get (D := G.1) (ci := 13) (v := .ref (q 3)) (C := r_13) (T := f_13) (N := 42) (ref := "PagedValuesModel") hx hb hts (fun w h => List.mem_cons_of_mem _ (ly_13 w h)) hown hK hP 0 rfl rfl 5 (by decide) (hts _ (List.mem_cons_of_mem _ k1156)) (fun _ h9 => h9) rfl d15_33_86 ?_
            refine lv_iload hx hb d15_33_89 (lv_at hl 8 rfl) ?_
            obtain ⟨x38, hr, h⟩ := ob h
            obtain ⟨hi, hv⟩ := rd_some hr
            refine va_bald (D := G.1) hx hb hK hP 3 2 rfl rfl (i := v10) hi d15_33_91 ?_
            refine lv_topi (fun y9 ey => ?_)
            have e9 := ey.trans hv
            clear ey
            subst y9
            clear hv hi hr
            have e9 := Option.some.inj h
            subst e33
            have hl := lv_sub hl (l' := [(0, .ref (q 0)), (1, .int a0), (2, .int a1), (3, .int a2), (4, .int a3), (5, .int x1), (6, .int y5), (7, .int e7), (8, .int v10)]) [0, 1, 2, 3, 4, 5, 6, 7, 8] rfl
            exact hj _ _ _ hl hP hD hS
          ·
            replace h := (if_neg c32).symm.trans hX
            refine lv_aload_n hx hb d15_33_70 rfl (lv_at hl 0 rfl) ?_
            refine va_get (D := G.1) (ci := 13) (v := .ref (q 3)) (C := r_13) (T := f_13) (N := 42) (ref := "PagedValuesModel") hx hb hts (fun w h => List.mem_cons_of_mem _ (ly_13 w h)) hown hK hP 0 rfl rfl 5 (by decide) (hts _ (List.mem_cons_of_mem _ k1156)) (fun _ h9 => h9) rfl d15_33_71 ?_
            refine lv_iload hx hb d15_33_74 (lv_at hl 8 rfl) ?_
            obtain ⟨x39, hr, h⟩ := ob h
            obtain ⟨hi, hv⟩ := rd_some hr
            refine va_bald (D := G.1) hx hb hK hP 3 2 rfl rfl (i := v10) hi d15_33_76 ?_
            refine lv_topi (fun y9 ey => ?_)
            have e9 := ey.trans hv
            clear ey
            subst y9
            clear hv hi hr
            refine lv_iload hx hb d15_33_77 (lv_at hl 7 rfl) ?_
            refine lv_iadd hx hb d15_33_79 ?_
            obtain ⟨y40, hr, h⟩ := ob h
            refine lv_topi (fun y9 ey => ?_)
            have e9 := ey.trans (Option.some.inj hr)
            clear ey
            subst y9
            clear hr
            refine lv_iload_n hx hb d15_33_80 rfl (lv_at hl 2 rfl) ?_
            refine lv_isub hx hb d15_33_81 ?_
            obtain ⟨y41, hr, h⟩ := ob h
            refine lv_topi (fun y9 ey => ?_)
            have e9 := ey.trans (Option.some.inj hr)
            clear ey
            subst y9
            clear hr
            refine lv_goto (tgt := 92) hx hb d15_33_82 rfl ?_
            have e9 := Option.some.inj h
            subst e33
            have hl := lv_sub hl (l' := [(0, .ref (q 0)), (1, .int a0), (2, .int a1), (3, .int a2), (4, .int a3), (5, .int x1), (6, .int y5), (7, .int e7), (8, .int v10)]) [0, 1, 2, 3, 4, 5, 6, 7, 8] rfl
            exact hj _ _ _ hl hP hD hS
    have hl := lv_sub hl (l' := [(0, .ref (q 0)), (1, .int a0), (2, .int a1), (3, .int a2), (4, .int a3), (5, .int x1), (6, .int y5), (7, .int e7), (8, .int x1)]) [2, 3, 4, 5, 6, 7, 8, 1, 0] rfl
    exact hloop _ _ _ hX _ _ _ hl hP hD hS
  clear h
  refine lv_if_eq (tgt := 37) hx hb d15_33_21 rfl (fun c6 => ?_) (fun c6 => ?_)
  ·
    replace h := (if_pos c6).symm.trans hX
    refine lv_iconst (v := 0) hx hb d15_33_37 (by decide) ?_
    have e9 := Option.some.inj h
    subst e7
    have hl := lv_sub hl (l' := [(0, .ref (q 0)), (1, .int a0), (2, .int a1), (3, .int a2), (4, .int a3), (5, .int x1), (6, .int y5)]) [2, 3, 4, 5, 6, 1, 0] rfl
    exact hj _ _ _ hl hP hD hS
  ·
    replace h := (if_neg c6).symm.trans hX
    refine lv_aload_n hx hb d15_33_24 rfl (lv_at hl 2 rfl) ?_
    refine va_get (D := G.1) (ci := 13) (v := .ref (q 3)) (C := r_13) (T := f_13) (N := 42) (ref := "PagedValuesModel") hx hb hts (fun w h => List.mem_cons_of_mem _ (ly_13 w h)) hown hK hP 0 rfl rfl 5 (by decide) (hts _ (List.mem_cons_of_mem _ k1156)) (fun _ h9 => h9) rfl d15_33_25 ?_
    refine lv_bipush (v := 82) hx hb d15_33_28 (by decide) ?_
    obtain ⟨x42, hc, h⟩ := ob h
    refine sS_i (As := [.int 82]) (rest := [.ref (q 3)]) ⟨hx, hb, hml, hown, hts⟩ (cm_at l G Zd _ (82 : Int32) x42 hc _) (kw_S (n := 1) hts k1312 k1310 k15 k1311 (by decide +kernel) ⟨Nat.le_of_ble_eq_true rfl, Nat.le_of_ble_eq_true rfl⟩) hP hD hK hS hA hZ rfl hl.1 rfl (Nat.le_of_ble_eq_true rfl) d15_33_30 ⟨Nat.le_of_ble_eq_true rfl, Nat.le_of_ble_eq_true rfl⟩ (fun rr u9 H locs hp hP hD hS => ?_)
    clear u9
    subst rr
    clear hc
    refine W.eq (g2 := F0 m 33 ls [.int x42, .ref (q 3)]) rfl ?_
    have hP : va_P G.1 vwCl (wMs q G.2 st) H := hP
    have hD : va_D A (wMs q G.2 st) := hD
    obtain ⟨x45, hr, h⟩ := ob h
    obtain ⟨hi, hv⟩ := rd_some hr
    refine va_bald (D := G.1) hx hb hK hP 3 2 rfl rfl (i := x42) hi d15_33_33 ?_
    refine lv_topi (fun y9 ey => ?_)
    have e9 := ey.trans hv
    clear ey
    subst y9
    clear hv hi hr
    refine lv_goto (tgt := 38) hx hb d15_33_34 rfl ?_
    have e9 := Option.some.inj h
    subst e7
    have hl := lv_sub hl (l' := [(0, .ref (q 0)), (1, .int a0), (2, .int a1), (3, .int a2), (4, .int a3), (5, .int x1), (6, .int y5)]) [2, 3, 4, 5, 6, 1, 0] rfl
    exact hj _ _ _ hl hP hD hS
def m_lastSlash_l1 (a0 : Int64) (a1 : Int64) : Nat → (Int32 × Int32) → Option (Int32 × Int32)
  | 0, _ => none
  | n9 + 1, e9 => (m_lengthOf a0).bind fun x7 => if x7 ≤ e9.2 then (some (e9.1, e9.2)) else ((m_charOf a0 a1 e9.2).bind fun x11 => (if x11 = (47 : Int32) then (some e9.2) else (some e9.1)).bind fun e15 => m_lastSlash_l1 a0 a1 n9 (e15, e9.2 + 1))
theorem m_lastSlash_l1_s (a0 : Int64) (a1 : Int64) (n9 : Nat) (e9 : Int32 × Int32) : m_lastSlash_l1 a0 a1 (n9 + 1) e9 = ((m_lengthOf a0).bind fun x7 => if x7 ≤ e9.2 then (some (e9.1, e9.2)) else ((m_charOf a0 a1 e9.2).bind fun x11 => (if x11 = (47 : Int32) then (some e9.2) else (some e9.1)).bind fun e15 => m_lastSlash_l1 a0 a1 n9 (e15, e9.2 + 1))) := rfl
def m_lastSlash (a0 : Int64) (a1 : Int64) : Option (Int32) := (m_lastSlash_l1 a0 a1 4096 ((0 : Int32), (0 : Int32))).bind fun e1 => some e1.1
set_option maxHeartbeats 4000000 in
set_option maxRecDepth 100000 in
theorem cm_lastSlash (l : Launch) (G : Gk) (Zd : Nat → Nat) (w0 : va_W) (a0 : Int64) (a1 : Int64) (r0 : Int32) (hm : m_lastSlash a0 a1 = some r0) (sz : Nat) : Met l y15_40 (Cond.code y15_40 prog_15_method_40_code 6 (some .int) :: TB) (rmD 1 0 0) (va_Pc [.long a0, .long a1] (pcW G Zd w0 sz)) (qI G (fun rr (_ : Unit) => rr = r0) (fun _ => w0) (va_A w0 sz)) 0 0 (va_A w0 sz) := by
  refine go (y := y15_40) (cc := prog_15_method_40_code) (maxL := 6) (ret := (some .int)) (av := [.long a0, .long a1]) (Qc := qI G (fun rr (_ : Unit) => rr = r0) (fun _ => w0)) "PagedValuesModel" rfl (by decide) (Nat.le_of_ble_eq_true rfl) ?_
  intro p e s m below meth c ls A hx hb hr hlk hml hown hts hin hl hP hD hK hS hA hZ
  have hl : lv_has ls 6 [(0, .long a0), (2, .long a1)] := hl
  have h := hm
  clear hm
  refine lv_iconst (v := 0) hx hb d15_40_0 (by decide) ?_
  refine lv_istore (lv' := [(4, .int 0), (0, .long a0), (2, .long a1)]) hx hb d15_40_1 hl (by decide) rfl (fun ls hl => ?_)
  refine lv_iconst (v := 0) hx hb d15_40_3 (by decide) ?_
  refine lv_istore (lv' := [(5, .int 0), (4, .int 0), (0, .long a0), (2, .long a1)]) hx hb d15_40_4 hl (by decide) rfl (fun ls hl => ?_)
  obtain ⟨e1, hX, hrest⟩ := ob h
  clear h
  have hj : ∀ (v5 : Int32) (v6 : Int32), e1 = (v5, v6) → ∀ (H : Heap) (locs : List Loc) (ls : Array Slot), lv_has ls 6 [(0, .long a0), (2, .long a1), (4, .int v5), (5, .int v6)] → va_P G.1 vwCl w0 H → va_D A w0 → va_S A s.heap H locs → W p l e (rmD 1 0 0) s m ([.long a0, .long a1] : List Value).toArray below meth c H locs 0 0 (MQ below (qI G (fun rr (_ : Unit) => rr = r0) (fun _ => w0) A) ([.long a0, .long a1] : List Value).toArray s 0 0 A) (F0 m 42 ls []) := by
    intro v5 v6 he H locs ls hl hP hD hS
    subst e1
    have h := hrest
    refine lv_iload hx hb d15_40_42 (lv_at hl 2 rfl) ?_
    cases h
    exact fin_i hx hb hr hlk hS () rfl hP hD (Nat.le_of_ble_eq_true rfl) (Nat.le_of_ble_eq_true rfl) d15_40_44
  have hloop : ∀ (n9 : Nat) (v2 : Int32) (v3 : Int32), m_lastSlash_l1 a0 a1 n9 (v2, v3) = some e1 → ∀ (H : Heap) (locs : List Loc) (ls : Array Slot), lv_has ls 6 [(0, .long a0), (2, .long a1), (4, .int v2), (5, .int v3)] → va_P G.1 vwCl w0 H → va_D A w0 → va_S A s.heap H locs → W p l e (rmD 1 0 0) s m ([.long a0, .long a1] : List Value).toArray below meth c H locs 0 0 (MQ below (qI G (fun rr (_ : Unit) => rr = r0) (fun _ => w0) A) ([.long a0, .long a1] : List Value).toArray s 0 0 A) (F0 m 6 ls []) := by
    intro n9
    induction n9 with
    | zero =>
      intro v2 v3 h
      cases h
    | succ n9 ih =>
      intro v2 v3 h H locs ls hl hP hD hS
      replace h := (m_lastSlash_l1_s a0 a1 n9 (v2, v3)).symm.trans h
      refine lv_iload hx hb d15_40_6 (lv_at hl 3 rfl) ?_
      refine lv_lload_n hx hb d15_40_8 rfl (lv_at hl 0 rfl) ?_
      obtain ⟨x7, hc, h⟩ := ob h
      refine sS_i (As := [.long a0]) (rest := [.int v3]) ⟨hx, hb, hml, hown, hts⟩ (cm_lengthOf l G Zd _ a0 x7 hc _) (kw_S (n := 1) hts k1343 k1341 k15 k1342 (by decide +kernel) ⟨Nat.le_of_ble_eq_true rfl, Nat.le_of_ble_eq_true rfl⟩) hP hD hK hS hA hZ rfl hl.1 rfl (Nat.le_of_ble_eq_true rfl) d15_40_9 ⟨Nat.le_of_ble_eq_true rfl, Nat.le_of_ble_eq_true rfl⟩ (fun rr u9 H locs hp hP hD hS => ?_)
      clear u9
      subst rr
      clear hc
      refine W.eq (g2 := F0 m 12 ls [.int x7, .int v3]) rfl ?_
      have hP : va_P G.1 vwCl w0 H := hP
      have hD : va_D A w0 := hD
      refine lv_icmp_ge (tgt := 42) hx hb d15_40_12 rfl (fun c10 => ?_) (fun c10 => ?_)
      ·
        replace h := (if_pos c10).symm.trans h
        have e9 := Option.some.inj h
        subst e1
        have hl := lv_sub hl (l' := [(0, .long a0), (2, .long a1), (4, .int v2), (5, .int v3)]) [0, 1, 2, 3] rfl
        exact hj _ _ rfl _ _ _ hl hP hD hS
      ·
        replace h := (if_neg c10).symm.trans h
        refine lv_lload_n hx hb d15_40_15 rfl (lv_at hl 0 rfl) ?_
        refine lv_lload_n hx hb d15_40_16 rfl (lv_at hl 1 rfl) ?_
        refine lv_iload hx hb d15_40_17 (lv_at hl 3 rfl) ?_
        obtain ⟨x11, hc, h⟩ := ob h
        refine sS_i (As := [.long a0, .long a1, .int v3]) (rest := []) ⟨hx, hb, hml, hown, hts⟩ (cm_charOf l G Zd _ a0 a1 v3 x11 hc _) (kw_S (n := 3) hts k1466 k1464 k15 k1465 (by decide +kernel) ⟨Nat.le_of_ble_eq_true rfl, Nat.le_of_ble_eq_true rfl⟩) hP hD hK hS hA hZ rfl hl.1 rfl (Nat.le_of_ble_eq_true rfl) d15_40_19 ⟨Nat.le_of_ble_eq_true rfl, Nat.le_of_ble_eq_true rfl⟩ (fun rr u9 H locs hp hP hD hS => ?_)
        clear u9
        subst rr
        clear hc
        refine W.eq (g2 := F0 m 22 ls [.int x11]) rfl ?_
        have hP : va_P G.1 vwCl w0 H := hP
        have hD : va_D A w0 := hD
        refine lv_bipush (v := 47) hx hb d15_40_22 (by decide) ?_
        obtain ⟨e15, hX, h⟩ := ob h
        have hj : ∀ (H : Heap) (locs : List Loc) (ls : Array Slot), lv_has ls 6 [(0, .long a0), (2, .long a1), (4, .int v2), (5, .int v3)] → va_P G.1 vwCl w0 H → va_D A w0 → va_S A s.heap H locs → W p l e (rmD 1 0 0) s m ([.long a0, .long a1] : List Value).toArray below meth c H locs 0 0 (MQ below (qI G (fun rr (_ : Unit) => rr = r0) (fun _ => w0) A) ([.long a0, .long a1] : List Value).toArray s 0 0 A) (F0 m 34 ls [.int e15]) := by
          intro H locs ls hl hP hD hS
          refine lv_istore (lv' := [(4, .int e15), (0, .long a0), (2, .long a1), (5, .int v3)]) hx hb d15_40_34 hl (by decide) rfl (fun ls hl => ?_)
          refine lv_iinc (k := 3) (v := v3 + 1) (lv' := [(5, .int (v3 + 1)), (4, .int e15), (0, .long a0), (2, .long a1)]) hx hb d15_40_36 hl rfl (by first | decide | rfl) (by decide) rfl (fun ls hl => ?_)
          refine lv_goto (tgt := 6) hx hb d15_40_39 rfl ?_
          have hl := lv_sub hl (l' := [(0, .long a0), (2, .long a1), (4, .int e15), (5, .int (v3 + 1))]) [2, 3, 1, 0] rfl
          exact ih _ _ h _ _ _ hl hP hD hS
        clear h
        refine lv_icmp_ne (tgt := 32) hx hb d15_40_24 rfl (fun c14 => ?_) (fun c14 => ?_)
        ·
          replace h := (if_neg c14).symm.trans hX
          refine lv_iload hx hb d15_40_32 (lv_at hl 2 rfl) ?_
          have e9 := Option.some.inj h
          subst e15
          have hl := lv_sub hl (l' := [(0, .long a0), (2, .long a1), (4, .int v2), (5, .int v3)]) [0, 1, 2, 3] rfl
          exact hj _ _ _ hl hP hD hS
        ·
          replace h := (if_pos c14).symm.trans hX
          refine lv_iload hx hb d15_40_27 (lv_at hl 3 rfl) ?_
          refine lv_goto (tgt := 34) hx hb d15_40_29 rfl ?_
          have e9 := Option.some.inj h
          subst e15
          have hl := lv_sub hl (l' := [(0, .long a0), (2, .long a1), (4, .int v2), (5, .int v3)]) [0, 1, 2, 3] rfl
          exact hj _ _ _ hl hP hD hS
  have hl := lv_sub hl (l' := [(0, .long a0), (2, .long a1), (4, .int 0), (5, .int 0)]) [2, 3, 1, 0] rfl
  exact hloop _ _ _ hX _ _ _ hl hP hD hS
def m_count_l1 (a0 : Int32) (st : MS) : Nat → (Int32 × Int32) → Option (Int32 × Int32)
  | 0, _ => none
  | n9 + 1, e9 => (rd (st.2.2.1 2) 2100 a0).bind fun x8 => (some (a0 + x8)).bind fun y9 => if y9 ≤ e9.2 then (some (e9.1, e9.2)) else ((rd (st.2.2.1 2) 2100 e9.2).bind fun x11 => (some (e9.2 + x11)).bind fun y12 => m_count_l1 a0 st n9 (e9.1 + 1, y12))
theorem m_count_l1_s (a0 : Int32) (st : MS) (n9 : Nat) (e9 : Int32 × Int32) : m_count_l1 a0 st (n9 + 1) e9 = ((rd (st.2.2.1 2) 2100 a0).bind fun x8 => (some (a0 + x8)).bind fun y9 => if y9 ≤ e9.2 then (some (e9.1, e9.2)) else ((rd (st.2.2.1 2) 2100 e9.2).bind fun x11 => (some (e9.2 + x11)).bind fun y12 => m_count_l1 a0 st n9 (e9.1 + 1, y12))) := rfl
def m_count (a0 : Int32) (st : MS) : Option (Int32) := (some (a0 + 1)).bind fun y1 => (m_count_l1 a0 st 4096 ((0 : Int32), y1)).bind fun e2 => some e2.1
set_option maxHeartbeats 4000000 in
set_option maxRecDepth 100000 in
theorem cm_count (l : Launch) (G : Gk) (Zd : Nat → Nat) (q : Nat → Nat) (a0 : Int32) (st : MS) (r0 : Int32) (hm : m_count a0 st = some r0) (sz : Nat) : Met l y15_36 (Cond.code y15_36 prog_15_method_36_code 4 (some .int) :: TB) (rmD 0 0 0) (va_Pc [.ref (q 0), .int a0] (pcW G Zd (wMs q G.2 st) sz)) (qI G (fun rr (_ : Unit) => rr = r0) (fun _ => (wMs q G.2 st)) (va_A (wMs q G.2 st) sz)) 0 0 (va_A (wMs q G.2 st) sz) := by
  refine go (y := y15_36) (cc := prog_15_method_36_code) (maxL := 4) (ret := (some .int)) (av := [.ref (q 0), .int a0]) (Qc := qI G (fun rr (_ : Unit) => rr = r0) (fun _ => (wMs q G.2 st))) "PagedValuesModel" rfl (by decide) (Nat.le_of_ble_eq_true rfl) ?_
  intro p e s m below meth c ls A hx hb hr hlk hml hown hts hin hl hP hD hK hS hA hZ
  have hl : lv_has ls 4 [(0, .ref (q 0)), (1, .int a0)] := hl
  have h := hm
  clear hm
  refine lv_iconst (v := 0) hx hb d15_36_0 (by decide) ?_
  refine lv_istore_n (lv' := [(2, .int 0), (0, .ref (q 0)), (1, .int a0)]) hx hb d15_36_1 rfl hl (by decide) rfl (fun ls hl => ?_)
  refine lv_iload_n hx hb d15_36_2 rfl (lv_at hl 2 rfl) ?_
  refine lv_iconst (v := 1) hx hb d15_36_3 (by decide) ?_
  refine lv_iadd hx hb d15_36_4 ?_
  obtain ⟨y1, hr, h⟩ := ob h
  refine lv_topi (fun y9 ey => ?_)
  have e9 := ey.trans (Option.some.inj hr)
  clear ey
  subst y9
  clear hr
  refine lv_istore_n (lv' := [(3, .int y1), (2, .int 0), (0, .ref (q 0)), (1, .int a0)]) hx hb d15_36_5 rfl hl (by decide) rfl (fun ls hl => ?_)
  obtain ⟨e2, hX, hrest⟩ := ob h
  clear h
  have hj : ∀ (v6 : Int32) (v7 : Int32), e2 = (v6, v7) → ∀ (H : Heap) (locs : List Loc) (ls : Array Slot), lv_has ls 4 [(0, .ref (q 0)), (1, .int a0), (2, .int v6), (3, .int v7)] → va_P G.1 vwCl (wMs q G.2 st) H → va_D A (wMs q G.2 st) → va_S A s.heap H locs → W p l e (rmD 0 0 0) s m ([.ref (q 0), .int a0] : List Value).toArray below meth c H locs 0 0 (MQ below (qI G (fun rr (_ : Unit) => rr = r0) (fun _ => (wMs q G.2 st)) A) ([.ref (q 0), .int a0] : List Value).toArray s 0 0 A) (F0 m 33 ls []) := by
    intro v6 v7 he H locs ls hl hP hD hS
    subst e2
    have h := hrest
    refine lv_iload_n hx hb d15_36_33 rfl (lv_at hl 2 rfl) ?_
    cases h
    exact fin_i hx hb hr hlk hS () rfl hP hD (Nat.le_of_ble_eq_true rfl) (Nat.le_of_ble_eq_true rfl) d15_36_34
  have hloop : ∀ (n9 : Nat) (v3 : Int32) (v4 : Int32), m_count_l1 a0 st n9 (v3, v4) = some e2 → ∀ (H : Heap) (locs : List Loc) (ls : Array Slot), lv_has ls 4 [(0, .ref (q 0)), (1, .int a0), (2, .int v3), (3, .int v4)] → va_P G.1 vwCl (wMs q G.2 st) H → va_D A (wMs q G.2 st) → va_S A s.heap H locs → W p l e (rmD 0 0 0) s m ([.ref (q 0), .int a0] : List Value).toArray below meth c H locs 0 0 (MQ below (qI G (fun rr (_ : Unit) => rr = r0) (fun _ => (wMs q G.2 st)) A) ([.ref (q 0), .int a0] : List Value).toArray s 0 0 A) (F0 m 6 ls []) := by
    intro n9
    induction n9 with
    | zero =>
      intro v3 v4 h
      cases h
    | succ n9 ih =>
      intro v3 v4 h H locs ls hl hP hD hS
      replace h := (m_count_l1_s a0 st n9 (v3, v4)).symm.trans h
      refine lv_iload_n hx hb d15_36_6 rfl (lv_at hl 3 rfl) ?_
      refine lv_iload_n hx hb d15_36_7 rfl (lv_at hl 1 rfl) ?_
      refine lv_aload_n hx hb d15_36_8 rfl (lv_at hl 0 rfl) ?_
      refine va_get (D := G.1) (ci := 13) (v := .ref (q 3)) (C := r_13) (T := f_13) (N := 42) (ref := "PagedValuesModel") hx hb hts (fun w h => List.mem_cons_of_mem _ (ly_13 w h)) hown hK hP 0 rfl rfl 5 (by decide) (hts _ (List.mem_cons_of_mem _ k1156)) (fun _ h9 => h9) rfl d15_36_9 ?_
      refine lv_iload_n hx hb d15_36_12 rfl (lv_at hl 1 rfl) ?_
      obtain ⟨x8, hr, h⟩ := ob h
      obtain ⟨hi, hv⟩ := rd_some hr
      refine va_bald (D := G.1) hx hb hK hP 3 2 rfl rfl (i := a0) hi d15_36_13 ?_
      refine lv_topi (fun y9 ey => ?_)
      have e9 := ey.trans hv
      clear ey
      subst y9
      clear hv hi hr
      refine lv_iadd hx hb d15_36_14 ?_
      obtain ⟨y9, hr, h⟩ := ob h
      refine lv_topi (fun y9 ey => ?_)
      have e9 := ey.trans (Option.some.inj hr)
      clear ey
      subst y9
      clear hr
      refine lv_icmp_ge (tgt := 33) hx hb d15_36_15 rfl (fun c10 => ?_) (fun c10 => ?_)
      ·
        replace h := (if_pos c10).symm.trans h
        have e9 := Option.some.inj h
        subst e2
        have hl := lv_sub hl (l' := [(0, .ref (q 0)), (1, .int a0), (2, .int v3), (3, .int v4)]) [0, 1, 2, 3] rfl
        exact hj _ _ rfl _ _ _ hl hP hD hS
      ·
        replace h := (if_neg c10).symm.trans h
        refine lv_iinc (k := 2) (v := v3 + 1) (lv' := [(2, .int (v3 + 1)), (0, .ref (q 0)), (1, .int a0), (3, .int v4)]) hx hb d15_36_18 hl rfl (by first | decide | rfl) (by decide) rfl (fun ls hl => ?_)
        refine lv_iload_n hx hb d15_36_21 rfl (lv_at hl 3 rfl) ?_
        refine lv_aload_n hx hb d15_36_22 rfl (lv_at hl 1 rfl) ?_
        refine va_get (D := G.1) (ci := 13) (v := .ref (q 3)) (C := r_13) (T := f_13) (N := 42) (ref := "PagedValuesModel") hx hb hts (fun w h => List.mem_cons_of_mem _ (ly_13 w h)) hown hK hP 0 rfl rfl 5 (by decide) (hts _ (List.mem_cons_of_mem _ k1156)) (fun _ h9 => h9) rfl d15_36_23 ?_
        refine lv_iload_n hx hb d15_36_26 rfl (lv_at hl 3 rfl) ?_
        obtain ⟨x11, hr, h⟩ := ob h
        obtain ⟨hi, hv⟩ := rd_some hr
        refine va_bald (D := G.1) hx hb hK hP 3 2 rfl rfl (i := v4) hi d15_36_27 ?_
        refine lv_topi (fun y9 ey => ?_)
        have e9 := ey.trans hv
        clear ey
        subst y9
        clear hv hi hr
        refine lv_iadd hx hb d15_36_28 ?_
        obtain ⟨y12, hr, h⟩ := ob h
        refine lv_topi (fun y9 ey => ?_)
        have e9 := ey.trans (Option.some.inj hr)
        clear ey
        subst y9
        clear hr
        refine lv_istore_n (lv' := [(3, .int y12), (2, .int (v3 + 1)), (0, .ref (q 0)), (1, .int a0)]) hx hb d15_36_29 rfl hl (by decide) rfl (fun ls hl => ?_)
        refine lv_goto (tgt := 6) hx hb d15_36_30 rfl ?_
        have hl := lv_sub hl (l' := [(0, .ref (q 0)), (1, .int a0), (2, .int (v3 + 1)), (3, .int y12)]) [2, 3, 1, 0] rfl
        exact ih _ _ h _ _ _ hl hP hD hS
  have hl := lv_sub hl (l' := [(0, .ref (q 0)), (1, .int a0), (2, .int 0), (3, .int y1)]) [2, 3, 1, 0] rfl
  exact hloop _ _ _ hX _ _ _ hl hP hD hS
def m_putPart (a0 : Int64) (a1 : Int64) (st : MS) : Option (Int32 × MS) := (m_lengthOf a0).bind fun x1 => if x1 = (0 : Int32) then ((m_partName (0 : Int64) (0 : Int64) st).bind fun st75 => (m_at (82 : Int32)).bind fun x77 => (m_at (81 : Int32)).bind fun x80 => (m_at (82 : Int32)).bind fun x83 => (rd (st75.2.2.1 2) 2100 x83).bind fun x86 => (m_copy x77 x80 x86 st75).bind fun st88 => some ((1 : Int32), st88)) else ((m_lastSlash a0 a1).bind fun x5 => (m_walk a0 a1 x5 st).bind fun r10 => if r10.1 < (0 : Int32) then (some ((0 : Int32), r10.2)) else ((rd (r10.2.2.2.1 1) 2100 r10.1).bind fun x12 => if (5 : Int32) ≤ x12 then ((m_token a0 a1 x5 r10.2).bind fun r16 => (rd (r16.2.2.2.1 1) 2100 r10.1).bind fun x17 => if x17 = (6 : Int32) then ((m_member r10.1 (r16.2.2.1 0) (r16.2.2.1 1) r16.2).bind fun x56 => (m_partName (r16.2.2.1 0) (r16.2.2.1 1) r16.2).bind fun st60 => (if (0 : Int32) ≤ x56 then (some x56) else ((rd (st60.2.2.1 2) 2100 r10.1).bind fun x72 => (some (r10.1 + x72)).bind fun y73 => some y73)).bind fun e63 => (if (0 : Int32) ≤ x56 then ((rd (st60.2.2.1 2) 2100 x56).bind fun x71 => some x71) else (some (0 : Int32))).bind fun e66 => (m_splice e63 e66 r10.1 (1 : Int32) st60).bind fun st69 => some ((1 : Int32), st69)) else ((m_count r10.1 r16.2).bind fun x19 => (m_lengthOf (r16.2.2.1 0)).bind fun x22 => (if x22 = (1 : Int32) then ((m_charOf (r16.2.2.1 0) (r16.2.2.1 1) (0 : Int32)).bind fun x49 => if x49 = (45 : Int32) then (some x19) else ((m_tokenNumber r16.2).bind fun x53 => some x53)) else ((m_tokenNumber r16.2).bind fun x46 => some x46)).bind fun e26 => (m_within e26 (0 : Int32) x19).bind fun x28 => if x28 = (0 : Int32) then (some ((0 : Int32), r16.2)) else ((m_partName (0 : Int64) (0 : Int64) r16.2).bind fun st33 => (if e26 = x19 then ((rd (st33.2.2.1 2) 2100 r10.1).bind fun x44 => (some (r10.1 + x44)).bind fun y45 => some y45) else ((m_element r10.1 e26 st33).bind fun x41 => some x41)).bind fun e36 => (m_splice e36 (0 : Int32) r10.1 (1 : Int32) st33).bind fun st39 => some ((1 : Int32), st39)))) else (some ((0 : Int32), r10.2))))
set_option maxHeartbeats 4000000 in
set_option maxRecDepth 100000 in
theorem cm_putPart (l : Launch) (G : Gk) (Zd : Nat → Nat) (q : Nat → Nat) (a0 : Int64) (a1 : Int64) (st : MS) (r0 : Int32) (st0 : MS) (hm : m_putPart a0 a1 st = some (r0, st0)) (sz : Nat) : Met l y15_47 (Cond.code y15_47 prog_15_method_47_code 9 (some .boolean) :: TB) (rmD 4 0 0) (va_Pc [.ref (q 0), .long a0, .long a1] (pcW G Zd (wMs q G.2 st) sz)) (qI G (fun rr (_ : Unit) => rr = r0) (fun _ => (wMs q G.2 st0)) (va_A (wMs q G.2 st) sz)) 0 0 (va_A (wMs q G.2 st) sz) := by
  refine go (y := y15_47) (cc := prog_15_method_47_code) (maxL := 9) (ret := (some .boolean)) (av := [.ref (q 0), .long a0, .long a1]) (Qc := qI G (fun rr (_ : Unit) => rr = r0) (fun _ => (wMs q G.2 st0))) "PagedValuesModel" rfl (by decide) (Nat.le_of_ble_eq_true rfl) ?_
  intro p e s m below meth c ls A hx hb hr hlk hml hown hts hin hl hP hD hK hS hA hZ
  have hl : lv_has ls 9 [(0, .ref (q 0)), (1, .long a0), (3, .long a1)] := hl
  have h := hm
  clear hm
  refine lv_lload_n hx hb d15_47_0 rfl (lv_at hl 1 rfl) ?_
  obtain ⟨x1, hc, h⟩ := ob h
  refine sS_i (As := [.long a0]) (rest := []) ⟨hx, hb, hml, hown, hts⟩ (cm_lengthOf l G Zd _ a0 x1 hc _) (kw_S (n := 1) hts k1343 k1341 k15 k1342 (by decide +kernel) ⟨Nat.le_of_ble_eq_true rfl, Nat.le_of_ble_eq_true rfl⟩) hP hD hK hS hA hZ rfl hl.1 rfl (Nat.le_of_ble_eq_true rfl) d15_47_1 ⟨Nat.le_of_ble_eq_true rfl, Nat.le_of_ble_eq_true rfl⟩ (fun rr u9 H locs hp hP hD hS => ?_)
  clear u9
  subst rr
  clear hc
  refine W.eq (g2 := F0 m 4 ls [.int x1]) rfl ?_
  have hP : va_P G.1 vwCl (wMs q G.2 st) H := hP
  have hD : va_D A (wMs q G.2 st) := hD
  refine lv_if_ne (tgt := 39) hx hb d15_47_4 rfl (fun c4 => ?_) (fun c4 => ?_)
  ·
    replace h := (if_neg c4).symm.trans h
    refine lv_lload_n hx hb d15_47_39 rfl (lv_at hl 1 rfl) ?_
    refine lv_lload_n hx hb d15_47_40 rfl (lv_at hl 2 rfl) ?_
    obtain ⟨x5, hc, h⟩ := ob h
    refine sS_i (As := [.long a0, .long a1]) (rest := []) ⟨hx, hb, hml, hown, hts⟩ (cm_lastSlash l G Zd _ a0 a1 x5 hc _) (kw_S (n := 2) hts k1498 k1496 k15 k1497 (by decide +kernel) ⟨Nat.le_of_ble_eq_true rfl, Nat.le_of_ble_eq_true rfl⟩) hP hD hK hS hA hZ rfl hl.1 rfl (Nat.le_of_ble_eq_true rfl) d15_47_41 ⟨Nat.le_of_ble_eq_true rfl, Nat.le_of_ble_eq_true rfl⟩ (fun rr u9 H locs hp hP hD hS => ?_)
    clear u9
    subst rr
    clear hc
    refine W.eq (g2 := F0 m 44 ls [.int x5]) rfl ?_
    have hP : va_P G.1 vwCl (wMs q G.2 st) H := hP
    have hD : va_D A (wMs q G.2 st) := hD
    refine lv_istore (lv' := [(5, .int x5), (0, .ref (q 0)), (1, .long a0), (3, .long a1)]) hx hb d15_47_44 hl (by decide) rfl (fun ls hl => ?_)
    refine lv_aload_n hx hb d15_47_46 rfl (lv_at hl 1 rfl) ?_
    refine lv_lload_n hx hb d15_47_47 rfl (lv_at hl 2 rfl) ?_
    refine lv_lload_n hx hb d15_47_48 rfl (lv_at hl 3 rfl) ?_
    refine lv_iload hx hb d15_47_49 (lv_at hl 0 rfl) ?_
    obtain ⟨⟨x8, st9⟩, hc, h⟩ := ob h
    refine sV_i (As := [.long a0, .long a1, .int x5]) (rest := []) ⟨hx, hb, hml, hown, hts⟩ (cm_walk l G Zd q a0 a1 x5 st x8 st9 hc _) (kw_V (n := 3) hts k1471 k1468 k15 k1470 ks71 (by decide +kernel) ⟨Nat.le_of_ble_eq_true rfl, Nat.le_of_ble_eq_true rfl⟩) hP hD hK hS hA hZ (va_recv (ci := 13) (q0 := 0) hK hP rfl rfl) rfl hl.1 rfl (Nat.le_of_ble_eq_true rfl) d15_47_51 ⟨Nat.le_of_ble_eq_true rfl, Nat.le_of_ble_eq_true rfl⟩ (fun rr u9 H locs hp hP hD hS => ?_)
    clear u9
    subst rr
    clear hc
    refine W.eq (g2 := F0 m 54 ls [.int x8]) rfl ?_
    have hP : va_P G.1 vwCl (wMs q G.2 st9) H := hP
    have hD : va_D A (wMs q G.2 st9) := hD
    refine lv_istore (lv' := [(6, .int x8), (5, .int x5), (0, .ref (q 0)), (1, .long a0), (3, .long a1)]) hx hb d15_47_54 hl (by decide) rfl (fun ls hl => ?_)
    refine lv_iload hx hb d15_47_56 (lv_at hl 0 rfl) ?_
    refine lv_if_lt (tgt := 72) hx hb d15_47_58 rfl (fun c11 => ?_) (fun c11 => ?_)
    ·
      replace h := (if_pos c11).symm.trans h
      refine lv_iconst (v := 0) hx hb d15_47_72 (by decide) ?_
      cases h
      exact fin_z hx hb hr hlk (by decide) hS () rfl hP hD (Nat.le_of_ble_eq_true rfl) (Nat.le_of_ble_eq_true rfl) d15_47_73
    ·
      replace h := (if_neg c11).symm.trans h
      refine lv_aload_n hx hb d15_47_61 rfl (lv_at hl 2 rfl) ?_
      refine va_get (D := G.1) (ci := 13) (v := .ref (q 2)) (C := r_13) (T := f_13) (N := 42) (ref := "PagedValuesModel") hx hb hts (fun w h => List.mem_cons_of_mem _ (ly_13 w h)) hown hK hP 0 rfl rfl 4 (by decide) (hts _ (List.mem_cons_of_mem _ k1155)) (fun _ h9 => h9) rfl d15_47_62 ?_
      refine lv_iload hx hb d15_47_65 (lv_at hl 0 rfl) ?_
      obtain ⟨x12, hr, h⟩ := ob h
      obtain ⟨hi, hv⟩ := rd_some hr
      refine va_bald (D := G.1) hx hb hK hP 2 2 rfl rfl (i := x8) hi d15_47_67 ?_
      refine lv_topi (fun y9 ey => ?_)
      have e9 := ey.trans hv
      clear ey
      subst y9
      clear hv hi hr
      refine lv_iconst (v := 5) hx hb d15_47_68 (by decide) ?_
      refine lv_icmp_ge (tgt := 74) hx hb d15_47_69 rfl (fun c13 => ?_) (fun c13 => ?_)
      ·
        replace h := (if_pos c13).symm.trans h
        refine lv_aload_n hx hb d15_47_74 rfl (lv_at hl 2 rfl) ?_
        refine lv_lload_n hx hb d15_47_75 rfl (lv_at hl 3 rfl) ?_
        refine lv_lload_n hx hb d15_47_76 rfl (lv_at hl 4 rfl) ?_
        refine lv_iload hx hb d15_47_77 (lv_at hl 1 rfl) ?_
        obtain ⟨⟨x14, st15⟩, hc, h⟩ := ob h
        refine sV_i (As := [.long a0, .long a1, .int x5]) (rest := []) ⟨hx, hb, hml, hown, hts⟩ (cm_token l G Zd q a0 a1 x5 st9 x14 st15 hc _) (kw_V (n := 3) hts k1475 k1472 k15 k1474 ks72 (by decide +kernel) ⟨Nat.le_of_ble_eq_true rfl, Nat.le_of_ble_eq_true rfl⟩) hP hD hK hS hA hZ (va_recv (ci := 13) (q0 := 0) hK hP rfl rfl) rfl hl.1 rfl (Nat.le_of_ble_eq_true rfl) d15_47_79 ⟨Nat.le_of_ble_eq_true rfl, Nat.le_of_ble_eq_true rfl⟩ (fun rr u9 H locs hp hP hD hS => ?_)
        clear u9
        subst rr
        clear hc
        refine W.eq (g2 := F0 m 82 ls [.int x14]) rfl ?_
        have hP : va_P G.1 vwCl (wMs q G.2 st15) H := hP
        have hD : va_D A (wMs q G.2 st15) := hD
        refine lv_pop hx hb d15_47_82 rfl ?_
        refine lv_aload_n hx hb d15_47_83 rfl (lv_at hl 2 rfl) ?_
        refine va_get (D := G.1) (ci := 13) (v := .ref (q 2)) (C := r_13) (T := f_13) (N := 42) (ref := "PagedValuesModel") hx hb hts (fun w h => List.mem_cons_of_mem _ (ly_13 w h)) hown hK hP 0 rfl rfl 4 (by decide) (hts _ (List.mem_cons_of_mem _ k1155)) (fun _ h9 => h9) rfl d15_47_84 ?_
        refine lv_iload hx hb d15_47_87 (lv_at hl 0 rfl) ?_
        obtain ⟨x17, hr, h⟩ := ob h
        obtain ⟨hi, hv⟩ := rd_some hr
        refine va_bald (D := G.1) hx hb hK hP 2 2 rfl rfl (i := x8) hi d15_47_89 ?_
        refine lv_topi (fun y9 ey => ?_)
        have e9 := ey.trans hv
        clear ey
        subst y9
        clear hv hi hr
        refine lv_bipush (v := 6) hx hb d15_47_90 (by decide) ?_
        refine lv_icmp_ne (tgt := 168) hx hb d15_47_92 rfl (fun c18 => ?_) (fun c18 => ?_)
        ·
          replace h := (if_neg c18).symm.trans h
          refine lv_aload_n hx hb d15_47_168 rfl (lv_at hl 2 rfl) ?_
          refine lv_iload hx hb d15_47_169 (lv_at hl 0 rfl) ?_
          obtain ⟨x19, hc, h⟩ := ob h
          refine sV_i (As := [.int x8]) (rest := []) ⟨hx, hb, hml, hown, hts⟩ (cm_count l G Zd q x8 st15 x19 hc _) (kw_V (n := 1) hts k1510 k1507 k15 k1509 ks80 (by decide +kernel) ⟨Nat.le_of_ble_eq_true rfl, Nat.le_of_ble_eq_true rfl⟩) hP hD hK hS hA hZ (va_recv (ci := 13) (q0 := 0) hK hP rfl rfl) rfl hl.1 rfl (Nat.le_of_ble_eq_true rfl) d15_47_171 ⟨Nat.le_of_ble_eq_true rfl, Nat.le_of_ble_eq_true rfl⟩ (fun rr u9 H locs hp hP hD hS => ?_)
          clear u9
          subst rr
          clear hc
          refine W.eq (g2 := F0 m 174 ls [.int x19]) rfl ?_
          have hP : va_P G.1 vwCl (wMs q G.2 st15) H := hP
          have hD : va_D A (wMs q G.2 st15) := hD
          refine lv_istore (lv' := [(7, .int x19), (6, .int x8), (5, .int x5), (0, .ref (q 0)), (1, .long a0), (3, .long a1)]) hx hb d15_47_174 hl (by decide) rfl (fun ls hl => ?_)
          refine lv_aload_n hx hb d15_47_176 rfl (lv_at hl 3 rfl) ?_
          refine va_get (D := G.1) (ci := 13) (v := .long (st15.2.1 0)) (C := r_13) (T := f_13) (N := 42) (ref := "PagedValuesModel") hx hb hts (fun w h => List.mem_cons_of_mem _ (ly_13 w h)) hown hK hP 0 rfl rfl 11 (by decide) (hts _ (List.mem_cons_of_mem _ k1162)) (fun _ h9 => h9) rfl d15_47_177 ?_
          obtain ⟨x22, hc, h⟩ := ob h
          refine sS_i (As := [.long (st15.2.1 0)]) (rest := []) ⟨hx, hb, hml, hown, hts⟩ (cm_lengthOf l G Zd _ (st15.2.1 0) x22 hc _) (kw_S (n := 1) hts k1343 k1341 k15 k1342 (by decide +kernel) ⟨Nat.le_of_ble_eq_true rfl, Nat.le_of_ble_eq_true rfl⟩) hP hD hK hS hA hZ rfl hl.1 rfl (Nat.le_of_ble_eq_true rfl) d15_47_180 ⟨Nat.le_of_ble_eq_true rfl, Nat.le_of_ble_eq_true rfl⟩ (fun rr u9 H locs hp hP hD hS => ?_)
          clear u9
          subst rr
          clear hc
          refine W.eq (g2 := F0 m 183 ls [.int x22]) rfl ?_
          have hP : va_P G.1 vwCl (wMs q G.2 st15) H := hP
          have hD : va_D A (wMs q G.2 st15) := hD
          refine lv_iconst (v := 1) hx hb d15_47_183 (by decide) ?_
          obtain ⟨e26, hX, h⟩ := ob h
          have hj : ∀ (H : Heap) (locs : List Loc) (ls : Array Slot), lv_has ls 9 [(0, .ref (q 0)), (1, .long a0), (3, .long a1), (5, .int x5), (6, .int x8), (7, .int x19)] → va_P G.1 vwCl (wMs q G.2 st15) H → va_D A (wMs q G.2 st15) → va_S A s.heap H locs → W p l e (rmD 4 0 0) s m ([.ref (q 0), .long a0, .long a1] : List Value).toArray below meth c H locs 0 0 (MQ below (qI G (fun rr (_ : Unit) => rr = r0) (fun _ => (wMs q G.2 st0)) A) ([.ref (q 0), .long a0, .long a1] : List Value).toArray s 0 0 A) (F0 m 213 ls [.int e26]) := by
            intro H locs ls hl hP hD hS
            refine lv_istore (lv' := [(8, .int e26), (0, .ref (q 0)), (1, .long a0), (3, .long a1), (5, .int x5), (6, .int x8), (7, .int x19)]) hx hb d15_47_213 hl (by decide) rfl (fun ls hl => ?_)
            refine lv_iload hx hb d15_47_215 (lv_at hl 0 rfl) ?_
            refine lv_iconst (v := 0) hx hb d15_47_217 (by decide) ?_
            refine lv_iload hx hb d15_47_218 (lv_at hl 6 rfl) ?_
            obtain ⟨x28, hc, h⟩ := ob h
            refine sS_i (As := [.int e26, .int 0, .int x19]) (rest := []) ⟨hx, hb, hml, hown, hts⟩ (cm_within l G Zd _ e26 (0 : Int32) x19 x28 hc _) (kw_S (n := 3) hts k1289 k1287 k15 k1288 (by decide +kernel) ⟨Nat.le_of_ble_eq_true rfl, Nat.le_of_ble_eq_true rfl⟩) hP hD hK hS hA hZ rfl hl.1 rfl (Nat.le_of_ble_eq_true rfl) d15_47_220 ⟨Nat.le_of_ble_eq_true rfl, Nat.le_of_ble_eq_true rfl⟩ (fun rr u9 H locs hp hP hD hS => ?_)
            clear u9
            subst rr
            clear hc
            refine W.eq (g2 := F0 m 223 ls [.int x28]) rfl ?_
            have hP : va_P G.1 vwCl (wMs q G.2 st15) H := hP
            have hD : va_D A (wMs q G.2 st15) := hD
            refine lv_if_ne (tgt := 228) hx hb d15_47_223 rfl (fun c31 => ?_) (fun c31 => ?_)
            ·
              replace h := (if_neg c31).symm.trans h
              refine lv_aload_n hx hb d15_47_228 rfl (lv_at hl 1 rfl) ?_
              refine lv_lconst (v := 0) hx hb d15_47_229 (by decide) ?_
              refine lv_lconst (v := 0) hx hb d15_47_230 (by decide) ?_
              obtain ⟨st33, hc, h⟩ := ob h
              refine sV_v (As := [.long 0, .long 0]) (rest := []) ⟨hx, hb, hml, hown, hts⟩ (cm_partName l G Zd q (0 : Int64) (0 : Int64) st15 st33 hc _) (kw_V (n := 2) hts k1495 k1492 k15 k1494 ks77 (by decide +kernel) ⟨Nat.le_of_ble_eq_true rfl, Nat.le_of_ble_eq_true rfl⟩) hP hD hK hS hA hZ (va_recv (ci := 13) (q0 := 0) hK hP rfl rfl) rfl hl.1 rfl (Nat.le_of_ble_eq_true rfl) d15_47_231 ⟨Nat.le_of_ble_eq_true rfl, Nat.le_of_ble_eq_true rfl⟩ (fun u9 H locs hp hP hD hS => ?_)
              clear u9
              clear hp
              clear hc
              refine W.eq (g2 := F0 m 234 ls []) rfl ?_
              have hP : va_P G.1 vwCl (wMs q G.2 st33) H := hP
              have hD : va_D A (wMs q G.2 st33) := hD
              refine lv_aload_n hx hb d15_47_234 rfl (lv_at hl 1 rfl) ?_
              refine lv_iload hx hb d15_47_235 (lv_at hl 0 rfl) ?_
              refine lv_iload hx hb d15_47_237 (lv_at hl 6 rfl) ?_
              obtain ⟨e36, hX, h⟩ := ob h
              have hj : ∀ (H : Heap) (locs : List Loc) (ls : Array Slot), lv_has ls 9 [(0, .ref (q 0)), (1, .long a0), (3, .long a1), (5, .int x5), (6, .int x8), (7, .int x19), (8, .int e26)] → va_P G.1 vwCl (wMs q G.2 st33) H → va_D A (wMs q G.2 st33) → va_S A s.heap H locs → W p l e (rmD 4 0 0) s m ([.ref (q 0), .long a0, .long a1] : List Value).toArray below meth c H locs 0 0 (MQ below (qI G (fun rr (_ : Unit) => rr = r0) (fun _ => (wMs q G.2 st0)) A) ([.ref (q 0), .long a0, .long a1] : List Value).toArray s 0 0 A) (F0 m 263 ls [.int e36, .ref (q 0)]) := by
                intro H locs ls hl hP hD hS
                refine lv_iconst (v := 0) hx hb d15_47_263 (by decide) ?_
                refine lv_iload hx hb d15_47_264 (lv_at hl 4 rfl) ?_
                refine lv_iconst (v := 1) hx hb d15_47_266 (by decide) ?_
                obtain ⟨st39, hc, h⟩ := ob h
                refine sV_v (As := [.int e36, .int 0, .int x8, .int 1]) (rest := []) ⟨hx, hb, hml, hown, hts⟩ (cm_splice l G Zd q e36 (0 : Int32) x8 (1 : Int32) st33 st39 hc _) (kw_V (n := 4) hts k1502 k1499 k15 k1501 ks78 (by decide +kernel) ⟨Nat.le_of_ble_eq_true rfl, Nat.le_of_ble_eq_true rfl⟩) hP hD hK hS hA hZ (va_recv (ci := 13) (q0 := 0) hK hP rfl rfl) rfl hl.1 rfl (Nat.le_of_ble_eq_true rfl) d15_47_267 ⟨Nat.le_of_ble_eq_true rfl, Nat.le_of_ble_eq_true rfl⟩ (fun u9 H locs hp hP hD hS => ?_)
                clear u9
                clear hp
                clear hc
                refine W.eq (g2 := F0 m 270 ls []) rfl ?_
                have hP : va_P G.1 vwCl (wMs q G.2 st39) H := hP
                have hD : va_D A (wMs q G.2 st39) := hD
                refine lv_iconst (v := 1) hx hb d15_47_270 (by decide) ?_
                cases h
                exact fin_z hx hb hr hlk (by decide) hS () rfl hP hD (Nat.le_of_ble_eq_true rfl) (Nat.le_of_ble_eq_true rfl) d15_47_271
              clear h
              refine lv_icmp_ne (tgt := 255) hx hb d15_47_239 rfl (fun c35 => ?_) (fun c35 => ?_)
              ·
                replace h := (if_neg c35).symm.trans hX
                refine lv_aload_n hx hb d15_47_255 rfl (lv_at hl 1 rfl) ?_
                refine lv_iload hx hb d15_47_256 (lv_at hl 5 rfl) ?_
                refine lv_iload hx hb d15_47_258 (lv_at hl 0 rfl) ?_
                obtain ⟨x41, hc, h⟩ := ob h
                refine sV_i (As := [.int x8, .int e26]) (rest := [.ref (q 0)]) ⟨hx, hb, hml, hown, hts⟩ (cm_element l G Zd q x8 e26 st33 x41 hc _) (kw_V (n := 2) hts k1483 k1480 k15 k1482 ks74 (by decide +kernel) ⟨Nat.le_of_ble_eq_true rfl, Nat.le_of_ble_eq_true rfl⟩) hP hD hK hS hA hZ (va_recv (ci := 13) (q0 := 0) hK hP rfl rfl) rfl hl.1 rfl (Nat.le_of_ble_eq_true rfl) d15_47_260 ⟨Nat.le_of_ble_eq_true rfl, Nat.le_of_ble_eq_true rfl⟩ (fun rr u9 H locs hp hP hD hS => ?_)
                clear u9
                subst rr
                clear hc
                refine W.eq (g2 := F0 m 263 ls [.int x41, .ref (q 0)]) rfl ?_
                have hP : va_P G.1 vwCl (wMs q G.2 st33) H := hP
                have hD : va_D A (wMs q G.2 st33) := hD
                have e9 := Option.some.inj h
                subst e36
                have hl := lv_sub hl (l' := [(0, .ref (q 0)), (1, .long a0), (3, .long a1), (5, .int x5), (6, .int x8), (7, .int x19), (8, .int e26)]) [1, 2, 3, 4, 5, 6, 0] rfl
                exact hj _ _ _ hl hP hD hS
              ·
                replace h := (if_pos c35).symm.trans hX
                refine lv_iload hx hb d15_47_242 (lv_at hl 5 rfl) ?_
                refine lv_aload_n hx hb d15_47_244 rfl (lv_at hl 1 rfl) ?_
                refine va_get (D := G.1) (ci := 13) (v := .ref (q 3)) (C := r_13) (T := f_13) (N := 42) (ref := "PagedValuesModel") hx hb hts (fun w h => List.mem_cons_of_mem _ (ly_13 w h)) hown hK hP 0 rfl rfl 5 (by decide) (hts _ (List.mem_cons_of_mem _ k1156)) (fun _ h9 => h9) rfl d15_47_245 ?_
                refine lv_iload hx hb d15_47_248 (lv_at hl 5 rfl) ?_
                obtain ⟨x44, hr, h⟩ := ob h
                obtain ⟨hi, hv⟩ := rd_some hr
                refine va_bald (D := G.1) hx hb hK hP 3 2 rfl rfl (i := x8) hi d15_47_250 ?_
                refine lv_topi (fun y9 ey => ?_)
                have e9 := ey.trans hv
                clear ey
                subst y9
                clear hv hi hr
                refine lv_iadd hx hb d15_47_251 ?_
                obtain ⟨y45, hr, h⟩ := ob h
                refine lv_topi (fun y9 ey => ?_)
                have e9 := ey.trans (Option.some.inj hr)
                clear ey
                subst y9
                clear hr
                refine lv_goto (tgt := 263) hx hb d15_47_252 rfl ?_
                have e9 := Option.some.inj h
                subst e36
                have hl := lv_sub hl (l' := [(0, .ref (q 0)), (1, .long a0), (3, .long a1), (5, .int x5), (6, .int x8), (7, .int x19), (8, .int e26)]) [1, 2, 3, 4, 5, 6, 0] rfl
                exact hj _ _ _ hl hP hD hS
            ·
              replace h := (if_pos c31).symm.trans h
              refine lv_iconst (v := 0) hx hb d15_47_226 (by decide) ?_
              cases h
              exact fin_z hx hb hr hlk (by decide) hS () rfl hP hD (Nat.le_of_ble_eq_true rfl) (Nat.le_of_ble_eq_true rfl) d15_47_227
          clear h
          refine lv_icmp_ne (tgt := 209) hx hb d15_47_184 rfl (fun c25 => ?_) (fun c25 => ?_)
          ·
            replace h := (if_neg c25).symm.trans hX
            refine lv_aload_n hx hb d15_47_209 rfl (lv_at hl 3 rfl) ?_
            obtain ⟨x46, hc, h⟩ := ob h
            refine sV_i (As := []) (rest := []) ⟨hx, hb, hml, hown, hts⟩ (cm_tokenNumber l G Zd q st15 x46 hc _) (kw_V (n := 0) hts k1479 k1476 k15 k1478 ks73 (by decide +kernel) ⟨Nat.le_of_ble_eq_true rfl, Nat.le_of_ble_eq_true rfl⟩) hP hD hK hS hA hZ (va_recv (ci := 13) (q0 := 0) hK hP rfl rfl) rfl hl.1 rfl (Nat.le_of_ble_eq_true rfl) d15_47_210 ⟨Nat.le_of_ble_eq_true rfl, Nat.le_of_ble_eq_true rfl⟩ (fun rr u9 H locs hp hP hD hS => ?_)
            clear u9
            subst rr
            clear hc
            refine W.eq (g2 := F0 m 213 ls [.int x46]) rfl ?_
            have hP : va_P G.1 vwCl (wMs q G.2 st15) H := hP
            have hD : va_D A (wMs q G.2 st15) := hD
            have e9 := Option.some.inj h
            subst e26
            have hl := lv_sub hl (l' := [(0, .ref (q 0)), (1, .long a0), (3, .long a1), (5, .int x5), (6, .int x8), (7, .int x19)]) [3, 4, 5, 2, 1, 0] rfl
            exact hj _ _ _ hl hP hD hS
          ·
            replace h := (if_pos c25).symm.trans hX
            refine lv_aload_n hx hb d15_47_187 rfl (lv_at hl 3 rfl) ?_
            refine va_get (D := G.1) (ci := 13) (v := .long (st15.2.1 0)) (C := r_13) (T := f_13) (N := 42) (ref := "PagedValuesModel") hx hb hts (fun w h => List.mem_cons_of_mem _ (ly_13 w h)) hown hK hP 0 rfl rfl 11 (by decide) (hts _ (List.mem_cons_of_mem _ k1162)) (fun _ h9 => h9) rfl d15_47_188 ?_
            refine lv_aload_n hx hb d15_47_191 rfl (lv_at hl 3 rfl) ?_
            refine va_get (D := G.1) (ci := 13) (v := .long (st15.2.1 1)) (C := r_13) (T := f_13) (N := 42) (ref := "PagedValuesModel") hx hb hts (fun w h => List.mem_cons_of_mem _ (ly_13 w h)) hown hK hP 0 rfl rfl 12 (by decide) (hts _ (List.mem_cons_of_mem _ k1163)) (fun _ h9 => h9) rfl d15_47_192 ?_
            refine lv_iconst (v := 0) hx hb d15_47_195 (by decide) ?_
            obtain ⟨x49, hc, h⟩ := ob h
            refine sS_i (As := [.long (st15.2.1 0), .long (st15.2.1 1), .int 0]) (rest := []) ⟨hx, hb, hml, hown, hts⟩ (cm_charOf l G Zd _ (st15.2.1 0) (st15.2.1 1) (0 : Int32) x49 hc _) (kw_S (n := 3) hts k1466 k1464 k15 k1465 (by decide +kernel) ⟨Nat.le_of_ble_eq_true rfl, Nat.le_of_ble_eq_true rfl⟩) hP hD hK hS hA hZ rfl hl.1 rfl (Nat.le_of_ble_eq_true rfl) d15_47_196 ⟨Nat.le_of_ble_eq_true rfl, Nat.le_of_ble_eq_true rfl⟩ (fun rr u9 H locs hp hP hD hS => ?_)
            clear u9
            subst rr
            clear hc
            refine W.eq (g2 := F0 m 199 ls [.int x49]) rfl ?_
            have hP : va_P G.1 vwCl (wMs q G.2 st15) H := hP
            have hD : va_D A (wMs q G.2 st15) := hD
            refine lv_bipush (v := 45) hx hb d15_47_199 (by decide) ?_
            refine lv_icmp_ne (tgt := 209) hx hb d15_47_201 rfl (fun c52 => ?_) (fun c52 => ?_)
            ·
              replace h := (if_neg c52).symm.trans h
              refine lv_aload_n hx hb d15_47_209 rfl (lv_at hl 3 rfl) ?_
              obtain ⟨x53, hc, h⟩ := ob h
              refine sV_i (As := []) (rest := []) ⟨hx, hb, hml, hown, hts⟩ (cm_tokenNumber l G Zd q st15 x53 hc _) (kw_V (n := 0) hts k1479 k1476 k15 k1478 ks73 (by decide +kernel) ⟨Nat.le_of_ble_eq_true rfl, Nat.le_of_ble_eq_true rfl⟩) hP hD hK hS hA hZ (va_recv (ci := 13) (q0 := 0) hK hP rfl rfl) rfl hl.1 rfl (Nat.le_of_ble_eq_true rfl) d15_47_210 ⟨Nat.le_of_ble_eq_true rfl, Nat.le_of_ble_eq_true rfl⟩ (fun rr u9 H locs hp hP hD hS => ?_)
              clear u9
              subst rr
              clear hc
              refine W.eq (g2 := F0 m 213 ls [.int x53]) rfl ?_
              have hP : va_P G.1 vwCl (wMs q G.2 st15) H := hP
              have hD : va_D A (wMs q G.2 st15) := hD
              have e9 := Option.some.inj h
              subst e26
              have hl := lv_sub hl (l' := [(0, .ref (q 0)), (1, .long a0), (3, .long a1), (5, .int x5), (6, .int x8), (7, .int x19)]) [3, 4, 5, 2, 1, 0] rfl
              exact hj _ _ _ hl hP hD hS
            ·
              replace h := (if_pos c52).symm.trans h
              refine lv_iload hx hb d15_47_204 (lv_at hl 0 rfl) ?_
              refine lv_goto (tgt := 213) hx hb d15_47_206 rfl ?_
              have e9 := Option.some.inj h
              subst e26
              have hl := lv_sub hl (l' := [(0, .ref (q 0)), (1, .long a0), (3, .long a1), (5, .int x5), (6, .int x8), (7, .int x19)]) [3, 4, 5, 2, 1, 0] rfl
              exact hj _ _ _ hl hP hD hS
        ·
          replace h := (if_pos c18).symm.trans h
          refine lv_aload_n hx hb d15_47_95 rfl (lv_at hl 2 rfl) ?_
          refine lv_iload hx hb d15_47_96 (lv_at hl 0 rfl) ?_
          refine lv_aload_n hx hb d15_47_98 rfl (lv_at hl 2 rfl) ?_
          refine va_get (D := G.1) (ci := 13) (v := .long (st15.2.1 0)) (C := r_13) (T := f_13) (N := 42) (ref := "PagedValuesModel") hx hb hts (fun w h => List.mem_cons_of_mem _ (ly_13 w h)) hown hK hP 0 rfl rfl 11 (by decide) (hts _ (List.mem_cons_of_mem _ k1162)) (fun _ h9 => h9) rfl d15_47_99 ?_
          refine lv_aload_n hx hb d15_47_102 rfl (lv_at hl 2 rfl) ?_
          refine va_get (D := G.1) (ci := 13) (v := .long (st15.2.1 1)) (C := r_13) (T := f_13) (N := 42) (ref := "PagedValuesModel") hx hb hts (fun w h => List.mem_cons_of_mem _ (ly_13 w h)) hown hK hP 0 rfl rfl 12 (by decide) (hts _ (List.mem_cons_of_mem _ k1163)) (fun _ h9 => h9) rfl d15_47_103 ?_
          obtain ⟨x56, hc, h⟩ := ob h
          refine sV_i (As := [.int x8, .long (st15.2.1 0), .long (st15.2.1 1)]) (rest := []) ⟨hx, hb, hml, hown, hts⟩ (cm_member l G Zd q x8 (st15.2.1 0) (st15.2.1 1) st15 x56 hc _) (kw_V (n := 3) hts k1388 k1385 k15 k1387 ks55 (by decide +kernel) ⟨Nat.le_of_ble_eq_true rfl, Nat.le_of_ble_eq_true rfl⟩) hP hD hK hS hA hZ (va_recv (ci := 13) (q0 := 0) hK hP rfl rfl) rfl hl.1 rfl (Nat.le_of_ble_eq_true rfl) d15_47_106 ⟨Nat.le_of_ble_eq_true rfl, Nat.le_of_ble_eq_true rfl⟩ (fun rr u9 H locs hp hP hD hS => ?_)
          clear u9
          subst rr
          clear hc
          refine W.eq (g2 := F0 m 109 ls [.int x56]) rfl ?_
          have hP : va_P G.1 vwCl (wMs q G.2 st15) H := hP
          have hD : va_D A (wMs q G.2 st15) := hD
          refine lv_istore (lv' := [(7, .int x56), (6, .int x8), (5, .int x5), (0, .ref (q 0)), (1, .long a0), (3, .long a1)]) hx hb d15_47_109 hl (by decide) rfl (fun ls hl => ?_)
          refine lv_aload_n hx hb d15_47_111 rfl (lv_at hl 3 rfl) ?_
          refine lv_aload_n hx hb d15_47_112 rfl (lv_at hl 3 rfl) ?_
          refine va_get (D := G.1) (ci := 13) (v := .long (st15.2.1 0)) (C := r_13) (T := f_13) (N := 42) (ref := "PagedValuesModel") hx hb hts (fun w h => List.mem_cons_of_mem _ (ly_13 w h)) hown hK hP 0 rfl rfl 11 (by decide) (hts _ (List.mem_cons_of_mem _ k1162)) (fun _ h9 => h9) rfl d15_47_113 ?_
          refine lv_aload_n hx hb d15_47_116 rfl (lv_at hl 3 rfl) ?_
          refine va_get (D := G.1) (ci := 13) (v := .long (st15.2.1 1)) (C := r_13) (T := f_13) (N := 42) (ref := "PagedValuesModel") hx hb hts (fun w h => List.mem_cons_of_mem _ (ly_13 w h)) hown hK hP 0 rfl rfl 12 (by decide) (hts _ (List.mem_cons_of_mem _ k1163)) (fun _ h9 => h9) rfl d15_47_117 ?_
          obtain ⟨st60, hc, h⟩ := ob h
          refine sV_v (As := [.long (st15.2.1 0), .long (st15.2.1 1)]) (rest := []) ⟨hx, hb, hml, hown, hts⟩ (cm_partName l G Zd q (st15.2.1 0) (st15.2.1 1) st15 st60 hc _) (kw_V (n := 2) hts k1495 k1492 k15 k1494 ks77 (by decide +kernel) ⟨Nat.le_of_ble_eq_true rfl, Nat.le_of_ble_eq_true rfl⟩) hP hD hK hS hA hZ (va_recv (ci := 13) (q0 := 0) hK hP rfl rfl) rfl hl.1 rfl (Nat.le_of_ble_eq_true rfl) d15_47_120 ⟨Nat.le_of_ble_eq_true rfl, Nat.le_of_ble_eq_true rfl⟩ (fun u9 H locs hp hP hD hS => ?_)
          clear u9
          clear hp
          clear hc
          refine W.eq (g2 := F0 m 123 ls []) rfl ?_
          have hP : va_P G.1 vwCl (wMs q G.2 st60) H := hP
          have hD : va_D A (wMs q G.2 st60) := hD
          refine lv_aload_n hx hb d15_47_123 rfl (lv_at hl 3 rfl) ?_
          refine lv_iload hx hb d15_47_124 (lv_at hl 0 rfl) ?_
          obtain ⟨e63, hX, h⟩ := ob h
          have hj : ∀ (H : Heap) (locs : List Loc) (ls : Array Slot), lv_has ls 9 [(0, .ref (q 0)), (1, .long a0), (3, .long a1), (5, .int x5), (6, .int x8), (7, .int x56)] → va_P G.1 vwCl (wMs q G.2 st60) H → va_D A (wMs q G.2 st60) → va_S A s.heap H locs → W p l e (rmD 4 0 0) s m ([.ref (q 0), .long a0, .long a1] : List Value).toArray below meth c H locs 0 0 (MQ below (qI G (fun rr (_ : Unit) => rr = r0) (fun _ => (wMs q G.2 st0)) A) ([.ref (q 0), .long a0, .long a1] : List Value).toArray s 0 0 A) (F0 m 144 ls [.int e63, .ref (q 0)]) := by
            intro H locs ls hl hP hD hS
            refine lv_iload hx hb d15_47_144 (lv_at hl 5 rfl) ?_
            obtain ⟨e66, hX, h⟩ := ob h
            have hj : ∀ (H : Heap) (locs : List Loc) (ls : Array Slot), lv_has ls 9 [(0, .ref (q 0)), (1, .long a0), (3, .long a1), (5, .int x5), (6, .int x8), (7, .int x56)] → va_P G.1 vwCl (wMs q G.2 st60) H → va_D A (wMs q G.2 st60) → va_S A s.heap H locs → W p l e (rmD 4 0 0) s m ([.ref (q 0), .long a0, .long a1] : List Value).toArray below meth c H locs 0 0 (MQ below (qI G (fun rr (_ : Unit) => rr = r0) (fun _ => (wMs q G.2 st0)) A) ([.ref (q 0), .long a0, .long a1] : List Value).toArray s 0 0 A) (F0 m 160 ls [.int e66, .int e63, .ref (q 0)]) := by
              intro H locs ls hl hP hD hS
              refine lv_iload hx hb d15_47_160 (lv_at hl 4 rfl) ?_
              refine lv_iconst (v := 1) hx hb d15_47_162 (by decide) ?_
              obtain ⟨st69, hc, h⟩ := ob h
              refine sV_v (As := [.int e63, .int e66, .int x8, .int 1]) (rest := []) ⟨hx, hb, hml, hown, hts⟩ (cm_splice l G Zd q e63 e66 x8 (1 : Int32) st60 st69 hc _) (kw_V (n := 4) hts k1502 k1499 k15 k1501 ks78 (by decide +kernel) ⟨Nat.le_of_ble_eq_true rfl, Nat.le_of_ble_eq_true rfl⟩) hP hD hK hS hA hZ (va_recv (ci := 13) (q0 := 0) hK hP rfl rfl) rfl hl.1 rfl (Nat.le_of_ble_eq_true rfl) d15_47_163 ⟨Nat.le_of_ble_eq_true rfl, Nat.le_of_ble_eq_true rfl⟩ (fun u9 H locs hp hP hD hS => ?_)
              clear u9
              clear hp
              clear hc
              refine W.eq (g2 := F0 m 166 ls []) rfl ?_
              have hP : va_P G.1 vwCl (wMs q G.2 st69) H := hP
              have hD : va_D A (wMs q G.2 st69) := hD
              refine lv_iconst (v := 1) hx hb d15_47_166 (by decide) ?_
              cases h
              exact fin_z hx hb hr hlk (by decide) hS () rfl hP hD (Nat.le_of_ble_eq_true rfl) (Nat.le_of_ble_eq_true rfl) d15_47_167
            clear h
            refine lv_if_ge (tgt := 153) hx hb d15_47_146 rfl (fun c65 => ?_) (fun c65 => ?_)
            ·
              replace h := (if_pos c65).symm.trans hX
              refine lv_aload_n hx hb d15_47_153 rfl (lv_at hl 0 rfl) ?_
              refine va_get (D := G.1) (ci := 13) (v := .ref (q 3)) (C := r_13) (T := f_13) (N := 42) (ref := "PagedValuesModel") hx hb hts (fun w h => List.mem_cons_of_mem _ (ly_13 w h)) hown hK hP 0 rfl rfl 5 (by decide) (hts _ (List.mem_cons_of_mem _ k1156)) (fun _ h9 => h9) rfl d15_47_154 ?_
              refine lv_iload hx hb d15_47_157 (lv_at hl 5 rfl) ?_
              obtain ⟨x71, hr, h⟩ := ob h
              obtain ⟨hi, hv⟩ := rd_some hr
              refine va_bald (D := G.1) hx hb hK hP 3 2 rfl rfl (i := x56) hi d15_47_159 ?_
              refine lv_topi (fun y9 ey => ?_)
              have e9 := ey.trans hv
              clear ey
              subst y9
              clear hv hi hr
              have e9 := Option.some.inj h
              subst e66
              have hl := lv_sub hl (l' := [(0, .ref (q 0)), (1, .long a0), (3, .long a1), (5, .int x5), (6, .int x8), (7, .int x56)]) [0, 1, 2, 3, 4, 5] rfl
              exact hj _ _ _ hl hP hD hS
            ·
              replace h := (if_neg c65).symm.trans hX
              refine lv_iconst (v := 0) hx hb d15_47_149 (by decide) ?_
              refine lv_goto (tgt := 160) hx hb d15_47_150 rfl ?_
              have e9 := Option.some.inj h
              subst e66
              have hl := lv_sub hl (l' := [(0, .ref (q 0)), (1, .long a0), (3, .long a1), (5, .int x5), (6, .int x8), (7, .int x56)]) [0, 1, 2, 3, 4, 5] rfl
              exact hj _ _ _ hl hP hD hS
          clear h
          refine lv_if_ge (tgt := 142) hx hb d15_47_126 rfl (fun c62 => ?_) (fun c62 => ?_)
          ·
            replace h := (if_pos c62).symm.trans hX
            refine lv_iload hx hb d15_47_142 (lv_at hl 0 rfl) ?_
            have e9 := Option.some.inj h
            subst e63
            have hl := lv_sub hl (l' := [(0, .ref (q 0)), (1, .long a0), (3, .long a1), (5, .int x5), (6, .int x8), (7, .int x56)]) [3, 4, 5, 2, 1, 0] rfl
            exact hj _ _ _ hl hP hD hS
          ·
            replace h := (if_neg c62).symm.trans hX
            refine lv_iload hx hb d15_47_129 (lv_at hl 1 rfl) ?_
            refine lv_aload_n hx hb d15_47_131 rfl (lv_at hl 3 rfl) ?_
            refine va_get (D := G.1) (ci := 13) (v := .ref (q 3)) (C := r_13) (T := f_13) (N := 42) (ref := "PagedValuesModel") hx hb hts (fun w h => List.mem_cons_of_mem _ (ly_13 w h)) hown hK hP 0 rfl rfl 5 (by decide) (hts _ (List.mem_cons_of_mem _ k1156)) (fun _ h9 => h9) rfl d15_47_132 ?_
            refine lv_iload hx hb d15_47_135 (lv_at hl 1 rfl) ?_
            obtain ⟨x72, hr, h⟩ := ob h
            obtain ⟨hi, hv⟩ := rd_some hr
            refine va_bald (D := G.1) hx hb hK hP 3 2 rfl rfl (i := x8) hi d15_47_137 ?_
            refine lv_topi (fun y9 ey => ?_)
            have e9 := ey.trans hv
            clear ey
            subst y9
            clear hv hi hr
            refine lv_iadd hx hb d15_47_138 ?_
            obtain ⟨y73, hr, h⟩ := ob h
            refine lv_topi (fun y9 ey => ?_)
            have e9 := ey.trans (Option.some.inj hr)
            clear ey
            subst y9
            clear hr
            refine lv_goto (tgt := 144) hx hb d15_47_139 rfl ?_
            have e9 := Option.some.inj h
            subst e63
            have hl := lv_sub hl (l' := [(0, .ref (q 0)), (1, .long a0), (3, .long a1), (5, .int x5), (6, .int x8), (7, .int x56)]) [3, 4, 5, 2, 1, 0] rfl
            exact hj _ _ _ hl hP hD hS
      ·
        replace h := (if_neg c13).symm.trans h
        refine lv_iconst (v := 0) hx hb d15_47_72 (by decide) ?_
        cases h
        exact fin_z hx hb hr hlk (by decide) hS () rfl hP hD (Nat.le_of_ble_eq_true rfl) (Nat.le_of_ble_eq_true rfl) d15_47_73
  ·
    replace h := (if_pos c4).symm.trans h
    refine lv_aload_n hx hb d15_47_7 rfl (lv_at hl 0 rfl) ?_
    refine lv_lconst (v := 0) hx hb d15_47_8 (by decide) ?_
    refine lv_lconst (v := 0) hx hb d15_47_9 (by decide) ?_
    obtain ⟨st75, hc, h⟩ := ob h
    refine sV_v (As := [.long 0, .long 0]) (rest := []) ⟨hx, hb, hml, hown, hts⟩ (cm_partName l G Zd q (0 : Int64) (0 : Int64) st st75 hc _) (kw_V (n := 2) hts k1495 k1492 k15 k1494 ks77 (by decide +kernel) ⟨Nat.le_of_ble_eq_true rfl, Nat.le_of_ble_eq_true rfl⟩) hP hD hK hS hA hZ (va_recv (ci := 13) (q0 := 0) hK hP rfl rfl) rfl hl.1 rfl (Nat.le_of_ble_eq_true rfl) d15_47_10 ⟨Nat.le_of_ble_eq_true rfl, Nat.le_of_ble_eq_true rfl⟩ (fun u9 H locs hp hP hD hS => ?_)
    clear u9
    clear hp
    clear hc
    refine W.eq (g2 := F0 m 13 ls []) rfl ?_
    have hP : va_P G.1 vwCl (wMs q G.2 st75) H := hP
    have hD : va_D A (wMs q G.2 st75) := hD
    refine lv_aload_n hx hb d15_47_13 rfl (lv_at hl 0 rfl) ?_
    refine lv_bipush (v := 82) hx hb d15_47_14 (by decide) ?_
    obtain ⟨x77, hc, h⟩ := ob h
    refine sS_i (As := [.int 82]) (rest := [.ref (q 0)]) ⟨hx, hb, hml, hown, hts⟩ (cm_at l G Zd _ (82 : Int32) x77 hc _) (kw_S (n := 1) hts k1312 k1310 k15 k1311 (by decide +kernel) ⟨Nat.le_of_ble_eq_true rfl, Nat.le_of_ble_eq_true rfl⟩) hP hD hK hS hA hZ rfl hl.1 rfl (Nat.le_of_ble_eq_true rfl) d15_47_16 ⟨Nat.le_of_ble_eq_true rfl, Nat.le_of_ble_eq_true rfl⟩ (fun rr u9 H locs hp hP hD hS => ?_)
    clear u9
    subst rr
    clear hc
    refine W.eq (g2 := F0 m 19 ls [.int x77, .ref (q 0)]) rfl ?_
    have hP : va_P G.1 vwCl (wMs q G.2 st75) H := hP
    have hD : va_D A (wMs q G.2 st75) := hD
    refine lv_bipush (v := 81) hx hb d15_47_19 (by decide) ?_
    obtain ⟨x80, hc, h⟩ := ob h
    refine sS_i (As := [.int 81]) (rest := [.int x77, .ref (q 0)]) ⟨hx, hb, hml, hown, hts⟩ (cm_at l G Zd _ (81 : Int32) x80 hc _) (kw_S (n := 1) hts k1312 k1310 k15 k1311 (by decide +kernel) ⟨Nat.le_of_ble_eq_true rfl, Nat.le_of_ble_eq_true rfl⟩) hP hD hK hS hA hZ rfl hl.1 rfl (Nat.le_of_ble_eq_true rfl) d15_47_21 ⟨Nat.le_of_ble_eq_true rfl, Nat.le_of_ble_eq_true rfl⟩ (fun rr u9 H locs hp hP hD hS => ?_)
    clear u9
    subst rr
    clear hc
    refine W.eq (g2 := F0 m 24 ls [.int x80, .int x77, .ref (q 0)]) rfl ?_
    have hP : va_P G.1 vwCl (wMs q G.2 st75) H := hP
    have hD : va_D A (wMs q G.2 st75) := hD
    refine lv_aload_n hx hb d15_47_24 rfl (lv_at hl 0 rfl) ?_
    refine va_get (D := G.1) (ci := 13) (v := .ref (q 3)) (C := r_13) (T := f_13) (N := 42) (ref := "PagedValuesModel") hx hb hts (fun w h => List.mem_cons_of_mem _ (ly_13 w h)) hown hK hP 0 rfl rfl 5 (by decide) (hts _ (List.mem_cons_of_mem _ k1156)) (fun _ h9 => h9) rfl d15_47_25 ?_
    refine lv_bipush (v := 82) hx hb d15_47_28 (by decide) ?_
    obtain ⟨x83, hc, h⟩ := ob h
    refine sS_i (As := [.int 82]) (rest := [.ref (q 3), .int x80, .int x77, .ref (q 0)]) ⟨hx, hb, hml, hown, hts⟩ (cm_at l G Zd _ (82 : Int32) x83 hc _) (kw_S (n := 1) hts k1312 k1310 k15 k1311 (by decide +kernel) ⟨Nat.le_of_ble_eq_true rfl, Nat.le_of_ble_eq_true rfl⟩) hP hD hK hS hA hZ rfl hl.1 rfl (Nat.le_of_ble_eq_true rfl) d15_47_30 ⟨Nat.le_of_ble_eq_true rfl, Nat.le_of_ble_eq_true rfl⟩ (fun rr u9 H locs hp hP hD hS => ?_)
    clear u9
    subst rr
    clear hc
    refine W.eq (g2 := F0 m 33 ls [.int x83, .ref (q 3), .int x80, .int x77, .ref (q 0)]) rfl ?_
    have hP : va_P G.1 vwCl (wMs q G.2 st75) H := hP
    have hD : va_D A (wMs q G.2 st75) := hD
    obtain ⟨x86, hr, h⟩ := ob h
    obtain ⟨hi, hv⟩ := rd_some hr
    refine va_bald (D := G.1) hx hb hK hP 3 2 rfl rfl (i := x83) hi d15_47_33 ?_
    refine lv_topi (fun y9 ey => ?_)
    have e9 := ey.trans hv
    clear ey
    subst y9
    clear hv hi hr
    obtain ⟨st88, hc, h⟩ := ob h
    refine sV_v (As := [.int x77, .int x80, .int x86]) (rest := []) ⟨hx, hb, hml, hown, hts⟩ (cm_copy l G Zd q x77 x80 x86 st75 st88 hc _) (kw_V (n := 3) hts k1424 k1421 k15 k1423 ks64 (by decide +kernel) ⟨Nat.le_of_ble_eq_true rfl, Nat.le_of_ble_eq_true rfl⟩) hP hD hK hS hA hZ (va_recv (ci := 13) (q0 := 0) hK hP rfl rfl) rfl hl.1 rfl (Nat.le_of_ble_eq_true rfl) d15_47_34 ⟨Nat.le_of_ble_eq_true rfl, Nat.le_of_ble_eq_true rfl⟩ (fun u9 H locs hp hP hD hS => ?_)
    clear u9
    clear hp
    clear hc
    refine W.eq (g2 := F0 m 37 ls []) rfl ?_
    have hP : va_P G.1 vwCl (wMs q G.2 st88) H := hP
    have hD : va_D A (wMs q G.2 st88) := hD
    refine lv_iconst (v := 1) hx hb d15_47_37 (by decide) ?_
    cases h
    exact fin_z hx hb hr hlk (by decide) hS () rfl hP hD (Nat.le_of_ble_eq_true rfl) (Nat.le_of_ble_eq_true rfl) d15_47_38
def m_replaced (a0 : Int32) (st : MS) : Option (Int32 × MS) := if (0 : Int32) ≤ a0 then ((m_at (81 : Int32)).bind fun x2 => if a0 = x2 then ((m_putPart (0 : Int64) (0 : Int64) st).bind fun r20 => (bz r20.1).bind fun _ => some (r20.1, r20.2)) else ((rd (st.2.2.2 2) 2100 a0).bind fun x6 => (rd (st.2.2.2 3) 2100 a0).bind fun x7 => (m_partName x6 x7 st).bind fun st9 => (m_above a0 st9).bind fun x11 => (rd (st9.2.2.1 2) 2100 a0).bind fun x14 => (m_splice a0 x14 x11 (1 : Int32) st9).bind fun st16 => some ((1 : Int32), st16))) else (some ((0 : Int32), st))
set_option maxHeartbeats 4000000 in
set_option maxRecDepth 100000 in
theorem cm_replaced (l : Launch) (G : Gk) (Zd : Nat → Nat) (q : Nat → Nat) (a0 : Int32) (st : MS) (r0 : Int32) (st0 : MS) (hm : m_replaced a0 st = some (r0, st0)) (sz : Nat) : Met l y15_49 (Cond.code y15_49 prog_15_method_49_code 3 (some .boolean) :: TB) (rmD 5 0 0) (va_Pc [.ref (q 0), .int a0] (pcW G Zd (wMs q G.2 st) sz)) (qI G (fun rr (_ : Unit) => rr = r0) (fun _ => (wMs q G.2 st0)) (va_A (wMs q G.2 st) sz)) 0 0 (va_A (wMs q G.2 st) sz) := by
  refine go (y := y15_49) (cc := prog_15_method_49_code) (maxL := 3) (ret := (some .boolean)) (av := [.ref (q 0), .int a0]) (Qc := qI G (fun rr (_ : Unit) => rr = r0) (fun _ => (wMs q G.2 st0))) "PagedValuesModel" rfl (by decide) (Nat.le_of_ble_eq_true rfl) ?_
  intro p e s m below meth c ls A hx hb hr hlk hml hown hts hin hl hP hD hK hS hA hZ
  have hl : lv_has ls 3 [(0, .ref (q 0)), (1, .int a0)] := hl
  have h := hm
  clear hm
  refine lv_iload_n hx hb d15_49_0 rfl (lv_at hl 1 rfl) ?_
  refine lv_if_ge (tgt := 6) hx hb d15_49_1 rfl (fun c1 => ?_) (fun c1 => ?_)
  ·
    replace h := (if_pos c1).symm.trans h
    refine lv_iload_n hx hb d15_49_6 rfl (lv_at hl 1 rfl) ?_
    refine lv_bipush (v := 81) hx hb d15_49_7 (by decide) ?_
    obtain ⟨x2, hc, h⟩ := ob h
    refine sS_i (As := [.int 81]) (rest := [.int a0]) ⟨hx, hb, hml, hown, hts⟩ (cm_at l G Zd _ (81 : Int32) x2 hc _) (kw_S (n := 1) hts k1312 k1310 k15 k1311 (by decide +kernel) ⟨Nat.le_of_ble_eq_true rfl, Nat.le_of_ble_eq_true rfl⟩) hP hD hK hS hA hZ rfl hl.1 rfl (Nat.le_of_ble_eq_true rfl) d15_49_9 ⟨Nat.le_of_ble_eq_true rfl, Nat.le_of_ble_eq_true rfl⟩ (fun rr u9 H locs hp hP hD hS => ?_)
    clear u9
    subst rr
    clear hc
    refine W.eq (g2 := F0 m 12 ls [.int x2, .int a0]) rfl ?_
    have hP : va_P G.1 vwCl (wMs q G.2 st) H := hP
    have hD : va_D A (wMs q G.2 st) := hD
    refine lv_icmp_ne (tgt := 22) hx hb d15_49_12 rfl (fun c5 => ?_) (fun c5 => ?_)
    ·
      replace h := (if_neg c5).symm.trans h
      refine lv_aload_n hx hb d15_49_22 rfl (lv_at hl 0 rfl) ?_
      refine lv_aload_n hx hb d15_49_23 rfl (lv_at hl 0 rfl) ?_
      refine va_get (D := G.1) (ci := 13) (v := .ref (q 6)) (C := r_13) (T := f_13) (N := 42) (ref := "PagedValuesModel") hx hb hts (fun w h => List.mem_cons_of_mem _ (ly_13 w h)) hown hK hP 0 rfl rfl 8 (by decide) (hts _ (List.mem_cons_of_mem _ k1159)) (fun _ h9 => h9) rfl d15_49_24 ?_
      refine lv_iload_n hx hb d15_49_27 rfl (lv_at hl 1 rfl) ?_
      obtain ⟨x6, hr, h⟩ := ob h
      obtain ⟨hi, hv⟩ := rd_some hr
      refine va_lald (D := G.1) hx hb hK hP 6 4 rfl rfl (i := a0) hi d15_49_28 ?_
      refine lv_topl (fun y9 ey => ?_)
      have e9 := ey.trans hv
      clear ey
      subst y9
      clear hv hi hr
      refine lv_aload_n hx hb d15_49_29 rfl (lv_at hl 0 rfl) ?_
      refine va_get (D := G.1) (ci := 13) (v := .ref (q 7)) (C := r_13) (T := f_13) (N := 42) (ref := "PagedValuesModel") hx hb hts (fun w h => List.mem_cons_of_mem _ (ly_13 w h)) hown hK hP 0 rfl rfl 9 (by decide) (hts _ (List.mem_cons_of_mem _ k1160)) (fun _ h9 => h9) rfl d15_49_30 ?_
      refine lv_iload_n hx hb d15_49_33 rfl (lv_at hl 1 rfl) ?_
      obtain ⟨x7, hr, h⟩ := ob h
      obtain ⟨hi, hv⟩ := rd_some hr
      refine va_lald (D := G.1) hx hb hK hP 7 4 rfl rfl (i := a0) hi d15_49_34 ?_
      refine lv_topl (fun y9 ey => ?_)
      have e9 := ey.trans hv
      clear ey
      subst y9
      clear hv hi hr
      obtain ⟨st9, hc, h⟩ := ob h
      refine sV_v (As := [.long x6, .long x7]) (rest := []) ⟨hx, hb, hml, hown, hts⟩ (cm_partName l G Zd q x6 x7 st st9 hc _) (kw_V (n := 2) hts k1495 k1492 k15 k1494 ks77 (by decide +kernel) ⟨Nat.le_of_ble_eq_true rfl, Nat.le_of_ble_eq_true rfl⟩) hP hD hK hS hA hZ (va_recv (ci := 13) (q0 := 0) hK hP rfl rfl) rfl hl.1 rfl (Nat.le_of_ble_eq_true rfl) d15_49_35 ⟨Nat.le_of_ble_eq_true rfl, Nat.le_of_ble_eq_true rfl⟩ (fun u9 H locs hp hP hD hS => ?_)
      clear u9
      clear hp
      clear hc
      refine W.eq (g2 := F0 m 38 ls []) rfl ?_
      have hP : va_P G.1 vwCl (wMs q G.2 st9) H := hP
      have hD : va_D A (wMs q G.2 st9) := hD
      refine lv_aload_n hx hb d15_49_38 rfl (lv_at hl 0 rfl) ?_
      refine lv_iload_n hx hb d15_49_39 rfl (lv_at hl 1 rfl) ?_
      obtain ⟨x11, hc, h⟩ := ob h
      refine sV_i (As := [.int a0]) (rest := []) ⟨hx, hb, hml, hown, hts⟩ (cm_above l G Zd q a0 st9 x11 hc _) (kw_V (n := 1) hts k1518 k1515 k15 k1517 ks82 (by decide +kernel) ⟨Nat.le_of_ble_eq_true rfl, Nat.le_of_ble_eq_true rfl⟩) hP hD hK hS hA hZ (va_recv (ci := 13) (q0 := 0) hK hP rfl rfl) rfl hl.1 rfl (Nat.le_of_ble_eq_true rfl) d15_49_40 ⟨Nat.le_of_ble_eq_true rfl, Nat.le_of_ble_eq_true rfl⟩ (fun rr u9 H locs hp hP hD hS => ?_)
      clear u9
      subst rr
      clear hc
      refine W.eq (g2 := F0 m 43 ls [.int x11]) rfl ?_
      have hP : va_P G.1 vwCl (wMs q G.2 st9) H := hP
      have hD : va_D A (wMs q G.2 st9) := hD
      refine lv_istore_n (lv' := [(2, .int x11), (0, .ref (q 0)), (1, .int a0)]) hx hb d15_49_43 rfl hl (by decide) rfl (fun ls hl => ?_)
      refine lv_aload_n hx hb d15_49_44 rfl (lv_at hl 1 rfl) ?_
      refine lv_iload_n hx hb d15_49_45 rfl (lv_at hl 2 rfl) ?_
      refine lv_aload_n hx hb d15_49_46 rfl (lv_at hl 1 rfl) ?_
      refine va_get (D := G.1) (ci := 13) (v := .ref (q 3)) (C := r_13) (T := f_13) (N := 42) (ref := "PagedValuesModel") hx hb hts (fun w h => List.mem_cons_of_mem _ (ly_13 w h)) hown hK hP 0 rfl rfl 5 (by decide) (hts _ (List.mem_cons_of_mem _ k1156)) (fun _ h9 => h9) rfl d15_49_47 ?_
      refine lv_iload_n hx hb d15_49_50 rfl (lv_at hl 2 rfl) ?_
      obtain ⟨x14, hr, h⟩ := ob h
      obtain ⟨hi, hv⟩ := rd_some hr
      refine va_bald (D := G.1) hx hb hK hP 3 2 rfl rfl (i := a0) hi d15_49_51 ?_
      refine lv_topi (fun y9 ey => ?_)
      have e9 := ey.trans hv
      clear ey
      subst y9
      clear hv hi hr
      refine lv_iload_n hx hb d15_49_52 rfl (lv_at hl 0 rfl) ?_
      refine lv_iconst (v := 1) hx hb d15_49_53 (by decide) ?_
      obtain ⟨st16, hc, h⟩ := ob h
      refine sV_v (As := [.int a0, .int x14, .int x11, .int 1]) (rest := []) ⟨hx, hb, hml, hown, hts⟩ (cm_splice l G Zd q a0 x14 x11 (1 : Int32) st9 st16 hc _) (kw_V (n := 4) hts k1502 k1499 k15 k1501 ks78 (by decide +kernel) ⟨Nat.le_of_ble_eq_true rfl, Nat.le_of_ble_eq_true rfl⟩) hP hD hK hS hA hZ (va_recv (ci := 13) (q0 := 0) hK hP rfl rfl) rfl hl.1 rfl (Nat.le_of_ble_eq_true rfl) d15_49_54 ⟨Nat.le_of_ble_eq_true rfl, Nat.le_of_ble_eq_true rfl⟩ (fun u9 H locs hp hP hD hS => ?_)
      clear u9
      clear hp
      clear hc
      refine W.eq (g2 := F0 m 57 ls []) rfl ?_
      have hP : va_P G.1 vwCl (wMs q G.2 st16) H := hP
      have hD : va_D A (wMs q G.2 st16) := hD
      refine lv_iconst (v := 1) hx hb d15_49_57 (by decide) ?_
      cases h
      exact fin_z hx hb hr hlk (by decide) hS () rfl hP hD (Nat.le_of_ble_eq_true rfl) (Nat.le_of_ble_eq_true rfl) d15_49_58
    ·
      replace h := (if_pos c5).symm.trans h
      refine lv_aload_n hx hb d15_49_15 rfl (lv_at hl 0 rfl) ?_
      refine lv_lconst (v := 0) hx hb d15_49_16 (by decide) ?_
      refine lv_lconst (v := 0) hx hb d15_49_17 (by decide) ?_
      obtain ⟨⟨x18, st19⟩, hc, h⟩ := ob h
      refine sV_i (As := [.long 0, .long 0]) (rest := []) ⟨hx, hb, hml, hown, hts⟩ (cm_putPart l G Zd q (0 : Int64) (0 : Int64) st x18 st19 hc _) (kw_V (n := 2) hts k1491 k1488 k15 k1490 ks76 (by decide +kernel) ⟨Nat.le_of_ble_eq_true rfl, Nat.le_of_ble_eq_true rfl⟩) hP hD hK hS hA hZ (va_recv (ci := 13) (q0 := 0) hK hP rfl rfl) rfl hl.1 rfl (Nat.le_of_ble_eq_true rfl) d15_49_18 ⟨Nat.le_of_ble_eq_true rfl, Nat.le_of_ble_eq_true rfl⟩ (fun rr u9 H locs hp hP hD hS => ?_)
      clear u9
      subst rr
      clear hc
      refine W.eq (g2 := F0 m 21 ls [.int x18]) rfl ?_
      have hP : va_P G.1 vwCl (wMs q G.2 st19) H := hP
      have hD : va_D A (wMs q G.2 st19) := hD
      obtain ⟨u9, hr9, h⟩ := ob h
      have hi := bz_some hr9
      clear hr9 u9
      cases h
      exact fin_z hx hb hr hlk (nar01 hi) hS () rfl hP hD (Nat.le_of_ble_eq_true rfl) (Nat.le_of_ble_eq_true rfl) d15_49_21
  ·
    replace h := (if_neg c1).symm.trans h
    refine lv_iconst (v := 0) hx hb d15_49_4 (by decide) ?_
    cases h
    exact fin_z hx hb hr hlk (by decide) hS () rfl hP hD (Nat.le_of_ble_eq_true rfl) (Nat.le_of_ble_eq_true rfl) d15_49_5
def m_removed (a0 : Int32) (st : MS) : Option (Int32 × MS) := (m_at (81 : Int32)).bind fun x1 => if x1 < a0 then ((m_above a0 st).bind fun x5 => (rd (st.2.2.1 2) 2100 a0).bind fun x8 => (m_splice a0 x8 x5 (0 : Int32) st).bind fun st10 => some ((1 : Int32), st10)) else (some ((0 : Int32), st))
set_option maxHeartbeats 4000000 in
set_option maxRecDepth 100000 in
theorem cm_removed (l : Launch) (G : Gk) (Zd : Nat → Nat) (q : Nat → Nat) (a0 : Int32) (st : MS) (r0 : Int32) (st0 : MS) (hm : m_removed a0 st = some (r0, st0)) (sz : Nat) : Met l y15_48 (Cond.code y15_48 prog_15_method_48_code 3 (some .boolean) :: TB) (rmD 3 0 0) (va_Pc [.ref (q 0), .int a0] (pcW G Zd (wMs q G.2 st) sz)) (qI G (fun rr (_ : Unit) => rr = r0) (fun _ => (wMs q G.2 st0)) (va_A (wMs q G.2 st) sz)) 0 0 (va_A (wMs q G.2 st) sz) := by
  refine go (y := y15_48) (cc := prog_15_method_48_code) (maxL := 3) (ret := (some .boolean)) (av := [.ref (q 0), .int a0]) (Qc := qI G (fun rr (_ : Unit) => rr = r0) (fun _ => (wMs q G.2 st0))) "PagedValuesModel" rfl (by decide) (Nat.le_of_ble_eq_true rfl) ?_
  intro p e s m below meth c ls A hx hb hr hlk hml hown hts hin hl hP hD hK hS hA hZ
  have hl : lv_has ls 3 [(0, .ref (q 0)), (1, .int a0)] := hl
  have h := hm
  clear hm
  refine lv_iload_n hx hb d15_48_0 rfl (lv_at hl 1 rfl) ?_
  refine lv_bipush (v := 81) hx hb d15_48_1 (by decide) ?_
  obtain ⟨x1, hc, h⟩ := ob h
  refine sS_i (As := [.int 81]) (rest := [.int a0]) ⟨hx, hb, hml, hown, hts⟩ (cm_at l G Zd _ (81 : Int32) x1 hc _) (kw_S (n := 1) hts k1312 k1310 k15 k1311 (by decide +kernel) ⟨Nat.le_of_ble_eq_true rfl, Nat.le_of_ble_eq_true rfl⟩) hP hD hK hS hA hZ rfl hl.1 rfl (Nat.le_of_ble_eq_true rfl) d15_48_3 ⟨Nat.le_of_ble_eq_true rfl, Nat.le_of_ble_eq_true rfl⟩ (fun rr u9 H locs hp hP hD hS => ?_)
  clear u9
  subst rr
  clear hc
  refine W.eq (g2 := F0 m 6 ls [.int x1, .int a0]) rfl ?_
  have hP : va_P G.1 vwCl (wMs q G.2 st) H := hP
  have hD : va_D A (wMs q G.2 st) := hD
  refine lv_icmp_gt (tgt := 11) hx hb d15_48_6 rfl (fun c4 => ?_) (fun c4 => ?_)
  ·
    replace h := (if_pos c4).symm.trans h
    refine lv_aload_n hx hb d15_48_11 rfl (lv_at hl 0 rfl) ?_
    refine lv_iload_n hx hb d15_48_12 rfl (lv_at hl 1 rfl) ?_
    obtain ⟨x5, hc, h⟩ := ob h
    refine sV_i (As := [.int a0]) (rest := []) ⟨hx, hb, hml, hown, hts⟩ (cm_above l G Zd q a0 st x5 hc _) (kw_V (n := 1) hts k1518 k1515 k15 k1517 ks82 (by decide +kernel) ⟨Nat.le_of_ble_eq_true rfl, Nat.le_of_ble_eq_true rfl⟩) hP hD hK hS hA hZ (va_recv (ci := 13) (q0 := 0) hK hP rfl rfl) rfl hl.1 rfl (Nat.le_of_ble_eq_true rfl) d15_48_13 ⟨Nat.le_of_ble_eq_true rfl, Nat.le_of_ble_eq_true rfl⟩ (fun rr u9 H locs hp hP hD hS => ?_)
    clear u9
    subst rr
    clear hc
    refine W.eq (g2 := F0 m 16 ls [.int x5]) rfl ?_
    have hP : va_P G.1 vwCl (wMs q G.2 st) H := hP
    have hD : va_D A (wMs q G.2 st) := hD
    refine lv_istore_n (lv' := [(2, .int x5), (0, .ref (q 0)), (1, .int a0)]) hx hb d15_48_16 rfl hl (by decide) rfl (fun ls hl => ?_)
    refine lv_aload_n hx hb d15_48_17 rfl (lv_at hl 1 rfl) ?_
    refine lv_iload_n hx hb d15_48_18 rfl (lv_at hl 2 rfl) ?_
    refine lv_aload_n hx hb d15_48_19 rfl (lv_at hl 1 rfl) ?_
    refine va_get (D := G.1) (ci := 13) (v := .ref (q 3)) (C := r_13) (T := f_13) (N := 42) (ref := "PagedValuesModel") hx hb hts (fun w h => List.mem_cons_of_mem _ (ly_13 w h)) hown hK hP 0 rfl rfl 5 (by decide) (hts _ (List.mem_cons_of_mem _ k1156)) (fun _ h9 => h9) rfl d15_48_20 ?_
    refine lv_iload_n hx hb d15_48_23 rfl (lv_at hl 2 rfl) ?_
    obtain ⟨x8, hr, h⟩ := ob h
    obtain ⟨hi, hv⟩ := rd_some hr
    refine va_bald (D := G.1) hx hb hK hP 3 2 rfl rfl (i := a0) hi d15_48_24 ?_
    refine lv_topi (fun y9 ey => ?_)
    have e9 := ey.trans hv
    clear ey
    subst y9
    clear hv hi hr
    refine lv_iload_n hx hb d15_48_25 rfl (lv_at hl 0 rfl) ?_
    refine lv_iconst (v := 0) hx hb d15_48_26 (by decide) ?_
    obtain ⟨st10, hc, h⟩ := ob h
    refine sV_v (As := [.int a0, .int x8, .int x5, .int 0]) (rest := []) ⟨hx, hb, hml, hown, hts⟩ (cm_splice l G Zd q a0 x8 x5 (0 : Int32) st st10 hc _) (kw_V (n := 4) hts k1502 k1499 k15 k1501 ks78 (by decide +kernel) ⟨Nat.le_of_ble_eq_true rfl, Nat.le_of_ble_eq_true rfl⟩) hP hD hK hS hA hZ (va_recv (ci := 13) (q0 := 0) hK hP rfl rfl) rfl hl.1 rfl (Nat.le_of_ble_eq_true rfl) d15_48_27 ⟨Nat.le_of_ble_eq_true rfl, Nat.le_of_ble_eq_true rfl⟩ (fun u9 H locs hp hP hD hS => ?_)
    clear u9
    clear hp
    clear hc
    refine W.eq (g2 := F0 m 30 ls []) rfl ?_
    have hP : va_P G.1 vwCl (wMs q G.2 st10) H := hP
    have hD : va_D A (wMs q G.2 st10) := hD
    refine lv_iconst (v := 1) hx hb d15_48_30 (by decide) ?_
    cases h
    exact fin_z hx hb hr hlk (by decide) hS () rfl hP hD (Nat.le_of_ble_eq_true rfl) (Nat.le_of_ble_eq_true rfl) d15_48_31
  ·
    replace h := (if_neg c4).symm.trans h
    refine lv_iconst (v := 0) hx hb d15_48_9 (by decide) ?_
    cases h
    exact fin_z hx hb hr hlk (by decide) hS () rfl hP hD (Nat.le_of_ble_eq_true rfl) (Nat.le_of_ble_eq_true rfl) d15_48_10
def m_done (a0 : Int32) (st : MS) : Option (Int32 × MS) := (m_operand a0 (144115188075884655 : Int64) st).bind fun x1 => (rd (st.2.2.2 0) 2100 x1).bind fun x4 => (m_operand a0 (288230377904169328 : Int64) st).bind fun x5 => (rd (st.2.2.2 0) 2100 x5).bind fun x8 => (rd (st.2.2.2 1) 2100 x5).bind fun x9 => (m_isPointer x8 x9).bind fun x10 => if x10 = (0 : Int32) then (some ((0 : Int32), st)) else ((some (lg_cmp x4 (288230378189123427 : Int64))).bind fun y14 => if y14 = (0 : Int32) then ((m_operand a0 (288230377987732070 : Int64) st).bind fun x44 => (rd (st.2.2.2 0) 2100 x44).bind fun x47 => (rd (st.2.2.2 1) 2100 x44).bind fun x48 => (m_isPointer x47 x48).bind fun x49 => (if x49 = (0 : Int32) then (some (((-1) : Int32), st)) else ((rd (st.2.2.2 0) 2100 x44).bind fun x70 => (rd (st.2.2.2 1) 2100 x44).bind fun x71 => (rd (st.2.2.2 0) 2100 x44).bind fun x72 => (m_lengthOf x72).bind fun x73 => (m_walk x70 x71 x73 st).bind fun r78 => some (r78.1, r78.2))).bind fun e53 => (if e53.1 < (0 : Int32) then (some e53.2) else ((m_part e53.1 e53.2).bind fun st68 => some st68)).bind fun e57 => (if e53.1 < (0 : Int32) then (some ((0 : Int32), e57)) else ((m_putPart x8 x9 e57).bind fun r65 => if r65.1 = (0 : Int32) then (some ((0 : Int32), r65.2)) else (some ((1 : Int32), r65.2)))).bind fun e60 => (bz e60.1).bind fun _ => some (e60.1, e60.2)) else ((m_lengthOf x8).bind fun x16 => (m_walk x8 x9 x16 st).bind fun r21 => (some (lg_cmp x4 (432457123577554290 : Int64))).bind fun y22 => if y22 = (0 : Int32) then ((m_removed r21.1 r21.2).bind fun r43 => (bz r43.1).bind fun _ => some (r43.1, r43.2)) else ((m_operand a0 (360288405951373686 : Int64) r21.2).bind fun x24 => (m_part x24 r21.2).bind fun st28 => (some (lg_cmp x4 (216172782120363105 : Int64))).bind fun y30 => (if y30 = (0 : Int32) then ((m_putPart x8 x9 st28).bind fun r40 => some (r40.1, r40.2)) else ((m_replaced r21.1 st28).bind fun r37 => some (r37.1, r37.2))).bind fun e32 => (bz e32.1).bind fun _ => some (e32.1, e32.2))))
set_option maxHeartbeats 4000000 in
set_option maxRecDepth 100000 in
theorem cm_done (l : Launch) (G : Gk) (Zd : Nat → Nat) (q : Nat → Nat) (a0 : Int32) (st : MS) (r0 : Int32) (st0 : MS) (hm : m_done a0 st = some (r0, st0)) (sz : Nat) : Met l y15_50 (Cond.code y15_50 prog_15_method_50_code 11 (some .boolean) :: TB) (rmD 6 0 0) (va_Pc [.ref (q 0), .int a0] (pcW G Zd (wMs q G.2 st) sz)) (qI G (fun rr (_ : Unit) => rr = r0) (fun _ => (wMs q G.2 st0)) (va_A (wMs q G.2 st) sz)) 0 0 (va_A (wMs q G.2 st) sz) := by
  refine go (y := y15_50) (cc := prog_15_method_50_code) (maxL := 11) (ret := (some .boolean)) (av := [.ref (q 0), .int a0]) (Qc := qI G (fun rr (_ : Unit) => rr = r0) (fun _ => (wMs q G.2 st0))) "PagedValuesModel" rfl (by decide) (Nat.le_of_ble_eq_true rfl) ?_
  intro p e s m below meth c ls A hx hb hr hlk hml hown hts hin hl hP hD hK hS hA hZ
  have hl : lv_has ls 11 [(0, .ref (q 0)), (1, .int a0)] := hl
  have h := hm
  clear hm
  refine lv_aload_n hx hb d15_50_0 rfl (lv_at hl 0 rfl) ?_
  refine va_get (D := G.1) (ci := 13) (v := .ref (q 4)) (C := r_13) (T := f_13) (N := 42) (ref := "PagedValuesModel") hx hb hts (fun w h => List.mem_cons_of_mem _ (ly_13 w h)) hown hK hP 0 rfl rfl 6 (by decide) (hts _ (List.mem_cons_of_mem _ k1157)) (fun _ h9 => h9) rfl d15_50_1 ?_
  refine lv_aload_n hx hb d15_50_4 rfl (lv_at hl 0 rfl) ?_
  refine lv_iload_n hx hb d15_50_5 rfl (lv_at hl 1 rfl) ?_
  refine lv_ldc2 (v := 144115188075884655) hx hb hown (hts _ (List.mem_cons_of_mem _ k1441)) d15_50_6 ?_
  obtain ⟨x1, hc, h⟩ := ob h
  refine sV_i (As := [.int a0, .long 144115188075884655]) (rest := [.ref (q 4)]) ⟨hx, hb, hml, hown, hts⟩ (cm_operand l G Zd q a0 (144115188075884655 : Int64) st x1 hc _) (kw_V (n := 2) hts k1445 k1442 k15 k1444 ks68 (by decide +kernel) ⟨Nat.le_of_ble_eq_true rfl, Nat.le_of_ble_eq_true rfl⟩) hP hD hK hS hA hZ (va_recv (ci := 13) (q0 := 0) hK hP rfl rfl) rfl hl.1 rfl (Nat.le_of_ble_eq_true rfl) d15_50_9 ⟨Nat.le_of_ble_eq_true rfl, Nat.le_of_ble_eq_true rfl⟩ (fun rr u9 H locs hp hP hD hS => ?_)
  clear u9
  subst rr
  clear hc
  refine W.eq (g2 := F0 m 12 ls [.int x1, .ref (q 4)]) rfl ?_
  have hP : va_P G.1 vwCl (wMs q G.2 st) H := hP
  have hD : va_D A (wMs q G.2 st) := hD
  obtain ⟨x4, hr, h⟩ := ob h
  obtain ⟨hi, hv⟩ := rd_some hr
  refine va_lald (D := G.1) hx hb hK hP 4 4 rfl rfl (i := x1) hi d15_50_12 ?_
  refine lv_topl (fun y9 ey => ?_)
  have e9 := ey.trans hv
  clear ey
  subst y9
  clear hv hi hr
  refine lv_lstore_n (lv' := [(2, .long x4), (0, .ref (q 0)), (1, .int a0)]) hx hb d15_50_13 rfl hl (by decide) rfl (fun ls hl => ?_)
  refine lv_aload_n hx hb d15_50_14 rfl (lv_at hl 1 rfl) ?_
  refine lv_iload_n hx hb d15_50_15 rfl (lv_at hl 2 rfl) ?_
  refine lv_ldc2 (v := 288230377904169328) hx hb hown (hts _ (List.mem_cons_of_mem _ k1450)) d15_50_16 ?_
  obtain ⟨x5, hc, h⟩ := ob h
  refine sV_i (As := [.int a0, .long 288230377904169328]) (rest := []) ⟨hx, hb, hml, hown, hts⟩ (cm_operand l G Zd q a0 (288230377904169328 : Int64) st x5 hc _) (kw_V (n := 2) hts k1445 k1442 k15 k1444 ks68 (by decide +kernel) ⟨Nat.le_of_ble_eq_true rfl, Nat.le_of_ble_eq_true rfl⟩) hP hD hK hS hA hZ (va_recv (ci := 13) (q0 := 0) hK hP rfl rfl) rfl hl.1 rfl (Nat.le_of_ble_eq_true rfl) d15_50_19 ⟨Nat.le_of_ble_eq_true rfl, Nat.le_of_ble_eq_true rfl⟩ (fun rr u9 H locs hp hP hD hS => ?_)
  clear u9
  subst rr
  clear hc
  refine W.eq (g2 := F0 m 22 ls [.int x5]) rfl ?_
  have hP : va_P G.1 vwCl (wMs q G.2 st) H := hP
  have hD : va_D A (wMs q G.2 st) := hD
  refine lv_istore (lv' := [(4, .int x5), (2, .long x4), (0, .ref (q 0)), (1, .int a0)]) hx hb d15_50_22 hl (by decide) rfl (fun ls hl => ?_)
  refine lv_aload_n hx hb d15_50_24 rfl (lv_at hl 2 rfl) ?_
  refine va_get (D := G.1) (ci := 13) (v := .ref (q 4)) (C := r_13) (T := f_13) (N := 42) (ref := "PagedValuesModel") hx hb hts (fun w h => List.mem_cons_of_mem _ (ly_13 w h)) hown hK hP 0 rfl rfl 6 (by decide) (hts _ (List.mem_cons_of_mem _ k1157)) (fun _ h9 => h9) rfl d15_50_25 ?_
  refine lv_iload hx hb d15_50_28 (lv_at hl 0 rfl) ?_
  obtain ⟨x8, hr, h⟩ := ob h
  obtain ⟨hi, hv⟩ := rd_some hr
  refine va_lald (D := G.1) hx hb hK hP 4 4 rfl rfl (i := x5) hi d15_50_30 ?_
  refine lv_topl (fun y9 ey => ?_)
  have e9 := ey.trans hv
  clear ey
  subst y9
  clear hv hi hr
  refine lv_lstore (lv' := [(5, .long x8), (4, .int x5), (2, .long x4), (0, .ref (q 0)), (1, .int a0)]) hx hb d15_50_31 hl (by decide) rfl (fun ls hl => ?_)
  refine lv_aload_n hx hb d15_50_33 rfl (lv_at hl 3 rfl) ?_
  refine va_get (D := G.1) (ci := 13) (v := .ref (q 5)) (C := r_13) (T := f_13) (N := 42) (ref := "PagedValuesModel") hx hb hts (fun w h => List.mem_cons_of_mem _ (ly_13 w h)) hown hK hP 0 rfl rfl 7 (by decide) (hts _ (List.mem_cons_of_mem _ k1158)) (fun _ h9 => h9) rfl d15_50_34 ?_
  refine lv_iload hx hb d15_50_37 (lv_at hl 1 rfl) ?_
  obtain ⟨x9, hr, h⟩ := ob h
  obtain ⟨hi, hv⟩ := rd_some hr
  refine va_lald (D := G.1) hx hb hK hP 5 4 rfl rfl (i := x5) hi d15_50_39 ?_
  refine lv_topl (fun y9 ey => ?_)
  have e9 := ey.trans hv
  clear ey
  subst y9
  clear hv hi hr
  refine lv_lstore (lv' := [(7, .long x9), (5, .long x8), (4, .int x5), (2, .long x4), (0, .ref (q 0)), (1, .int a0)]) hx hb d15_50_40 hl (by decide) rfl (fun ls hl => ?_)
  refine lv_lload hx hb d15_50_42 (lv_at hl 1 rfl) ?_
  refine lv_lload hx hb d15_50_44 (lv_at hl 0 rfl) ?_
  obtain ⟨x10, hc, h⟩ := ob h
  refine sS_i (As := [.long x8, .long x9]) (rest := []) ⟨hx, hb, hml, hown, hts⟩ (cm_isPointer l G Zd _ x8 x9 x10 hc _) (kw_S (n := 2) hts k1463 k1461 k15 k1462 (by decide +kernel) ⟨Nat.le_of_ble_eq_true rfl, Nat.le_of_ble_eq_true rfl⟩) hP hD hK hS hA hZ rfl hl.1 rfl (Nat.le_of_ble_eq_true rfl) d15_50_46 ⟨Nat.le_of_ble_eq_true rfl, Nat.le_of_ble_eq_true rfl⟩ (fun rr u9 H locs hp hP hD hS => ?_)
  clear u9
  subst rr
  clear hc
  refine W.eq (g2 := F0 m 49 ls [.int x10]) rfl ?_
  have hP : va_P G.1 vwCl (wMs q G.2 st) H := hP
  have hD : va_D A (wMs q G.2 st) := hD
  refine lv_if_ne (tgt := 54) hx hb d15_50_49 rfl (fun c13 => ?_) (fun c13 => ?_)
  ·
    replace h := (if_neg c13).symm.trans h
    refine lv_lload_n hx hb d15_50_54 rfl (lv_at hl 3 rfl) ?_
    refine lv_ldc2 (v := 288230378189123427) hx hb hown (hts _ (List.mem_cons_of_mem _ k1454)) d15_50_55 ?_
    refine W.lcmp hx hb d15_50_58 ?_
    obtain ⟨y14, hr, h⟩ := ob h
    refine lv_topi (fun y9 ey => ?_)
    have e9 := ey.trans (Option.some.inj hr)
    clear ey
    subst y9
    clear hr
    refine lv_if_ne (tgt := 159) hx hb d15_50_59 rfl (fun c15 => ?_) (fun c15 => ?_)
    ·
      replace h := (if_neg c15).symm.trans h
      refine lv_aload_n hx hb d15_50_159 rfl (lv_at hl 4 rfl) ?_
      refine lv_lload hx hb d15_50_160 (lv_at hl 1 rfl) ?_
      refine lv_lload hx hb d15_50_162 (lv_at hl 0 rfl) ?_
      refine lv_lload hx hb d15_50_164 (lv_at hl 1 rfl) ?_
      obtain ⟨x16, hc, h⟩ := ob h
      refine sS_i (As := [.long x8]) (rest := [.long x9, .long x8, .ref (q 0)]) ⟨hx, hb, hml, hown, hts⟩ (cm_lengthOf l G Zd _ x8 x16 hc _) (kw_S (n := 1) hts k1343 k1341 k15 k1342 (by decide +kernel) ⟨Nat.le_of_ble_eq_true rfl, Nat.le_of_ble_eq_true rfl⟩) hP hD hK hS hA hZ rfl hl.1 rfl (Nat.le_of_ble_eq_true rfl) d15_50_166 ⟨Nat.le_of_ble_eq_true rfl, Nat.le_of_ble_eq_true rfl⟩ (fun rr u9 H locs hp hP hD hS => ?_)
      clear u9
      subst rr
      clear hc
      refine W.eq (g2 := F0 m 169 ls [.int x16, .long x9, .long x8, .ref (q 0)]) rfl ?_
      have hP : va_P G.1 vwCl (wMs q G.2 st) H := hP
      have hD : va_D A (wMs q G.2 st) := hD
      obtain ⟨⟨x19, st20⟩, hc, h⟩ := ob h
      refine sV_i (As := [.long x8, .long x9, .int x16]) (rest := []) ⟨hx, hb, hml, hown, hts⟩ (cm_walk l G Zd q x8 x9 x16 st x19 st20 hc _) (kw_V (n := 3) hts k1471 k1468 k15 k1470 ks71 (by decide +kernel) ⟨Nat.le_of_ble_eq_true rfl, Nat.le_of_ble_eq_true rfl⟩) hP hD hK hS hA hZ (va_recv (ci := 13) (q0 := 0) hK hP rfl rfl) rfl hl.1 rfl (Nat.le_of_ble_eq_true rfl) d15_50_169 ⟨Nat.le_of_ble_eq_true rfl, Nat.le_of_ble_eq_true rfl⟩ (fun rr u9 H locs hp hP hD hS => ?_)
      clear u9
      subst rr
      clear hc
      refine W.eq (g2 := F0 m 172 ls [.int x19]) rfl ?_
      have hP : va_P G.1 vwCl (wMs q G.2 st20) H := hP
      have hD : va_D A (wMs q G.2 st20) := hD
      refine lv_istore (lv' := [(9, .int x19), (7, .long x9), (5, .long x8), (4, .int x5), (2, .long x4), (0, .ref (q 0)), (1, .int a0)]) hx hb d15_50_172 hl (by decide) rfl (fun ls hl => ?_)
      refine lv_lload_n hx hb d15_50_174 rfl (lv_at hl 4 rfl) ?_
      refine lv_ldc2 (v := 432457123577554290) hx hb hown (hts _ (List.mem_cons_of_mem _ k1456)) d15_50_175 ?_
      refine W.lcmp hx hb d15_50_178 ?_
      obtain ⟨y22, hr, h⟩ := ob h
      refine lv_topi (fun y9 ey => ?_)
      have e9 := ey.trans (Option.some.inj hr)
      clear ey
      subst y9
      clear hr
      refine lv_if_ne (tgt := 189) hx hb d15_50_179 rfl (fun c23 => ?_) (fun c23 => ?_)
      ·
        replace h := (if_neg c23).symm.trans h
        refine lv_aload_n hx hb d15_50_189 rfl (lv_at hl 5 rfl) ?_
        refine lv_iload_n hx hb d15_50_190 rfl (lv_at hl 6 rfl) ?_
        refine lv_ldc2 (v := 360288405951373686) hx hb hown (hts _ (List.mem_cons_of_mem _ k1453)) d15_50_191 ?_
        obtain ⟨x24, hc, h⟩ := ob h
        refine sV_i (As := [.int a0, .long 360288405951373686]) (rest := []) ⟨hx, hb, hml, hown, hts⟩ (cm_operand l G Zd q a0 (360288405951373686 : Int64) st20 x24 hc _) (kw_V (n := 2) hts k1445 k1442 k15 k1444 ks68 (by decide +kernel) ⟨Nat.le_of_ble_eq_true rfl, Nat.le_of_ble_eq_true rfl⟩) hP hD hK hS hA hZ (va_recv (ci := 13) (q0 := 0) hK hP rfl rfl) rfl hl.1 rfl (Nat.le_of_ble_eq_true rfl) d15_50_194 ⟨Nat.le_of_ble_eq_true rfl, Nat.le_of_ble_eq_true rfl⟩ (fun rr u9 H locs hp hP hD hS => ?_)
        clear u9
        subst rr
        clear hc
        refine W.eq (g2 := F0 m 197 ls [.int x24]) rfl ?_
        have hP : va_P G.1 vwCl (wMs q G.2 st20) H := hP
        have hD : va_D A (wMs q G.2 st20) := hD
        refine lv_istore (lv' := [(10, .int x24), (9, .int x19), (7, .long x9), (5, .long x8), (4, .int x5), (2, .long x4), (0, .ref (q 0)), (1, .int a0)]) hx hb d15_50_197 hl (by decide) rfl (fun ls hl => ?_)
        refine lv_aload_n hx hb d15_50_199 rfl (lv_at hl 6 rfl) ?_
        refine lv_iload hx hb d15_50_200 (lv_at hl 0 rfl) ?_
        obtain ⟨st28, hc, h⟩ := ob h
        refine sV_v (As := [.int x24]) (rest := []) ⟨hx, hb, hml, hown, hts⟩ (cm_part l G Zd q x24 st20 st28 hc _) (kw_V (n := 1) hts k1487 k1484 k15 k1486 ks75 (by decide +kernel) ⟨Nat.le_of_ble_eq_true rfl, Nat.le_of_ble_eq_true rfl⟩) hP hD hK hS hA hZ (va_recv (ci := 13) (q0 := 0) hK hP rfl rfl) rfl hl.1 rfl (Nat.le_of_ble_eq_true rfl) d15_50_202 ⟨Nat.le_of_ble_eq_true rfl, Nat.le_of_ble_eq_true rfl⟩ (fun u9 H locs hp hP hD hS => ?_)
        clear u9
        clear hp
        clear hc
        refine W.eq (g2 := F0 m 205 ls []) rfl ?_
        have hP : va_P G.1 vwCl (wMs q G.2 st28) H := hP
        have hD : va_D A (wMs q G.2 st28) := hD
        refine lv_lload_n hx hb d15_50_205 rfl (lv_at hl 5 rfl) ?_
        refine lv_ldc2 (v := 216172782120363105) hx hb hown (hts _ (List.mem_cons_of_mem _ k1451)) d15_50_206 ?_
        refine W.lcmp hx hb d15_50_209 ?_
        obtain ⟨y30, hr, h⟩ := ob h
        refine lv_topi (fun y9 ey => ?_)
        have e9 := ey.trans (Option.some.inj hr)
        clear ey
        subst y9
        clear hr
        obtain ⟨e32, hX, h⟩ := ob h
        obtain ⟨v33, v34⟩ := e32
        have hj : ∀ (H : Heap) (locs : List Loc) (ls : Array Slot), lv_has ls 11 [(0, .ref (q 0)), (1, .int a0), (2, .long x4), (4, .int x5), (5, .long x8), (7, .long x9), (9, .int x19), (10, .int x24)] → va_P G.1 vwCl (wMs q G.2 v34) H → va_D A (wMs q G.2 v34) → va_S A s.heap H locs → W p l e (rmD 6 0 0) s m ([.ref (q 0), .int a0] : List Value).toArray below meth c H locs 0 0 (MQ below (qI G (fun rr (_ : Unit) => rr = r0) (fun _ => (wMs q G.2 st0)) A) ([.ref (q 0), .int a0] : List Value).toArray s 0 0 A) (F0 m 230 ls [.int v33]) := by
          intro H locs ls hl hP hD hS
          obtain ⟨u9, hr9, h⟩ := ob h
          have hi := bz_some hr9
          clear hr9 u9
          cases h
          exact fin_z hx hb hr hlk (nar01 hi) hS () rfl hP hD (Nat.le_of_ble_eq_true rfl) (Nat.le_of_ble_eq_true rfl) d15_50_230
        clear h
        refine lv_if_ne (tgt := 224) hx hb d15_50_210 rfl (fun c31 => ?_) (fun c31 => ?_)
        ·
          replace h := (if_neg c31).symm.trans hX
          refine lv_aload_n hx hb d15_50_224 rfl (lv_at hl 6 rfl) ?_
          refine lv_iload hx hb d15_50_225 (lv_at hl 1 rfl) ?_
          obtain ⟨⟨x35, st36⟩, hc, h⟩ := ob h
          refine sV_i (As := [.int x19]) (rest := []) ⟨hx, hb, hml, hown, hts⟩ (cm_replaced l G Zd q x19 st28 x35 st36 hc _) (kw_V (n := 1) hts k1522 k1519 k15 k1521 ks83 (by decide +kernel) ⟨Nat.le_of_ble_eq_true rfl, Nat.le_of_ble_eq_true rfl⟩) hP hD hK hS hA hZ (va_recv (ci := 13) (q0 := 0) hK hP rfl rfl) rfl hl.1 rfl (Nat.le_of_ble_eq_true rfl) d15_50_227 ⟨Nat.le_of_ble_eq_true rfl, Nat.le_of_ble_eq_true rfl⟩ (fun rr u9 H locs hp hP hD hS => ?_)
          clear u9
          subst rr
          clear hc
          refine W.eq (g2 := F0 m 230 ls [.int x35]) rfl ?_
          have hP : va_P G.1 vwCl (wMs q G.2 st36) H := hP
          have hD : va_D A (wMs q G.2 st36) := hD
          have e9 := Option.some.inj h
          obtain ⟨q9, e9⟩ := Prod.mk.inj e9
          subst v33
          subst v34
          have hl := lv_sub hl (l' := [(0, .ref (q 0)), (1, .int a0), (2, .long x4), (4, .int x5), (5, .long x8), (7, .long x9), (9, .int x19), (10, .int x24)]) [6, 7, 5, 4, 3, 2, 1, 0] rfl
          exact hj _ _ _ hl hP hD hS
        ·
          replace h := (if_pos c31).symm.trans hX
          refine lv_aload_n hx hb d15_50_213 rfl (lv_at hl 6 rfl) ?_
          refine lv_lload hx hb d15_50_214 (lv_at hl 3 rfl) ?_
          refine lv_lload hx hb d15_50_216 (lv_at hl 2 rfl) ?_
          obtain ⟨⟨x38, st39⟩, hc, h⟩ := ob h
          refine sV_i (As := [.long x8, .long x9]) (rest := []) ⟨hx, hb, hml, hown, hts⟩ (cm_putPart l G Zd q x8 x9 st28 x38 st39 hc _) (kw_V (n := 2) hts k1491 k1488 k15 k1490 ks76 (by decide +kernel) ⟨Nat.le_of_ble_eq_true rfl, Nat.le_of_ble_eq_true rfl⟩) hP hD hK hS hA hZ (va_recv (ci := 13) (q0 := 0) hK hP rfl rfl) rfl hl.1 rfl (Nat.le_of_ble_eq_true rfl) d15_50_218 ⟨Nat.le_of_ble_eq_true rfl, Nat.le_of_ble_eq_true rfl⟩ (fun rr u9 H locs hp hP hD hS => ?_)
          clear u9
          subst rr
          clear hc
          refine W.eq (g2 := F0 m 221 ls [.int x38]) rfl ?_
          have hP : va_P G.1 vwCl (wMs q G.2 st39) H := hP
          have hD : va_D A (wMs q G.2 st39) := hD
          refine lv_goto (tgt := 230) hx hb d15_50_221 rfl ?_
          have e9 := Option.some.inj h
          obtain ⟨q9, e9⟩ := Prod.mk.inj e9
          subst v33
          subst v34
          have hl := lv_sub hl (l' := [(0, .ref (q 0)), (1, .int a0), (2, .long x4), (4, .int x5), (5, .long x8), (7, .long x9), (9, .int x19), (10, .int x24)]) [6, 7, 5, 4, 3, 2, 1, 0] rfl
          exact hj _ _ _ hl hP hD hS
      ·
        replace h := (if_pos c23).symm.trans h
        refine lv_aload_n hx hb d15_50_182 rfl (lv_at hl 5 rfl) ?_
        refine lv_iload hx hb d15_50_183 (lv_at hl 0 rfl) ?_
        obtain ⟨⟨x41, st42⟩, hc, h⟩ := ob h
        refine sV_i (As := [.int x19]) (rest := []) ⟨hx, hb, hml, hown, hts⟩ (cm_removed l G Zd q x19 st20 x41 st42 hc _) (kw_V (n := 1) hts k1514 k1511 k15 k1513 ks81 (by decide +kernel) ⟨Nat.le_of_ble_eq_true rfl, Nat.le_of_ble_eq_true rfl⟩) hP hD hK hS hA hZ (va_recv (ci := 13) (q0 := 0) hK hP rfl rfl) rfl hl.1 rfl (Nat.le_of_ble_eq_true rfl) d15_50_185 ⟨Nat.le_of_ble_eq_true rfl, Nat.le_of_ble_eq_true rfl⟩ (fun rr u9 H locs hp hP hD hS => ?_)
        clear u9
        subst rr
        clear hc
        refine W.eq (g2 := F0 m 188 ls [.int x41]) rfl ?_
        have hP : va_P G.1 vwCl (wMs q G.2 st42) H := hP
        have hD : va_D A (wMs q G.2 st42) := hD
        obtain ⟨u9, hr9, h⟩ := ob h
        have hi := bz_some hr9
        clear hr9 u9
        cases h
        exact fin_z hx hb hr hlk (nar01 hi) hS () rfl hP hD (Nat.le_of_ble_eq_true rfl) (Nat.le_of_ble_eq_true rfl) d15_50_188
    ·
      replace h := (if_pos c15).symm.trans h
      refine lv_aload_n hx hb d15_50_62 rfl (lv_at hl 4 rfl) ?_
      refine lv_iload_n hx hb d15_50_63 rfl (lv_at hl 5 rfl) ?_
      refine lv_ldc2 (v := 288230377987732070) hx hb hown (hts _ (List.mem_cons_of_mem _ k1455)) d15_50_64 ?_
      obtain ⟨x44, hc, h⟩ := ob h
      refine sV_i (As := [.int a0, .long 288230377987732070]) (rest := []) ⟨hx, hb, hml, hown, hts⟩ (cm_operand l G Zd q a0 (288230377987732070 : Int64) st x44 hc _) (kw_V (n := 2) hts k1445 k1442 k15 k1444 ks68 (by decide +kernel) ⟨Nat.le_of_ble_eq_true rfl, Nat.le_of_ble_eq_true rfl⟩) hP hD hK hS hA hZ (va_recv (ci := 13) (q0 := 0) hK hP rfl rfl) rfl hl.1 rfl (Nat.le_of_ble_eq_true rfl) d15_50_67 ⟨Nat.le_of_ble_eq_true rfl, Nat.le_of_ble_eq_true rfl⟩ (fun rr u9 H locs hp hP hD hS => ?_)
      clear u9
      subst rr
      clear hc
      refine W.eq (g2 := F0 m 70 ls [.int x44]) rfl ?_
      have hP : va_P G.1 vwCl (wMs q G.2 st) H := hP
      have hD : va_D A (wMs q G.2 st) := hD
      refine lv_istore (lv' := [(9, .int x44), (7, .long x9), (5, .long x8), (4, .int x5), (2, .long x4), (0, .ref (q 0)), (1, .int a0)]) hx hb d15_50_70 hl (by decide) rfl (fun ls hl => ?_)
      refine lv_aload_n hx hb d15_50_72 rfl (lv_at hl 5 rfl) ?_
      refine va_get (D := G.1) (ci := 13) (v := .ref (q 4)) (C := r_13) (T := f_13) (N := 42) (ref := "PagedValuesModel") hx hb hts (fun w h => List.mem_cons_of_mem _ (ly_13 w h)) hown hK hP 0 rfl rfl 6 (by decide) (hts _ (List.mem_cons_of_mem _ k1157)) (fun _ h9 => h9) rfl d15_50_73 ?_
      refine lv_iload hx hb d15_50_76 (lv_at hl 0 rfl) ?_
      obtain ⟨x47, hr, h⟩ := ob h
      obtain ⟨hi, hv⟩ := rd_some hr
      refine va_lald (D := G.1) hx hb hK hP 4 4 rfl rfl (i := x44) hi d15_50_78 ?_
      refine lv_topl (fun y9 ey => ?_)
      have e9 := ey.trans hv
      clear ey
      subst y9
      clear hv hi hr
      refine lv_aload_n hx hb d15_50_79 rfl (lv_at hl 5 rfl) ?_
      refine va_get (D := G.1) (ci := 13) (v := .ref (q 5)) (C := r_13) (T := f_13) (N := 42) (ref := "PagedValuesModel") hx hb hts (fun w h => List.mem_cons_of_mem _ (ly_13 w h)) hown hK hP 0 rfl rfl 7 (by decide) (hts _ (List.mem_cons_of_mem _ k1158)) (fun _ h9 => h9) rfl d15_50_80 ?_
      refine lv_iload hx hb d15_50_83 (lv_at hl 0 rfl) ?_
      obtain ⟨x48, hr, h⟩ := ob h
      obtain ⟨hi, hv⟩ := rd_some hr
      refine va_lald (D := G.1) hx hb hK hP 5 4 rfl rfl (i := x44) hi d15_50_85 ?_
      refine lv_topl (fun y9 ey => ?_)
      have e9 := ey.trans hv
      clear ey
      subst y9
      clear hv hi hr
      obtain ⟨x49, hc, h⟩ := ob h
      refine sS_i (As := [.long x47, .long x48]) (rest := []) ⟨hx, hb, hml, hown, hts⟩ (cm_isPointer l G Zd _ x47 x48 x49 hc _) (kw_S (n := 2) hts k1463 k1461 k15 k1462 (by decide +kernel) ⟨Nat.le_of_ble_eq_true rfl, Nat.le_of_ble_eq_true rfl⟩) hP hD hK hS hA hZ rfl hl.1 rfl (Nat.le_of_ble_eq_true rfl) d15_50_86 ⟨Nat.le_of_ble_eq_true rfl, Nat.le_of_ble_eq_true rfl⟩ (fun rr u9 H locs hp hP hD hS => ?_)
      clear u9
      subst rr
      clear hc
      refine W.eq (g2 := F0 m 89 ls [.int x49]) rfl ?_
      have hP : va_P G.1 vwCl (wMs q G.2 st) H := hP
      have hD : va_D A (wMs q G.2 st) := hD
      obtain ⟨e53, hX, h⟩ := ob h
      obtain ⟨v54, v55⟩ := e53
      have hj : ∀ (H : Heap) (locs : List Loc) (ls : Array Slot), lv_has ls 11 [(0, .ref (q 0)), (1, .int a0), (2, .long x4), (4, .int x5), (5, .long x8), (7, .long x9), (9, .int x44)] → va_P G.1 vwCl (wMs q G.2 v55) H → va_D A (wMs q G.2 v55) → va_S A s.heap H locs → W p l e (rmD 6 0 0) s m ([.ref (q 0), .int a0] : List Value).toArray below meth c H locs 0 0 (MQ below (qI G (fun rr (_ : Unit) => rr = r0) (fun _ => (wMs q G.2 st0)) A) ([.ref (q 0), .int a0] : List Value).toArray s 0 0 A) (F0 m 124 ls [.int v54]) := by
        intro H locs ls hl hP hD hS
        refine lv_istore (lv' := [(10, .int v54), (0, .ref (q 0)), (1, .int a0), (2, .long x4), (4, .int x5), (5, .long x8), (7, .long x9), (9, .int x44)]) hx hb d15_50_124 hl (by decide) rfl (fun ls hl => ?_)
        refine lv_iload hx hb d15_50_126 (lv_at hl 0 rfl) ?_
        obtain ⟨e57, hX, h⟩ := ob h
        have hj : ∀ (H : Heap) (locs : List Loc) (ls : Array Slot), lv_has ls 11 [(0, .ref (q 0)), (1, .int a0), (2, .long x4), (4, .int x5), (5, .long x8), (7, .long x9), (9, .int x44), (10, .int v54)] → va_P G.1 vwCl (wMs q G.2 e57) H → va_D A (wMs q G.2 e57) → va_S A s.heap H locs → W p l e (rmD 6 0 0) s m ([.ref (q 0), .int a0] : List Value).toArray below meth c H locs 0 0 (MQ below (qI G (fun rr (_ : Unit) => rr = r0) (fun _ => (wMs q G.2 st0)) A) ([.ref (q 0), .int a0] : List Value).toArray s 0 0 A) (F0 m 137 ls []) := by
          intro H locs ls hl hP hD hS
          refine lv_iload hx hb d15_50_137 (lv_at hl 7 rfl) ?_
          obtain ⟨e60, hX, h⟩ := ob h
          obtain ⟨v61, v62⟩ := e60
          have hj : ∀ (H : Heap) (locs : List Loc) (ls : Array Slot), lv_has ls 11 [(0, .ref (q 0)), (1, .int a0), (2, .long x4), (4, .int x5), (5, .long x8), (7, .long x9), (9, .int x44), (10, .int v54)] → va_P G.1 vwCl (wMs q G.2 v62) H → va_D A (wMs q G.2 v62) → va_S A s.heap H locs → W p l e (rmD 6 0 0) s m ([.ref (q 0), .int a0] : List Value).toArray below meth c H locs 0 0 (MQ below (qI G (fun rr (_ : Unit) => rr = r0) (fun _ => (wMs q G.2 st0)) A) ([.ref (q 0), .int a0] : List Value).toArray s 0 0 A) (F0 m 158 ls [.int v61]) := by
            intro H locs ls hl hP hD hS
            obtain ⟨u9, hr9, h⟩ := ob h
            have hi := bz_some hr9
            clear hr9 u9
            cases h
            exact fin_z hx hb hr hlk (nar01 hi) hS () rfl hP hD (Nat.le_of_ble_eq_true rfl) (Nat.le_of_ble_eq_true rfl) d15_50_158
          clear h
          refine lv_if_lt (tgt := 157) hx hb d15_50_139 rfl (fun c59 => ?_) (fun c59 => ?_)
          ·
            replace h := (if_pos c59).symm.trans hX
            refine lv_iconst (v := 0) hx hb d15_50_157 (by decide) ?_
            have e9 := Option.some.inj h
            obtain ⟨q9, e9⟩ := Prod.mk.inj e9
            subst v61
            subst v62
            have hl := lv_sub hl (l' := [(0, .ref (q 0)), (1, .int a0), (2, .long x4), (4, .int x5), (5, .long x8), (7, .long x9), (9, .int x44), (10, .int v54)]) [0, 1, 2, 3, 4, 5, 6, 7] rfl
            exact hj _ _ _ hl hP hD hS
          ·
            replace h := (if_neg c59).symm.trans hX
            refine lv_aload_n hx hb d15_50_142 rfl (lv_at hl 0 rfl) ?_
            refine lv_lload hx hb d15_50_143 (lv_at hl 4 rfl) ?_
            refine lv_lload hx hb d15_50_145 (lv_at hl 5 rfl) ?_
            obtain ⟨⟨x63, st64⟩, hc, h⟩ := ob h
            refine sV_i (As := [.long x8, .long x9]) (rest := []) ⟨hx, hb, hml, hown, hts⟩ (cm_putPart l G Zd q x8 x9 e57 x63 st64 hc _) (kw_V (n := 2) hts k1491 k1488 k15 k1490 ks76 (by decide +kernel) ⟨Nat.le_of_ble_eq_true rfl, Nat.le_of_ble_eq_true rfl⟩) hP hD hK hS hA hZ (va_recv (ci := 13) (q0 := 0) hK hP rfl rfl) rfl hl.1 rfl (Nat.le_of_ble_eq_true rfl) d15_50_147 ⟨Nat.le_of_ble_eq_true rfl, Nat.le_of_ble_eq_true rfl⟩ (fun rr u9 H locs hp hP hD hS => ?_)
            clear u9
            subst rr
            clear hc
            refine W.eq (g2 := F0 m 150 ls [.int x63]) rfl ?_
            have hP : va_P G.1 vwCl (wMs q G.2 st64) H := hP
            have hD : va_D A (wMs q G.2 st64) := hD
            refine lv_if_eq (tgt := 157) hx hb d15_50_150 rfl (fun c66 => ?_) (fun c66 => ?_)
            ·
              replace h := (if_pos c66).symm.trans h
              refine lv_iconst (v := 0) hx hb d15_50_157 (by decide) ?_
              have e9 := Option.some.inj h
              obtain ⟨q9, e9⟩ := Prod.mk.inj e9
              subst v61
              subst v62
              have hl := lv_sub hl (l' := [(0, .ref (q 0)), (1, .int a0), (2, .long x4), (4, .int x5), (5, .long x8), (7, .long x9), (9, .int x44), (10, .int v54)]) [0, 1, 2, 3, 4, 5, 6, 7] rfl
              exact hj _ _ _ hl hP hD hS
            ·
              replace h := (if_neg c66).symm.trans h
              refine lv_iconst (v := 1) hx hb d15_50_153 (by decide) ?_
              refine lv_goto (tgt := 158) hx hb d15_50_154 rfl ?_
              have e9 := Option.some.inj h
              obtain ⟨q9, e9⟩ := Prod.mk.inj e9
              subst v61
              subst v62
              have hl := lv_sub hl (l' := [(0, .ref (q 0)), (1, .int a0), (2, .long x4), (4, .int x5), (5, .long x8), (7, .long x9), (9, .int x44), (10, .int v54)]) [0, 1, 2, 3, 4, 5, 6, 7] rfl
              exact hj _ _ _ hl hP hD hS
        clear h
        refine lv_if_lt (tgt := 137) hx hb d15_50_128 rfl (fun c56 => ?_) (fun c56 => ?_)
        ·
          replace h := (if_pos c56).symm.trans hX
          have e9 := Option.some.inj h
          subst e57
          have hl := lv_sub hl (l' := [(0, .ref (q 0)), (1, .int a0), (2, .long x4), (4, .int x5), (5, .long x8), (7, .long x9), (9, .int x44), (10, .int v54)]) [1, 2, 3, 4, 5, 6, 7, 0] rfl
          exact hj _ _ _ hl hP hD hS
        ·
          replace h := (if_neg c56).symm.trans hX
          refine lv_aload_n hx hb d15_50_131 rfl (lv_at hl 1 rfl) ?_
          refine lv_iload hx hb d15_50_132 (lv_at hl 0 rfl) ?_
          obtain ⟨st68, hc, h⟩ := ob h
          refine sV_v (As := [.int v54]) (rest := []) ⟨hx, hb, hml, hown, hts⟩ (cm_part l G Zd q v54 v55 st68 hc _) (kw_V (n := 1) hts k1487 k1484 k15 k1486 ks75 (by decide +kernel) ⟨Nat.le_of_ble_eq_true rfl, Nat.le_of_ble_eq_true rfl⟩) hP hD hK hS hA hZ (va_recv (ci := 13) (q0 := 0) hK hP rfl rfl) rfl hl.1 rfl (Nat.le_of_ble_eq_true rfl) d15_50_134 ⟨Nat.le_of_ble_eq_true rfl, Nat.le_of_ble_eq_true rfl⟩ (fun u9 H locs hp hP hD hS => ?_)
          clear u9
          clear hp
          clear hc
          refine W.eq (g2 := F0 m 137 ls []) rfl ?_
          have hP : va_P G.1 vwCl (wMs q G.2 st68) H := hP
          have hD : va_D A (wMs q G.2 st68) := hD
          have e9 := Option.some.inj h
          subst e57
          have hl := lv_sub hl (l' := [(0, .ref (q 0)), (1, .int a0), (2, .long x4), (4, .int x5), (5, .long x8), (7, .long x9), (9, .int x44), (10, .int v54)]) [1, 2, 3, 4, 5, 6, 7, 0] rfl
          exact hj _ _ _ hl hP hD hS
      clear h
      refine lv_if_eq (tgt := 123) hx hb d15_50_89 rfl (fun c52 => ?_) (fun c52 => ?_)
      ·
        replace h := (if_pos c52).symm.trans hX
        refine lv_iconst (v := (-1)) hx hb d15_50_123 (by decide) ?_
        have e9 := Option.some.inj h
        obtain ⟨q9, e9⟩ := Prod.mk.inj e9
        subst v54
        subst v55
        have hl := lv_sub hl (l' := [(0, .ref (q 0)), (1, .int a0), (2, .long x4), (4, .int x5), (5, .long x8), (7, .long x9), (9, .int x44)]) [5, 6, 4, 3, 2, 1, 0] rfl
        exact hj _ _ _ hl hP hD hS
      ·
        replace h := (if_neg c52).symm.trans hX
        refine lv_aload_n hx hb d15_50_92 rfl (lv_at hl 5 rfl) ?_
        refine lv_aload_n hx hb d15_50_93 rfl (lv_at hl 5 rfl) ?_
        refine va_get (D := G.1) (ci := 13) (v := .ref (q 4)) (C := r_13) (T := f_13) (N := 42) (ref := "PagedValuesModel") hx hb hts (fun w h => List.mem_cons_of_mem _ (ly_13 w h)) hown hK hP 0 rfl rfl 6 (by decide) (hts _ (List.mem_cons_of_mem _ k1157)) (fun _ h9 => h9) rfl d15_50_94 ?_
        refine lv_iload hx hb d15_50_97 (lv_at hl 0 rfl) ?_
        obtain ⟨x70, hr, h⟩ := ob h
        obtain ⟨hi, hv⟩ := rd_some hr
        refine va_lald (D := G.1) hx hb hK hP 4 4 rfl rfl (i := x44) hi d15_50_99 ?_
        refine lv_topl (fun y9 ey => ?_)
        have e9 := ey.trans hv
        clear ey
        subst y9
        clear hv hi hr
        refine lv_aload_n hx hb d15_50_100 rfl (lv_at hl 5 rfl) ?_
        refine va_get (D := G.1) (ci := 13) (v := .ref (q 5)) (C := r_13) (T := f_13) (N := 42) (ref := "PagedValuesModel") hx hb hts (fun w h => List.mem_cons_of_mem _ (ly_13 w h)) hown hK hP 0 rfl rfl 7 (by decide) (hts _ (List.mem_cons_of_mem _ k1158)) (fun _ h9 => h9) rfl d15_50_101 ?_
        refine lv_iload hx hb d15_50_104 (lv_at hl 0 rfl) ?_
        obtain ⟨x71, hr, h⟩ := ob h
        obtain ⟨hi, hv⟩ := rd_some hr
        refine va_lald (D := G.1) hx hb hK hP 5 4 rfl rfl (i := x44) hi d15_50_106 ?_
        refine lv_topl (fun y9 ey => ?_)
        have e9 := ey.trans hv
        clear ey
        subst y9
        clear hv hi hr
        refine lv_aload_n hx hb d15_50_107 rfl (lv_at hl 5 rfl) ?_
        refine va_get (D := G.1) (ci := 13) (v := .ref (q 4)) (C := r_13) (T := f_13) (N := 42) (ref := "PagedValuesModel") hx hb hts (fun w h => List.mem_cons_of_mem _ (ly_13 w h)) hown hK hP 0 rfl rfl 6 (by decide) (hts _ (List.mem_cons_of_mem _ k1157)) (fun _ h9 => h9) rfl d15_50_108 ?_
        refine lv_iload hx hb d15_50_111 (lv_at hl 0 rfl) ?_
        obtain ⟨x72, hr, h⟩ := ob h
        obtain ⟨hi, hv⟩ := rd_some hr
        refine va_lald (D := G.1) hx hb hK hP 4 4 rfl rfl (i := x44) hi d15_50_113 ?_
        refine lv_topl (fun y9 ey => ?_)
        have e9 := ey.trans hv
        clear ey
        subst y9
        clear hv hi hr
        obtain ⟨x73, hc, h⟩ := ob h
        refine sS_i (As := [.long x72]) (rest := [.long x71, .long x70, .ref (q 0)]) ⟨hx, hb, hml, hown, hts⟩ (cm_lengthOf l G Zd _ x72 x73 hc _) (kw_S (n := 1) hts k1343 k1341 k15 k1342 (by decide +kernel) ⟨Nat.le_of_ble_eq_true rfl, Nat.le_of_ble_eq_true rfl⟩) hP hD hK hS hA hZ rfl hl.1 rfl (Nat.le_of_ble_eq_true rfl) d15_50_114 ⟨Nat.le_of_ble_eq_true rfl, Nat.le_of_ble_eq_true rfl⟩ (fun rr u9 H locs hp hP hD hS => ?_)
        clear u9
        subst rr
        clear hc
        refine W.eq (g2 := F0 m 117 ls [.int x73, .long x71, .long x70, .ref (q 0)]) rfl ?_
        have hP : va_P G.1 vwCl (wMs q G.2 st) H := hP
        have hD : va_D A (wMs q G.2 st) := hD
        obtain ⟨⟨x76, st77⟩, hc, h⟩ := ob h
        refine sV_i (As := [.long x70, .long x71, .int x73]) (rest := []) ⟨hx, hb, hml, hown, hts⟩ (cm_walk l G Zd q x70 x71 x73 st x76 st77 hc _) (kw_V (n := 3) hts k1471 k1468 k15 k1470 ks71 (by decide +kernel) ⟨Nat.le_of_ble_eq_true rfl, Nat.le_of_ble_eq_true rfl⟩) hP hD hK hS hA hZ (va_recv (ci := 13) (q0 := 0) hK hP rfl rfl) rfl hl.1 rfl (Nat.le_of_ble_eq_true rfl) d15_50_117 ⟨Nat.le_of_ble_eq_true rfl, Nat.le_of_ble_eq_true rfl⟩ (fun rr u9 H locs hp hP hD hS => ?_)
        clear u9
        subst rr
        clear hc
        refine W.eq (g2 := F0 m 120 ls [.int x76]) rfl ?_
        have hP : va_P G.1 vwCl (wMs q G.2 st77) H := hP
        have hD : va_D A (wMs q G.2 st77) := hD
        refine lv_goto (tgt := 124) hx hb d15_50_120 rfl ?_
        have e9 := Option.some.inj h
        obtain ⟨q9, e9⟩ := Prod.mk.inj e9
        subst v54
        subst v55
        have hl := lv_sub hl (l' := [(0, .ref (q 0)), (1, .int a0), (2, .long x4), (4, .int x5), (5, .long x8), (7, .long x9), (9, .int x44)]) [5, 6, 4, 3, 2, 1, 0] rfl
        exact hj _ _ _ hl hP hD hS
  ·
    replace h := (if_pos c13).symm.trans h
    refine lv_iconst (v := 0) hx hb d15_50_52 (by decide) ?_
    cases h
    exact fin_z hx hb hr hlk (by decide) hS () rfl hP hD (Nat.le_of_ble_eq_true rfl) (Nat.le_of_ble_eq_true rfl) d15_50_53
