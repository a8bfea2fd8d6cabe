def m_fits_l2 (st : MS) (v10 : Int32) : Nat → (Int32 × Int32) → Option (Int32 × Int32)
  | 0, _ => none
  | n9 + 1, e9 => if v10 ≤ e9.2 then (some (e9.1, e9.2)) else (if e9.1 ≤ (0 : Int32) then (some (e9.1, e9.2)) else ((rd (st.2.2.1 2) 2100 e9.2).bind fun x33 => (some (e9.2 + x33)).bind fun y34 => (if y34 ≤ v10 then (some e9.1) else ((some (e9.1 + 1)).bind fun y38 => some y38)).bind fun e36 => m_fits_l2 st v10 n9 (e36, e9.2 + 1)))
theorem m_fits_l2_s (st : MS) (v10 : Int32) (n9 : Nat) (e9 : Int32 × Int32) : m_fits_l2 st v10 (n9 + 1) e9 = (if v10 ≤ e9.2 then (some (e9.1, e9.2)) else (if e9.1 ≤ (0 : Int32) then (some (e9.1, e9.2)) else ((rd (st.2.2.1 2) 2100 e9.2).bind fun x33 => (some (e9.2 + x33)).bind fun y34 => (if y34 ≤ v10 then (some e9.1) else ((some (e9.1 + 1)).bind fun y38 => some y38)).bind fun e36 => m_fits_l2 st v10 n9 (e36, e9.2 + 1)))) := rfl
def m_fits_l1 (st : MS) (x1 : Int32) : Nat → (Int32 × Int32) → Option (Int32 × Int32)
  | 0, _ => none
  | n9 + 1, e9 => (rd (st.2.2.1 2) 2100 x1).bind fun x14 => (some (x1 + x14)).bind fun y15 => if y15 ≤ e9.2 then (some (e9.1, e9.2)) else ((rd (st.2.2.1 1) 2100 e9.2).bind fun x17 => (if x17 < (5 : Int32) then (some (0 : Int32)) else (some (1 : Int32))).bind fun e19 => (m_fits_l2 st e9.2 4096 (e19, x1)).bind fun e21 => (if e9.1 = (0 : Int32) then (some (0 : Int32)) else (if (4 : Int32) < e21.1 then (some (0 : Int32)) else (some (1 : Int32)))).bind fun e28 => m_fits_l1 st x1 n9 (e28, e9.2 + 1))
theorem m_fits_l1_s (st : MS) (x1 : Int32) (n9 : Nat) (e9 : Int32 × Int32) : m_fits_l1 st x1 (n9 + 1) e9 = ((rd (st.2.2.1 2) 2100 x1).bind fun x14 => (some (x1 + x14)).bind fun y15 => if y15 ≤ e9.2 then (some (e9.1, e9.2)) else ((rd (st.2.2.1 1) 2100 e9.2).bind fun x17 => (if x17 < (5 : Int32) then (some (0 : Int32)) else (some (1 : Int32))).bind fun e19 => (m_fits_l2 st e9.2 4096 (e19, x1)).bind fun e21 => (if e9.1 = (0 : Int32) then (some (0 : Int32)) else (if (4 : Int32) < e21.1 then (some (0 : Int32)) else (some (1 : Int32)))).bind fun e28 => m_fits_l1 st x1 n9 (e28, e9.2 + 1))) := rfl
def m_fits (st : MS) : Option (Int32) := (m_at (81 : Int32)).bind fun x1 => (rd (st.2.2.1 2) 2100 x1).bind fun x4 => (if (24 : Int32) < x4 then (some (0 : Int32)) else (some (1 : Int32))).bind fun e6 => (m_fits_l1 st x1 4096 (e6, x1)).bind fun e8 => (bz e8.1).bind fun _ => some e8.1
set_option maxHeartbeats 4000000 in
set_option maxRecDepth 100000 in
theorem cm_fits (l : Launch) (G : Gk) (Zd : Nat → Nat) (q : Nat → Nat) (st : MS) (r0 : Int32) (hm : m_fits st = some r0) (sz : Nat) : Met l y15_38 (Cond.code y15_38 prog_15_method_38_code 6 (some .boolean) :: TB) (rmD 1 0 0) (va_Pc [.ref (q 0)] (pcW G Zd (wMs q G.2 st) sz)) (qI G (fun rr (_ : Unit) => rr = r0) (fun _ => (wMs q G.2 st)) (va_A (wMs q G.2 st) sz)) 0 0 (va_A (wMs q G.2 st) sz) := by
  refine go (y := y15_38) (cc := prog_15_method_38_code) (maxL := 6) (ret := (some .boolean)) (av := [.ref (q 0)]) (Qc := qI G (fun rr (_ : Unit) => rr = r0) (fun _ => (wMs q G.2 st))) "PagedValuesModel" rfl (by decide) (Nat.le_of_ble_eq_true rfl) ?_
  intro p e s m below meth c ls A hx hb hr hlk hml hown hts hin hl hP hD hK hS hA hZ
  have hl : lv_has ls 6 [(0, .ref (q 0))] := hl
  have h := hm
  clear hm
  refine lv_bipush (v := 81) hx hb d15_38_0 (by decide) ?_
  obtain ⟨x1, hc, h⟩ := ob h
  refine sS_i (As := [.int 81]) (rest := []) ⟨hx, hb, hml, hown, hts⟩ (cm_at l G Zd _ (81 : Int32) x1 hc _) (kw_S (n := 1) hts k1312 k1310 k15 k1311 (by decide +kernel) ⟨Nat.le_of_ble_eq_true rfl, Nat.le_of_ble_eq_true rfl⟩) hP hD hK hS hA hZ rfl hl.1 rfl (Nat.le_of_ble_eq_true rfl) d15_38_2 ⟨Nat.le_of_ble_eq_true rfl, Nat.le_of_ble_eq_true rfl⟩ (fun rr u9 H locs hp hP hD hS => ?_)
  clear u9
  subst rr
  clear hc
  refine W.eq (g2 := F0 m 5 ls [.int x1]) rfl ?_
  have hP : va_P G.1 vwCl (wMs q G.2 st) H := hP
  have hD : va_D A (wMs q G.2 st) := hD
  refine lv_istore_n (lv' := [(1, .int x1), (0, .ref (q 0))]) hx hb d15_38_5 rfl hl (by decide) rfl (fun ls hl => ?_)
  refine lv_aload_n hx hb d15_38_6 rfl (lv_at hl 1 rfl) ?_
  refine va_get (D := G.1) (ci := 13) (v := .ref (q 3)) (C := r_13) (T := f_13) (N := 42) (ref := "PagedValuesModel") hx hb hts (fun w h => List.mem_cons_of_mem _ (ly_13 w h)) hown hK hP 0 rfl rfl 5 (by decide) (hts _ (List.mem_cons_of_mem _ k1156)) (fun _ h9 => h9) rfl d15_38_7 ?_
  refine lv_iload_n hx hb d15_38_10 rfl (lv_at hl 0 rfl) ?_
  obtain ⟨x4, hr, h⟩ := ob h
  obtain ⟨hi, hv⟩ := rd_some hr
  refine va_bald (D := G.1) hx hb hK hP 3 2 rfl rfl (i := x1) hi d15_38_11 ?_
  refine lv_topi (fun y9 ey => ?_)
  have e9 := ey.trans hv
  clear ey
  subst y9
  clear hv hi hr
  refine lv_bipush (v := 24) hx hb d15_38_12 (by decide) ?_
  obtain ⟨e6, hX, h⟩ := ob h
  have hj : ∀ (H : Heap) (locs : List Loc) (ls : Array Slot), lv_has ls 6 [(0, .ref (q 0)), (1, .int x1)] → va_P G.1 vwCl (wMs q G.2 st) H → va_D A (wMs q G.2 st) → va_S A s.heap H locs → W p l e (rmD 1 0 0) s m ([.ref (q 0)] : List Value).toArray below meth c H locs 0 0 (MQ below (qI G (fun rr (_ : Unit) => rr = r0) (fun _ => (wMs q G.2 st)) A) ([.ref (q 0)] : List Value).toArray s 0 0 A) (F0 m 22 ls [.int e6]) := by
    intro H locs ls hl hP hD hS
    refine lv_istore_n (lv' := [(2, .int e6), (0, .ref (q 0)), (1, .int x1)]) hx hb d15_38_22 rfl hl (by decide) rfl (fun ls hl => ?_)
    refine lv_iload_n hx hb d15_38_23 rfl (lv_at hl 2 rfl) ?_
    refine lv_istore_n (lv' := [(3, .int x1), (2, .int e6), (0, .ref (q 0)), (1, .int x1)]) hx hb d15_38_24 rfl hl (by decide) rfl (fun ls hl => ?_)
    obtain ⟨e8, hX, hrest⟩ := ob h
    clear h
    have hj : ∀ (v12 : Int32) (v13 : Int32), e8 = (v12, v13) → ∀ (H : Heap) (locs : List Loc) (ls : Array Slot), lv_has ls 6 [(0, .ref (q 0)), (1, .int x1), (2, .int v12), (3, .int v13)] → va_P G.1 vwCl (wMs q G.2 st) H → va_D A (wMs q G.2 st) → va_S A s.heap H locs → W p l e (rmD 1 0 0) s m ([.ref (q 0)] : List Value).toArray below meth c H locs 0 0 (MQ below (qI G (fun rr (_ : Unit) => rr = r0) (fun _ => (wMs q G.2 st)) A) ([.ref (q 0)] : List Value).toArray s 0 0 A) (F0 m 121 ls []) := by
      intro v12 v13 he H locs ls hl hP hD hS
      subst e8
      have h := hrest
      refine lv_iload_n hx hb d15_38_121 rfl (lv_at hl 2 rfl) ?_
      obtain ⟨u9, hr9, h⟩ := ob h
      have hi := bz_some hr9
      clear hr9 u9
      cases h
      exact fin_z hx hb hr hlk (nar01 hi) hS () rfl hP hD (Nat.le_of_ble_eq_true rfl) (Nat.le_of_ble_eq_true rfl) d15_38_122
    have hloop : ∀ (n9 : Nat) (v9 : Int32) (v10 : Int32), m_fits_l1 st x1 n9 (v9, v10) = some e8 → ∀ (H : Heap) (locs : List Loc) (ls : Array Slot), lv_has ls 6 [(0, .ref (q 0)), (1, .int x1), (2, .int v9), (3, .int v10)] → va_P G.1 vwCl (wMs q G.2 st) H → va_D A (wMs q G.2 st) → va_S A s.heap H locs → W p l e (rmD 1 0 0) s m ([.ref (q 0)] : List Value).toArray below meth c H locs 0 0 (MQ below (qI G (fun rr (_ : Unit) => rr = r0) (fun _ => (wMs q G.2 st)) A) ([.ref (q 0)] : List Value).toArray s 0 0 A) (F0 m 25 ls []) := by
      intro n9
      induction n9 with
      | zero =>
        intro v9 v10 h
        cases h
      | succ n9 ih =>
        intro v9 v10 h H locs ls hl hP hD hS
        replace h := (m_fits_l1_s st x1 n9 (v9, v10)).symm.trans h
        refine lv_iload_n hx hb d15_38_25 rfl (lv_at hl 3 rfl) ?_
        refine lv_iload_n hx hb d15_38_26 rfl (lv_at hl 1 rfl) ?_
        refine lv_aload_n hx hb d15_38_27 rfl (lv_at hl 0 rfl) ?_
        refine va_get (D := G.1) (ci := 13) (v := .ref (q 3)) (C := r_13) (T := f_13) (N := 42) (ref := "PagedValuesModel") hx hb hts (fun w h => List.mem_cons_of_mem _ (ly_13 w h)) hown hK hP 0 rfl rfl 5 (by decide) (hts _ (List.mem_cons_of_mem _ k1156)) (fun _ h9 => h9) rfl d15_38_28 ?_
        refine lv_iload_n hx hb d15_38_31 rfl (lv_at hl 1 rfl) ?_
        obtain ⟨x14, hr, h⟩ := ob h
        obtain ⟨hi, hv⟩ := rd_some hr
        refine va_bald (D := G.1) hx hb hK hP 3 2 rfl rfl (i := x1) hi d15_38_32 ?_
        refine lv_topi (fun y9 ey => ?_)
        have e9 := ey.trans hv
        clear ey
        subst y9
        clear hv hi hr
        refine lv_iadd hx hb d15_38_33 ?_
        obtain ⟨y15, hr, h⟩ := ob h
        refine lv_topi (fun y9 ey => ?_)
        have e9 := ey.trans (Option.some.inj hr)
        clear ey
        subst y9
        clear hr
        refine lv_icmp_ge (tgt := 121) hx hb d15_38_34 rfl (fun c16 => ?_) (fun c16 => ?_)
        ·
          replace h := (if_pos c16).symm.trans h
          have e9 := Option.some.inj h
          subst e8
          have hl := lv_sub hl (l' := [(0, .ref (q 0)), (1, .int x1), (2, .int v9), (3, .int v10)]) [0, 1, 2, 3] rfl
          exact hj _ _ rfl _ _ _ hl hP hD hS
        ·
          replace h := (if_neg c16).symm.trans h
          refine lv_aload_n hx hb d15_38_37 rfl (lv_at hl 0 rfl) ?_
          refine va_get (D := G.1) (ci := 13) (v := .ref (q 2)) (C := r_13) (T := f_13) (N := 42) (ref := "PagedValuesModel") hx hb hts (fun w h => List.mem_cons_of_mem _ (ly_13 w h)) hown hK hP 0 rfl rfl 4 (by decide) (hts _ (List.mem_cons_of_mem _ k1155)) (fun _ h9 => h9) rfl d15_38_38 ?_
          refine lv_iload_n hx hb d15_38_41 rfl (lv_at hl 3 rfl) ?_
          obtain ⟨x17, hr, h⟩ := ob h
          obtain ⟨hi, hv⟩ := rd_some hr
          refine va_bald (D := G.1) hx hb hK hP 2 2 rfl rfl (i := v10) hi d15_38_42 ?_
          refine lv_topi (fun y9 ey => ?_)
          have e9 := ey.trans hv
          clear ey
          subst y9
          clear hv hi hr
          refine lv_iconst (v := 5) hx hb d15_38_43 (by decide) ?_
          obtain ⟨e19, hX, h⟩ := ob h
          have hj : ∀ (H : Heap) (locs : List Loc) (ls : Array Slot), lv_has ls 6 [(0, .ref (q 0)), (1, .int x1), (2, .int v9), (3, .int v10)] → va_P G.1 vwCl (wMs q G.2 st) H → va_D A (wMs q G.2 st) → va_S A s.heap H locs → W p l e (rmD 1 0 0) s m ([.ref (q 0)] : List Value).toArray below meth c H locs 0 0 (MQ below (qI G (fun rr (_ : Unit) => rr = r0) (fun _ => (wMs q G.2 st)) A) ([.ref (q 0)] : List Value).toArray s 0 0 A) (F0 m 52 ls [.int e19]) := by
            intro H locs ls hl hP hD hS
            refine lv_istore (lv' := [(4, .int e19), (0, .ref (q 0)), (1, .int x1), (2, .int v9), (3, .int v10)]) hx hb d15_38_52 hl (by decide) rfl (fun ls hl => ?_)
            refine lv_iload_n hx hb d15_38_54 rfl (lv_at hl 2 rfl) ?_
            refine lv_istore (lv' := [(5, .int x1), (4, .int e19), (0, .ref (q 0)), (1, .int x1), (2, .int v9), (3, .int v10)]) hx hb d15_38_55 hl (by decide) rfl (fun ls hl => ?_)
            obtain ⟨e21, hX, hrest⟩ := ob h
            clear h
            have hj : ∀ (v25 : Int32) (v26 : Int32), e21 = (v25, v26) → ∀ (H : Heap) (locs : List Loc) (ls : Array Slot), lv_has ls 6 [(0, .ref (q 0)), (1, .int x1), (2, .int v9), (3, .int v10), (4, .int v25), (5, .int v26)] → va_P G.1 vwCl (wMs q G.2 st) H → va_D A (wMs q G.2 st) → va_S A s.heap H locs → W p l e (rmD 1 0 0) s m ([.ref (q 0)] : List Value).toArray below meth c H locs 0 0 (MQ below (qI G (fun rr (_ : Unit) => rr = r0) (fun _ => (wMs q G.2 st)) A) ([.ref (q 0)] : List Value).toArray s 0 0 A) (F0 m 99 ls []) := by
              intro v25 v26 he H locs ls hl hP hD hS
              subst e21
              have h := hrest
              refine lv_iload_n hx hb d15_38_99 rfl (lv_at hl 2 rfl) ?_
              obtain ⟨e28, hX, h⟩ := ob h
              have hj : ∀ (H : Heap) (locs : List Loc) (ls : Array Slot), lv_has ls 6 [(0, .ref (q 0)), (1, .int x1), (2, .int v9), (3, .int v10), (4, .int v25), (5, .int v26)] → va_P G.1 vwCl (wMs q G.2 st) H → va_D A (wMs q G.2 st) → va_S A s.heap H locs → W p l e (rmD 1 0 0) s m ([.ref (q 0)] : List Value).toArray below meth c H locs 0 0 (MQ below (qI G (fun rr (_ : Unit) => rr = r0) (fun _ => (wMs q G.2 st)) A) ([.ref (q 0)] : List Value).toArray s 0 0 A) (F0 m 114 ls [.int e28]) := by
                intro H locs ls hl hP hD hS
                refine lv_istore_n (lv' := [(2, .int e28), (0, .ref (q 0)), (1, .int x1), (3, .int v10), (4, .int v25), (5, .int v26)]) hx hb d15_38_114 rfl hl (by decide) rfl (fun ls hl => ?_)
                refine lv_iinc (k := 3) (v := v10 + 1) (lv' := [(3, .int (v10 + 1)), (2, .int e28), (0, .ref (q 0)), (1, .int x1), (4, .int v25), (5, .int v26)]) hx hb d15_38_115 hl rfl (by first | decide | rfl) (by decide) rfl (fun ls hl => ?_)
                refine lv_goto (tgt := 25) hx hb d15_38_118 rfl ?_
                have hl := lv_sub hl (l' := [(0, .ref (q 0)), (1, .int x1), (2, .int e28), (3, .int (v10 + 1))]) [2, 3, 1, 0] rfl
                exact ih _ _ h _ _ _ hl hP hD hS
              clear h
              refine lv_if_eq (tgt := 113) hx hb d15_38_100 rfl (fun c27 => ?_) (fun c27 => ?_)
              ·
                replace h := (if_pos c27).symm.trans hX
                refine lv_iconst (v := 0) hx hb d15_38_113 (by decide) ?_
                have e9 := Option.some.inj h
                subst e28
                have hl := lv_sub hl (l' := [(0, .ref (q 0)), (1, .int x1), (2, .int v9), (3, .int v10), (4, .int v25), (5, .int v26)]) [0, 1, 2, 3, 4, 5] rfl
                exact hj _ _ _ hl hP hD hS
              ·
                replace h := (if_neg c27).symm.trans hX
                refine lv_iload hx hb d15_38_103 (lv_at hl 4 rfl) ?_
                refine lv_iconst (v := 4) hx hb d15_38_105 (by decide) ?_
                refine lv_icmp_gt (tgt := 113) hx hb d15_38_106 rfl (fun c30 => ?_) (fun c30 => ?_)
                ·
                  replace h := (if_pos c30).symm.trans h
                  refine lv_iconst (v := 0) hx hb d15_38_113 (by decide) ?_
                  have e9 := Option.some.inj h
                  subst e28
                  have hl := lv_sub hl (l' := [(0, .ref (q 0)), (1, .int x1), (2, .int v9), (3, .int v10), (4, .int v25), (5, .int v26)]) [0, 1, 2, 3, 4, 5] rfl
                  exact hj _ _ _ hl hP hD hS
                ·
                  replace h := (if_neg c30).symm.trans h
                  refine lv_iconst (v := 1) hx hb d15_38_109 (by decide) ?_
                  refine lv_goto (tgt := 114) hx hb d15_38_110 rfl ?_
                  have e9 := Option.some.inj h
                  subst e28
                  have hl := lv_sub hl (l' := [(0, .ref (q 0)), (1, .int x1), (2, .int v9), (3, .int v10), (4, .int v25), (5, .int v26)]) [0, 1, 2, 3, 4, 5] rfl
                  exact hj _ _ _ hl hP hD hS
            have hloop : ∀ (n9 : Nat) (v22 : Int32) (v23 : Int32), m_fits_l2 st v10 n9 (v22, v23) = some e21 → ∀ (H : Heap) (locs : List Loc) (ls : Array Slot), lv_has ls 6 [(0, .ref (q 0)), (1, .int x1), (2, .int v9), (3, .int v10), (4, .int v22), (5, .int v23)] → va_P G.1 vwCl (wMs q G.2 st) H → va_D A (wMs q G.2 st) → va_S A s.heap H locs → W p l e (rmD 1 0 0) s m ([.ref (q 0)] : List Value).toArray below meth c H locs 0 0 (MQ below (qI G (fun rr (_ : Unit) => rr = r0) (fun _ => (wMs q G.2 st)) A) ([.ref (q 0)] : List Value).toArray s 0 0 A) (F0 m 57 ls []) := by
              intro n9
              induction n9 with
              | zero =>
                intro v22 v23 h
                cases h
              | succ n9 ih =>
                intro v22 v23 h H locs ls hl hP hD hS
                replace h := (m_fits_l2_s st v10 n9 (v22, v23)).symm.trans h
                refine lv_iload hx hb d15_38_57 (lv_at hl 5 rfl) ?_
                refine lv_iload_n hx hb d15_38_59 rfl (lv_at hl 3 rfl) ?_
                refine lv_icmp_ge (tgt := 99) hx hb d15_38_60 rfl (fun c31 => ?_) (fun c31 => ?_)
                ·
                  replace h := (if_pos c31).symm.trans h
                  have e9 := Option.some.inj h
                  subst e21
                  have hl := lv_sub hl (l' := [(0, .ref (q 0)), (1, .int x1), (2, .int v9), (3, .int v10), (4, .int v22), (5, .int v23)]) [0, 1, 2, 3, 4, 5] rfl
                  exact hj _ _ rfl _ _ _ hl hP hD hS
                ·
                  replace h := (if_neg c31).symm.trans h
                  refine lv_iload hx hb d15_38_63 (lv_at hl 4 rfl) ?_
                  refine lv_if_le (tgt := 99) hx hb d15_38_65 rfl (fun c32 => ?_) (fun c32 => ?_)
                  ·
                    replace h := (if_pos c32).symm.trans h
                    have e9 := Option.some.inj h
                    subst e21
                    have hl := lv_sub hl (l' := [(0, .ref (q 0)), (1, .int x1), (2, .int v9), (3, .int v10), (4, .int v22), (5, .int v23)]) [0, 1, 2, 3, 4, 5] rfl
                    exact hj _ _ rfl _ _ _ hl hP hD hS
                  ·
                    replace h := (if_neg c32).symm.trans h
                    refine lv_iload hx hb d15_38_68 (lv_at hl 5 rfl) ?_
                    refine lv_aload_n hx hb d15_38_70 rfl (lv_at hl 0 rfl) ?_
                    refine va_get (D := G.1) (ci := 13) (v := .ref (q 3)) (C := r_13) (T := f_13) (N := 42) (ref := "PagedValuesModel") hx hb hts (fun w h => List.mem_cons_of_mem _ (ly_13 w h)) hown hK hP 0 rfl rfl 5 (by decide) (hts _ (List.mem_cons_of_mem _ k1156)) (fun _ h9 => h9) rfl d15_38_71 ?_
                    refine lv_iload hx hb d15_38_74 (lv_at hl 5 rfl) ?_
                    obtain ⟨x33, hr, h⟩ := ob h
                    obtain ⟨hi, hv⟩ := rd_some hr
                    refine va_bald (D := G.1) hx hb hK hP 3 2 rfl rfl (i := v23) hi d15_38_76 ?_
                    refine lv_topi (fun y9 ey => ?_)
                    have e9 := ey.trans hv
                    clear ey
                    subst y9
                    clear hv hi hr
                    refine lv_iadd hx hb d15_38_77 ?_
                    obtain ⟨y34, hr, h⟩ := ob h
                    refine lv_topi (fun y9 ey => ?_)
                    have e9 := ey.trans (Option.some.inj hr)
                    clear ey
                    subst y9
                    clear hr
                    refine lv_iload_n hx hb d15_38_78 rfl (lv_at hl 3 rfl) ?_
                    obtain ⟨e36, hX, h⟩ := ob h
                    have hj : ∀ (H : Heap) (locs : List Loc) (ls : Array Slot), lv_has ls 6 [(0, .ref (q 0)), (1, .int x1), (2, .int v9), (3, .int v10), (4, .int v22), (5, .int v23)] → va_P G.1 vwCl (wMs q G.2 st) H → va_D A (wMs q G.2 st) → va_S A s.heap H locs → W p l e (rmD 1 0 0) s m ([.ref (q 0)] : List Value).toArray below meth c H locs 0 0 (MQ below (qI G (fun rr (_ : Unit) => rr = r0) (fun _ => (wMs q G.2 st)) A) ([.ref (q 0)] : List Value).toArray s 0 0 A) (F0 m 91 ls [.int e36]) := by
                      intro H locs ls hl hP hD hS
                      refine lv_istore (lv' := [(4, .int e36), (0, .ref (q 0)), (1, .int x1), (2, .int v9), (3, .int v10), (5, .int v23)]) hx hb d15_38_91 hl (by decide) rfl (fun ls hl => ?_)
                      refine lv_iinc (k := 5) (v := v23 + 1) (lv' := [(5, .int (v23 + 1)), (4, .int e36), (0, .ref (q 0)), (1, .int x1), (2, .int v9), (3, .int v10)]) hx hb d15_38_93 hl rfl (by first | decide | rfl) (by decide) rfl (fun ls hl => ?_)
                      refine lv_goto (tgt := 57) hx hb d15_38_96 rfl ?_
                      have hl := lv_sub hl (l' := [(0, .ref (q 0)), (1, .int x1), (2, .int v9), (3, .int v10), (4, .int e36), (5, .int (v23 + 1))]) [2, 3, 4, 5, 1, 0] rfl
                      exact ih _ _ h _ _ _ hl hP hD hS
                    clear h
                    refine lv_icmp_le (tgt := 89) hx hb d15_38_79 rfl (fun c35 => ?_) (fun c35 => ?_)
                    ·
                      replace h := (if_pos c35).symm.trans hX
                      refine lv_iload hx hb d15_38_89 (lv_at hl 4 rfl) ?_
                      have e9 := Option.some.inj h
                      subst e36
                      have hl := lv_sub hl (l' := [(0, .ref (q 0)), (1, .int x1), (2, .int v9), (3, .int v10), (4, .int v22), (5, .int v23)]) [0, 1, 2, 3, 4, 5] rfl
                      exact hj _ _ _ hl hP hD hS
                    ·
                      replace h := (if_neg c35).symm.trans hX
                      refine lv_iload hx hb d15_38_82 (lv_at hl 4 rfl) ?_
                      refine lv_iconst (v := 1) hx hb d15_38_84 (by decide) ?_
                      refine lv_iadd hx hb d15_38_85 ?_
                      obtain ⟨y38, hr, h⟩ := ob h
                      refine lv_topi (fun y9 ey => ?_)
                      have e9 := ey.trans (Option.some.inj hr)
                      clear ey
                      subst y9
                      clear hr
                      refine lv_goto (tgt := 91) hx hb d15_38_86 rfl ?_
                      have e9 := Option.some.inj h
                      subst e36
                      have hl := lv_sub hl (l' := [(0, .ref (q 0)), (1, .int x1), (2, .int v9), (3, .int v10), (4, .int v22), (5, .int v23)]) [0, 1, 2, 3, 4, 5] rfl
                      exact hj _ _ _ hl hP hD hS
            have hl := lv_sub hl (l' := [(0, .ref (q 0)), (1, .int x1), (2, .int v9), (3, .int v10), (4, .int e19), (5, .int x1)]) [2, 3, 4, 5, 1, 0] rfl
            exact hloop _ _ _ hX _ _ _ hl hP hD hS
          clear h
          refine lv_icmp_lt (tgt := 51) hx hb d15_38_44 rfl (fun c18 => ?_) (fun c18 => ?_)
          ·
            replace h := (if_pos c18).symm.trans hX
            refine lv_iconst (v := 0) hx hb d15_38_51 (by decide) ?_
            have e9 := Option.some.inj h
            subst e19
            have hl := lv_sub hl (l' := [(0, .ref (q 0)), (1, .int x1), (2, .int v9), (3, .int v10)]) [0, 1, 2, 3] rfl
            exact hj _ _ _ hl hP hD hS
          ·
            replace h := (if_neg c18).symm.trans hX
            refine lv_iconst (v := 1) hx hb d15_38_47 (by decide) ?_
            refine lv_goto (tgt := 52) hx hb d15_38_48 rfl ?_
            have e9 := Option.some.inj h
            subst e19
            have hl := lv_sub hl (l' := [(0, .ref (q 0)), (1, .int x1), (2, .int v9), (3, .int v10)]) [0, 1, 2, 3] rfl
            exact hj _ _ _ hl hP hD hS
    have hl := lv_sub hl (l' := [(0, .ref (q 0)), (1, .int x1), (2, .int e6), (3, .int x1)]) [2, 3, 1, 0] rfl
    exact hloop _ _ _ hX _ _ _ hl hP hD hS
  clear h
  refine lv_icmp_gt (tgt := 21) hx hb d15_38_14 rfl (fun c5 => ?_) (fun c5 => ?_)
  ·
    replace h := (if_pos c5).symm.trans hX
    refine lv_iconst (v := 0) hx hb d15_38_21 (by decide) ?_
    have e9 := Option.some.inj h
    subst e6
    have hl := lv_sub hl (l' := [(0, .ref (q 0)), (1, .int x1)]) [1, 0] rfl
    exact hj _ _ _ hl hP hD hS
  ·
    replace h := (if_neg c5).symm.trans hX
    refine lv_iconst (v := 1) hx hb d15_38_17 (by decide) ?_
    refine lv_goto (tgt := 22) hx hb d15_38_18 rfl ?_
    have e9 := Option.some.inj h
    subst e6
    have hl := lv_sub hl (l' := [(0, .ref (q 0)), (1, .int x1)]) [1, 0] rfl
    exact hj _ _ _ hl hP hD hS
def m_isString (a0 : Int32) (st : MS) : Option (Int32) := (if a0 < (0 : Int32) then (some (0 : Int32)) else ((rd (st.2.2.1 1) 2100 a0).bind fun x4 => if x4 = (4 : Int32) then (some (1 : Int32)) else (some (0 : Int32)))).bind fun e2 => (bz e2).bind fun _ => some e2
set_option maxHeartbeats 4000000 in
set_option maxRecDepth 100000 in
theorem cm_isString (l : Launch) (G : Gk) (Zd : Nat → Nat) (q : Nat → Nat) (a0 : Int32) (st : MS) (r0 : Int32) (hm : m_isString a0 st = some r0) (sz : Nat) : Met l y15_45 (Cond.code y15_45 prog_15_method_45_code 2 (some .boolean) :: TB) (rmD 0 0 0) (va_Pc [.ref (q 0), .int a0] (pcW G Zd (wMs q G.2 st) sz)) (qI G (fun rr (_ : Unit) => rr = r0) (fun _ => (wMs q G.2 st)) (va_A (wMs q G.2 st) sz)) 0 0 (va_A (wMs q G.2 st) sz) := by
  refine go (y := y15_45) (cc := prog_15_method_45_code) (maxL := 2) (ret := (some .boolean)) (av := [.ref (q 0), .int a0]) (Qc := qI G (fun rr (_ : Unit) => rr = r0) (fun _ => (wMs q G.2 st))) "PagedValuesModel" rfl (by decide) (Nat.le_of_ble_eq_true rfl) ?_
  intro p e s m below meth c ls A hx hb hr hlk hml hown hts hin hl hP hD hK hS hA hZ
  have hl : lv_has ls 2 [(0, .ref (q 0)), (1, .int a0)] := hl
  have h := hm
  clear hm
  refine lv_iload_n hx hb d15_45_0 rfl (lv_at hl 1 rfl) ?_
  obtain ⟨e2, hX, h⟩ := ob h
  have hj : ∀ (H : Heap) (locs : List Loc) (ls : Array Slot), lv_has ls 2 [(0, .ref (q 0)), (1, .int a0)] → va_P G.1 vwCl (wMs q G.2 st) H → va_D A (wMs q G.2 st) → va_S A s.heap H locs → W p l e (rmD 0 0 0) s m ([.ref (q 0), .int a0] : List Value).toArray below meth c H locs 0 0 (MQ below (qI G (fun rr (_ : Unit) => rr = r0) (fun _ => (wMs q G.2 st)) A) ([.ref (q 0), .int a0] : List Value).toArray s 0 0 A) (F0 m 19 ls [.int e2]) := by
    intro H locs ls hl hP hD hS
    obtain ⟨u9, hr9, h⟩ := ob h
    have hi := bz_some hr9
    clear hr9 u9
    cases h
    exact fin_z hx hb hr hlk (nar01 hi) hS () rfl hP hD (Nat.le_of_ble_eq_true rfl) (Nat.le_of_ble_eq_true rfl) d15_45_19
  clear h
  refine lv_if_lt (tgt := 18) hx hb d15_45_1 rfl (fun c1 => ?_) (fun c1 => ?_)
  ·
    replace h := (if_pos c1).symm.trans hX
    refine lv_iconst (v := 0) hx hb d15_45_18 (by decide) ?_
    have e9 := Option.some.inj h
    subst e2
    have hl := lv_sub hl (l' := [(0, .ref (q 0)), (1, .int a0)]) [0, 1] rfl
    exact hj _ _ _ hl hP hD hS
  ·
    replace h := (if_neg c1).symm.trans hX
    refine lv_aload_n hx hb d15_45_4 rfl (lv_at hl 0 rfl) ?_
    refine va_get (D := G.1) (ci := 13) (v := .ref (q 2)) (C := r_13) (T := f_13) (N := 42) (ref := "PagedValuesModel") hx hb hts (fun w h => List.mem_cons_of_mem _ (ly_13 w h)) hown hK hP 0 rfl rfl 4 (by decide) (hts _ (List.mem_cons_of_mem _ k1155)) (fun _ h9 => h9) rfl d15_45_5 ?_
    refine lv_iload_n hx hb d15_45_8 rfl (lv_at hl 1 rfl) ?_
    obtain ⟨x4, hr, h⟩ := ob h
    obtain ⟨hi, hv⟩ := rd_some hr
    refine va_bald (D := G.1) hx hb hK hP 2 2 rfl rfl (i := a0) hi d15_45_9 ?_
    refine lv_topi (fun y9 ey => ?_)
    have e9 := ey.trans hv
    clear ey
    subst y9
    clear hv hi hr
    refine lv_iconst (v := 4) hx hb d15_45_10 (by decide) ?_
    refine lv_icmp_ne (tgt := 18) hx hb d15_45_11 rfl (fun c5 => ?_) (fun c5 => ?_)
    ·
      replace h := (if_neg c5).symm.trans h
      refine lv_iconst (v := 0) hx hb d15_45_18 (by decide) ?_
      have e9 := Option.some.inj h
      subst e2
      have hl := lv_sub hl (l' := [(0, .ref (q 0)), (1, .int a0)]) [0, 1] rfl
      exact hj _ _ _ hl hP hD hS
    ·
      replace h := (if_pos c5).symm.trans h
      refine lv_iconst (v := 1) hx hb d15_45_14 (by decide) ?_
      refine lv_goto (tgt := 19) hx hb d15_45_15 rfl ?_
      have e9 := Option.some.inj h
      subst e2
      have hl := lv_sub hl (l' := [(0, .ref (q 0)), (1, .int a0)]) [0, 1] rfl
      exact hj _ _ _ hl hP hD hS
def m_formed (a0 : Int32) (st : MS) : Option (Int32) := (rd (st.2.2.1 1) 2100 a0).bind fun x1 => (if x1 = (6 : Int32) then ((m_operand a0 (144115188075884655 : Int64) st).bind fun x45 => some x45) else (some ((-1) : Int32))).bind fun e3 => (m_isString e3 st).bind fun x5 => if x5 = (0 : Int32) then (some (0 : Int32)) else ((m_operand a0 (288230377904169328 : Int64) st).bind fun x9 => (m_isString x9 st).bind fun x12 => if x12 = (0 : Int32) then (some (0 : Int32)) else ((rd (st.2.2.2 0) 2100 e3).bind fun x16 => (some (lg_cmp x16 (216172782120363105 : Int64))).bind fun y17 => if y17 = (0 : Int32) then ((m_operand a0 (360288405951373686 : Int64) st).bind fun x19 => (if x19 < (0 : Int32) then (some (0 : Int32)) else (some (1 : Int32))).bind fun e23 => (bz e23).bind fun _ => some e23) else ((some (lg_cmp x16 (532941400995554674 : Int64))).bind fun y25 => if y25 = (0 : Int32) then ((m_operand a0 (360288405951373686 : Int64) st).bind fun x39 => (if x39 < (0 : Int32) then (some (0 : Int32)) else (some (1 : Int32))).bind fun e43 => (bz e43).bind fun _ => some e43) else ((some (lg_cmp x16 (288230378189123427 : Int64))).bind fun y27 => (if y27 = (0 : Int32) then ((m_operand a0 (288230377987732070 : Int64) st).bind fun x33 => (m_isString x33 st).bind fun x36 => some x36) else ((some (lg_cmp x16 (432457123577554290 : Int64))).bind fun y31 => if y31 = (0 : Int32) then (some (1 : Int32)) else (some (0 : Int32)))).bind fun e29 => (bz e29).bind fun _ => some e29))))
set_option maxHeartbeats 4000000 in
set_option maxRecDepth 100000 in
theorem cm_formed (l : Launch) (G : Gk) (Zd : Nat → Nat) (q : Nat → Nat) (a0 : Int32) (st : MS) (r0 : Int32) (hm : m_formed a0 st = some r0) (sz : Nat) : Met l y15_46 (Cond.code y15_46 prog_15_method_46_code 5 (some .boolean) :: TB) (rmD 2 0 0) (va_Pc [.ref (q 0), .int a0] (pcW G Zd (wMs q G.2 st) sz)) (qI G (fun rr (_ : Unit) => rr = r0) (fun _ => (wMs q G.2 st)) (va_A (wMs q G.2 st) sz)) 0 0 (va_A (wMs q G.2 st) sz) := by
  refine go (y := y15_46) (cc := prog_15_method_46_code) (maxL := 5) (ret := (some .boolean)) (av := [.ref (q 0), .int a0]) (Qc := qI G (fun rr (_ : Unit) => rr = r0) (fun _ => (wMs q G.2 st))) "PagedValuesModel" rfl (by decide) (Nat.le_of_ble_eq_true rfl) ?_
  intro p e s m below meth c ls A hx hb hr hlk hml hown hts hin hl hP hD hK hS hA hZ
  have hl : lv_has ls 5 [(0, .ref (q 0)), (1, .int a0)] := hl
  have h := hm
  clear hm
  refine lv_aload_n hx hb d15_46_0 rfl (lv_at hl 0 rfl) ?_
  refine va_get (D := G.1) (ci := 13) (v := .ref (q 2)) (C := r_13) (T := f_13) (N := 42) (ref := "PagedValuesModel") hx hb hts (fun w h => List.mem_cons_of_mem _ (ly_13 w h)) hown hK hP 0 rfl rfl 4 (by decide) (hts _ (List.mem_cons_of_mem _ k1155)) (fun _ h9 => h9) rfl d15_46_1 ?_
  refine lv_iload_n hx hb d15_46_4 rfl (lv_at hl 1 rfl) ?_
  obtain ⟨x1, hr, h⟩ := ob h
  obtain ⟨hi, hv⟩ := rd_some hr
  refine va_bald (D := G.1) hx hb hK hP 2 2 rfl rfl (i := a0) hi d15_46_5 ?_
  refine lv_topi (fun y9 ey => ?_)
  have e9 := ey.trans hv
  clear ey
  subst y9
  clear hv hi hr
  refine lv_bipush (v := 6) hx hb d15_46_6 (by decide) ?_
  obtain ⟨e3, hX, h⟩ := ob h
  have hj : ∀ (H : Heap) (locs : List Loc) (ls : Array Slot), lv_has ls 5 [(0, .ref (q 0)), (1, .int a0)] → va_P G.1 vwCl (wMs q G.2 st) H → va_D A (wMs q G.2 st) → va_S A s.heap H locs → W p l e (rmD 2 0 0) s m ([.ref (q 0), .int a0] : List Value).toArray below meth c H locs 0 0 (MQ below (qI G (fun rr (_ : Unit) => rr = r0) (fun _ => (wMs q G.2 st)) A) ([.ref (q 0), .int a0] : List Value).toArray s 0 0 A) (F0 m 23 ls [.int e3]) := by
    intro H locs ls hl hP hD hS
    refine lv_istore_n (lv' := [(2, .int e3), (0, .ref (q 0)), (1, .int a0)]) hx hb d15_46_23 rfl hl (by decide) rfl (fun ls hl => ?_)
    refine lv_aload_n hx hb d15_46_24 rfl (lv_at hl 1 rfl) ?_
    refine lv_iload_n hx hb d15_46_25 rfl (lv_at hl 0 rfl) ?_
    obtain ⟨x5, hc, h⟩ := ob h
    refine sV_i (As := [.int e3]) (rest := []) ⟨hx, hb, hml, hown, hts⟩ (cm_isString l G Zd q e3 st x5 hc _) (kw_V (n := 1) hts k1449 k1446 k15 k1448 ks69 (by decide +kernel) ⟨Nat.le_of_ble_eq_true rfl, Nat.le_of_ble_eq_true rfl⟩) hP hD hK hS hA hZ (va_recv (ci := 13) (q0 := 0) hK hP rfl rfl) rfl hl.1 rfl (Nat.le_of_ble_eq_true rfl) d15_46_26 ⟨Nat.le_of_ble_eq_true rfl, Nat.le_of_ble_eq_true rfl⟩ (fun rr u9 H locs hp hP hD hS => ?_)
    clear u9
    subst rr
    clear hc
    refine W.eq (g2 := F0 m 29 ls [.int x5]) rfl ?_
    have hP : va_P G.1 vwCl (wMs q G.2 st) H := hP
    have hD : va_D A (wMs q G.2 st) := hD
    refine lv_if_eq (tgt := 47) hx hb d15_46_29 rfl (fun c8 => ?_) (fun c8 => ?_)
    ·
      replace h := (if_pos c8).symm.trans h
      refine lv_iconst (v := 0) hx hb d15_46_47 (by decide) ?_
      cases h
      exact fin_z hx hb hr hlk (by decide) hS () rfl hP hD (Nat.le_of_ble_eq_true rfl) (Nat.le_of_ble_eq_true rfl) d15_46_48
    ·
      replace h := (if_neg c8).symm.trans h
      refine lv_aload_n hx hb d15_46_32 rfl (lv_at hl 1 rfl) ?_
      refine lv_aload_n hx hb d15_46_33 rfl (lv_at hl 1 rfl) ?_
      refine lv_iload_n hx hb d15_46_34 rfl (lv_at hl 2 rfl) ?_
      refine lv_ldc2 (v := 288230377904169328) hx hb hown (hts _ (List.mem_cons_of_mem _ k1450)) d15_46_35 ?_
      obtain ⟨x9, hc, h⟩ := ob h
      refine sV_i (As := [.int a0, .long 288230377904169328]) (rest := [.ref (q 0)]) ⟨hx, hb, hml, hown, hts⟩ (cm_operand l G Zd q a0 (288230377904169328 : Int64) st x9 hc _) (kw_V (n := 2) hts k1445 k1442 k15 k1444 ks68 (by decide +kernel) ⟨Nat.le_of_ble_eq_true rfl, Nat.le_of_ble_eq_true rfl⟩) hP hD hK hS hA hZ (va_recv (ci := 13) (q0 := 0) hK hP rfl rfl) rfl hl.1 rfl (Nat.le_of_ble_eq_true rfl) d15_46_38 ⟨Nat.le_of_ble_eq_true rfl, Nat.le_of_ble_eq_true rfl⟩ (fun rr u9 H locs hp hP hD hS => ?_)
      clear u9
      subst rr
      clear hc
      refine W.eq (g2 := F0 m 41 ls [.int x9, .ref (q 0)]) rfl ?_
      have hP : va_P G.1 vwCl (wMs q G.2 st) H := hP
      have hD : va_D A (wMs q G.2 st) := hD
      obtain ⟨x12, hc, h⟩ := ob h
      refine sV_i (As := [.int x9]) (rest := []) ⟨hx, hb, hml, hown, hts⟩ (cm_isString l G Zd q x9 st x12 hc _) (kw_V (n := 1) hts k1449 k1446 k15 k1448 ks69 (by decide +kernel) ⟨Nat.le_of_ble_eq_true rfl, Nat.le_of_ble_eq_true rfl⟩) hP hD hK hS hA hZ (va_recv (ci := 13) (q0 := 0) hK hP rfl rfl) rfl hl.1 rfl (Nat.le_of_ble_eq_true rfl) d15_46_41 ⟨Nat.le_of_ble_eq_true rfl, Nat.le_of_ble_eq_true rfl⟩ (fun rr u9 H locs hp hP hD hS => ?_)
      clear u9
      subst rr
      clear hc
      refine W.eq (g2 := F0 m 44 ls [.int x12]) rfl ?_
      have hP : va_P G.1 vwCl (wMs q G.2 st) H := hP
      have hD : va_D A (wMs q G.2 st) := hD
      refine lv_if_ne (tgt := 49) hx hb d15_46_44 rfl (fun c15 => ?_) (fun c15 => ?_)
      ·
        replace h := (if_neg c15).symm.trans h
        refine lv_aload_n hx hb d15_46_49 rfl (lv_at hl 1 rfl) ?_
        refine va_get (D := G.1) (ci := 13) (v := .ref (q 4)) (C := r_13) (T := f_13) (N := 42) (ref := "PagedValuesModel") hx hb hts (fun w h => List.mem_cons_of_mem _ (ly_13 w h)) hown hK hP 0 rfl rfl 6 (by decide) (hts _ (List.mem_cons_of_mem _ k1157)) (fun _ h9 => h9) rfl d15_46_50 ?_
        refine lv_iload_n hx hb d15_46_53 rfl (lv_at hl 0 rfl) ?_
        obtain ⟨x16, hr, h⟩ := ob h
        obtain ⟨hi, hv⟩ := rd_some hr
        refine va_lald (D := G.1) hx hb hK hP 4 4 rfl rfl (i := e3) hi d15_46_54 ?_
        refine lv_topl (fun y9 ey => ?_)
        have e9 := ey.trans hv
        clear ey
        subst y9
        clear hv hi hr
        refine lv_lstore_n (lv' := [(3, .long x16), (2, .int e3), (0, .ref (q 0)), (1, .int a0)]) hx hb d15_46_55 rfl hl (by decide) rfl (fun ls hl => ?_)
        refine lv_lload_n hx hb d15_46_56 rfl (lv_at hl 0 rfl) ?_
        refine lv_ldc2 (v := 216172782120363105) hx hb hown (hts _ (List.mem_cons_of_mem _ k1451)) d15_46_57 ?_
        refine W.lcmp hx hb d15_46_60 ?_
        obtain ⟨y17, hr, h⟩ := ob h
        refine lv_topi (fun y9 ey => ?_)
        have e9 := ey.trans (Option.some.inj hr)
        clear ey
        subst y9
        clear hr
        refine lv_if_eq (tgt := 72) hx hb d15_46_61 rfl (fun c18 => ?_) (fun c18 => ?_)
        ·
          replace h := (if_pos c18).symm.trans h
          refine lv_aload_n hx hb d15_46_72 rfl (lv_at hl 2 rfl) ?_
          refine lv_iload_n hx hb d15_46_73 rfl (lv_at hl 3 rfl) ?_
          refine lv_ldc2 (v := 360288405951373686) hx hb hown (hts _ (List.mem_cons_of_mem _ k1453)) d15_46_74 ?_
          obtain ⟨x19, hc, h⟩ := ob h
          refine sV_i (As := [.int a0, .long 360288405951373686]) (rest := []) ⟨hx, hb, hml, hown, hts⟩ (cm_operand l G Zd q a0 (360288405951373686 : Int64) st x19 hc _) (kw_V (n := 2) hts k1445 k1442 k15 k1444 ks68 (by decide +kernel) ⟨Nat.le_of_ble_eq_true rfl, Nat.le_of_ble_eq_true rfl⟩) hP hD hK hS hA hZ (va_recv (ci := 13) (q0 := 0) hK hP rfl rfl) rfl hl.1 rfl (Nat.le_of_ble_eq_true rfl) d15_46_77 ⟨Nat.le_of_ble_eq_true rfl, Nat.le_of_ble_eq_true rfl⟩ (fun rr u9 H locs hp hP hD hS => ?_)
          clear u9
          subst rr
          clear hc
          refine W.eq (g2 := F0 m 80 ls [.int x19]) rfl ?_
          have hP : va_P G.1 vwCl (wMs q G.2 st) H := hP
          have hD : va_D A (wMs q G.2 st) := hD
          obtain ⟨e23, hX, h⟩ := ob h
          have hj : ∀ (H : Heap) (locs : List Loc) (ls : Array Slot), lv_has ls 5 [(0, .ref (q 0)), (1, .int a0), (2, .int e3), (3, .long x16)] → va_P G.1 vwCl (wMs q G.2 st) H → va_D A (wMs q G.2 st) → va_S A s.heap H locs → W p l e (rmD 2 0 0) s m ([.ref (q 0), .int a0] : List Value).toArray below meth c H locs 0 0 (MQ below (qI G (fun rr (_ : Unit) => rr = r0) (fun _ => (wMs q G.2 st)) A) ([.ref (q 0), .int a0] : List Value).toArray s 0 0 A) (F0 m 88 ls [.int e23]) := by
            intro H locs ls hl hP hD hS
            obtain ⟨u9, hr9, h⟩ := ob h
            have hi := bz_some hr9
            clear hr9 u9
            cases h
            exact fin_z hx hb hr hlk (nar01 hi) hS () rfl hP hD (Nat.le_of_ble_eq_true rfl) (Nat.le_of_ble_eq_true rfl) d15_46_88
          clear h
          refine lv_if_lt (tgt := 87) hx hb d15_46_80 rfl (fun c22 => ?_) (fun c22 => ?_)
          ·
            replace h := (if_pos c22).symm.trans hX
            refine lv_iconst (v := 0) hx hb d15_46_87 (by decide) ?_
            have e9 := Option.some.inj h
            subst e23
            have hl := lv_sub hl (l' := [(0, .ref (q 0)), (1, .int a0), (2, .int e3), (3, .long x16)]) [2, 3, 1, 0] rfl
            exact hj _ _ _ hl hP hD hS
          ·
            replace h := (if_neg c22).symm.trans hX
            refine lv_iconst (v := 1) hx hb d15_46_83 (by decide) ?_
            refine lv_goto (tgt := 88) hx hb d15_46_84 rfl ?_
            have e9 := Option.some.inj h
            subst e23
            have hl := lv_sub hl (l' := [(0, .ref (q 0)), (1, .int a0), (2, .int e3), (3, .long x16)]) [2, 3, 1, 0] rfl
            exact hj _ _ _ hl hP hD hS
        ·
          replace h := (if_neg c18).symm.trans h
          refine lv_lload_n hx hb d15_46_64 rfl (lv_at hl 0 rfl) ?_
          refine lv_ldc2 (v := 532941400995554674) hx hb hown (hts _ (List.mem_cons_of_mem _ k1452)) d15_46_65 ?_
          refine W.lcmp hx hb d15_46_68 ?_
          obtain ⟨y25, hr, h⟩ := ob h
          refine lv_topi (fun y9 ey => ?_)
          have e9 := ey.trans (Option.some.inj hr)
          clear ey
          subst y9
          clear hr
          refine lv_if_ne (tgt := 89) hx hb d15_46_69 rfl (fun c26 => ?_) (fun c26 => ?_)
          ·
            replace h := (if_neg c26).symm.trans h
            refine lv_lload_n hx hb d15_46_89 rfl (lv_at hl 0 rfl) ?_
            refine lv_ldc2 (v := 288230378189123427) hx hb hown (hts _ (List.mem_cons_of_mem _ k1454)) d15_46_90 ?_
            refine W.lcmp hx hb d15_46_93 ?_
            obtain ⟨y27, hr, h⟩ := ob h
            refine lv_topi (fun y9 ey => ?_)
            have e9 := ey.trans (Option.some.inj hr)
            clear ey
            subst y9
            clear hr
            obtain ⟨e29, hX, h⟩ := ob h
            have hj : ∀ (H : Heap) (locs : List Loc) (ls : Array Slot), lv_has ls 5 [(0, .ref (q 0)), (1, .int a0), (2, .int e3), (3, .long x16)] → va_P G.1 vwCl (wMs q G.2 st) H → va_D A (wMs q G.2 st) → va_S A s.heap H locs → W p l e (rmD 2 0 0) s m ([.ref (q 0), .int a0] : List Value).toArray below meth c H locs 0 0 (MQ below (qI G (fun rr (_ : Unit) => rr = r0) (fun _ => (wMs q G.2 st)) A) ([.ref (q 0), .int a0] : List Value).toArray s 0 0 A) (F0 m 125 ls [.int e29]) := by
              intro H locs ls hl hP hD hS
              obtain ⟨u9, hr9, h⟩ := ob h
              have hi := bz_some hr9
              clear hr9 u9
              cases h
              exact fin_z hx hb hr hlk (nar01 hi) hS () rfl hP hD (Nat.le_of_ble_eq_true rfl) (Nat.le_of_ble_eq_true rfl) d15_46_125
            clear h
            refine lv_if_ne (tgt := 112) hx hb d15_46_94 rfl (fun c28 => ?_) (fun c28 => ?_)
            ·
              replace h := (if_neg c28).symm.trans hX
              refine lv_lload_n hx hb d15_46_112 rfl (lv_at hl 0 rfl) ?_
              refine lv_ldc2 (v := 432457123577554290) hx hb hown (hts _ (List.mem_cons_of_mem _ k1456)) d15_46_113 ?_
              refine W.lcmp hx hb d15_46_116 ?_
              obtain ⟨y31, hr, h⟩ := ob h
              refine lv_topi (fun y9 ey => ?_)
              have e9 := ey.trans (Option.some.inj hr)
              clear ey
              subst y9
              clear hr
              refine lv_if_ne (tgt := 124) hx hb d15_46_117 rfl (fun c32 => ?_) (fun c32 => ?_)
              ·
                replace h := (if_neg c32).symm.trans h
                refine lv_iconst (v := 0) hx hb d15_46_124 (by decide) ?_
                have e9 := Option.some.inj h
                subst e29
                have hl := lv_sub hl (l' := [(0, .ref (q 0)), (1, .int a0), (2, .int e3), (3, .long x16)]) [2, 3, 1, 0] rfl
                exact hj _ _ _ hl hP hD hS
              ·
                replace h := (if_pos c32).symm.trans h
                refine lv_iconst (v := 1) hx hb d15_46_120 (by decide) ?_
                refine lv_goto (tgt := 125) hx hb d15_46_121 rfl ?_
                have e9 := Option.some.inj h
                subst e29
                have hl := lv_sub hl (l' := [(0, .ref (q 0)), (1, .int a0), (2, .int e3), (3, .long x16)]) [2, 3, 1, 0] rfl
                exact hj _ _ _ hl hP hD hS
            ·
              replace h := (if_pos c28).symm.trans hX
              refine lv_aload_n hx hb d15_46_97 rfl (lv_at hl 2 rfl) ?_
              refine lv_aload_n hx hb d15_46_98 rfl (lv_at hl 2 rfl) ?_
              refine lv_iload_n hx hb d15_46_99 rfl (lv_at hl 3 rfl) ?_
              refine lv_ldc2 (v := 288230377987732070) hx hb hown (hts _ (List.mem_cons_of_mem _ k1455)) d15_46_100 ?_
              obtain ⟨x33, hc, h⟩ := ob h
              refine sV_i (As := [.int a0, .long 288230377987732070]) (rest := [.ref (q 0)]) ⟨hx, hb, hml, hown, hts⟩ (cm_operand l G Zd q a0 (288230377987732070 : Int64) st x33 hc _) (kw_V (n := 2) hts k1445 k1442 k15 k1444 ks68 (by decide +kernel) ⟨Nat.le_of_ble_eq_true rfl, Nat.le_of_ble_eq_true rfl⟩) hP hD hK hS hA hZ (va_recv (ci := 13) (q0 := 0) hK hP rfl rfl) rfl hl.1 rfl (Nat.le_of_ble_eq_true rfl) d15_46_103 ⟨Nat.le_of_ble_eq_true rfl, Nat.le_of_ble_eq_true rfl⟩ (fun rr u9 H locs hp hP hD hS => ?_)
              clear u9
              subst rr
              clear hc
              refine W.eq (g2 := F0 m 106 ls [.int x33, .ref (q 0)]) rfl ?_
              have hP : va_P G.1 vwCl (wMs q G.2 st) H := hP
              have hD : va_D A (wMs q G.2 st) := hD
              obtain ⟨x36, hc, h⟩ := ob h
              refine sV_i (As := [.int x33]) (rest := []) ⟨hx, hb, hml, hown, hts⟩ (cm_isString l G Zd q x33 st x36 hc _) (kw_V (n := 1) hts k1449 k1446 k15 k1448 ks69 (by decide +kernel) ⟨Nat.le_of_ble_eq_true rfl, Nat.le_of_ble_eq_true rfl⟩) hP hD hK hS hA hZ (va_recv (ci := 13) (q0 := 0) hK hP rfl rfl) rfl hl.1 rfl (Nat.le_of_ble_eq_true rfl) d15_46_106 ⟨Nat.le_of_ble_eq_true rfl, Nat.le_of_ble_eq_true rfl⟩ (fun rr u9 H locs hp hP hD hS => ?_)
              clear u9
              subst rr
              clear hc
              refine W.eq (g2 := F0 m 109 ls [.int x36]) rfl ?_
              have hP : va_P G.1 vwCl (wMs q G.2 st) H := hP
              have hD : va_D A (wMs q G.2 st) := hD
              refine lv_goto (tgt := 125) hx hb d15_46_109 rfl ?_
              have e9 := Option.some.inj h
              subst e29
              have hl := lv_sub hl (l' := [(0, .ref (q 0)), (1, .int a0), (2, .int e3), (3, .long x16)]) [2, 3, 1, 0] rfl
              exact hj _ _ _ hl hP hD hS
          ·
            replace h := (if_pos c26).symm.trans h
            refine lv_aload_n hx hb d15_46_72 rfl (lv_at hl 2 rfl) ?_
            refine lv_iload_n hx hb d15_46_73 rfl (lv_at hl 3 rfl) ?_
            refine lv_ldc2 (v := 360288405951373686) hx hb hown (hts _ (List.mem_cons_of_mem _ k1453)) d15_46_74 ?_
            obtain ⟨x39, hc, h⟩ := ob h
            refine sV_i (As := [.int a0, .long 360288405951373686]) (rest := []) ⟨hx, hb, hml, hown, hts⟩ (cm_operand l G Zd q a0 (360288405951373686 : Int64) st x39 hc _) (kw_V (n := 2) hts k1445 k1442 k15 k1444 ks68 (by decide +kernel) ⟨Nat.le_of_ble_eq_true rfl, Nat.le_of_ble_eq_true rfl⟩) hP hD hK hS hA hZ (va_recv (ci := 13) (q0 := 0) hK hP rfl rfl) rfl hl.1 rfl (Nat.le_of_ble_eq_true rfl) d15_46_77 ⟨Nat.le_of_ble_eq_true rfl, Nat.le_of_ble_eq_true rfl⟩ (fun rr u9 H locs hp hP hD hS => ?_)
            clear u9
            subst rr
            clear hc
            refine W.eq (g2 := F0 m 80 ls [.int x39]) rfl ?_
            have hP : va_P G.1 vwCl (wMs q G.2 st) H := hP
            have hD : va_D A (wMs q G.2 st) := hD
            obtain ⟨e43, hX, h⟩ := ob h
            have hj : ∀ (H : Heap) (locs : List Loc) (ls : Array Slot), lv_has ls 5 [(0, .ref (q 0)), (1, .int a0), (2, .int e3), (3, .long x16)] → va_P G.1 vwCl (wMs q G.2 st) H → va_D A (wMs q G.2 st) → va_S A s.heap H locs → W p l e (rmD 2 0 0) s m ([.ref (q 0), .int a0] : List Value).toArray below meth c H locs 0 0 (MQ below (qI G (fun rr (_ : Unit) => rr = r0) (fun _ => (wMs q G.2 st)) A) ([.ref (q 0), .int a0] : List Value).toArray s 0 0 A) (F0 m 88 ls [.int e43]) := by
              intro H locs ls hl hP hD hS
              obtain ⟨u9, hr9, h⟩ := ob h
              have hi := bz_some hr9
              clear hr9 u9
              cases h
              exact fin_z hx hb hr hlk (nar01 hi) hS () rfl hP hD (Nat.le_of_ble_eq_true rfl) (Nat.le_of_ble_eq_true rfl) d15_46_88
            clear h
            refine lv_if_lt (tgt := 87) hx hb d15_46_80 rfl (fun c42 => ?_) (fun c42 => ?_)
            ·
              replace h := (if_pos c42).symm.trans hX
              refine lv_iconst (v := 0) hx hb d15_46_87 (by decide) ?_
              have e9 := Option.some.inj h
              subst e43
              have hl := lv_sub hl (l' := [(0, .ref (q 0)), (1, .int a0), (2, .int e3), (3, .long x16)]) [2, 3, 1, 0] rfl
              exact hj _ _ _ hl hP hD hS
            ·
              replace h := (if_neg c42).symm.trans hX
              refine lv_iconst (v := 1) hx hb d15_46_83 (by decide) ?_
              refine lv_goto (tgt := 88) hx hb d15_46_84 rfl ?_
              have e9 := Option.some.inj h
              subst e43
              have hl := lv_sub hl (l' := [(0, .ref (q 0)), (1, .int a0), (2, .int e3), (3, .long x16)]) [2, 3, 1, 0] rfl
              exact hj _ _ _ hl hP hD hS
      ·
        replace h := (if_pos c15).symm.trans h
        refine lv_iconst (v := 0) hx hb d15_46_47 (by decide) ?_
        cases h
        exact fin_z hx hb hr hlk (by decide) hS () rfl hP hD (Nat.le_of_ble_eq_true rfl) (Nat.le_of_ble_eq_true rfl) d15_46_48
  clear h
  refine lv_icmp_ne (tgt := 22) hx hb d15_46_8 rfl (fun c2 => ?_) (fun c2 => ?_)
  ·
    replace h := (if_neg c2).symm.trans hX
    refine lv_iconst (v := (-1)) hx hb d15_46_22 (by decide) ?_
    have e9 := Option.some.inj h
    subst e3
    have hl := lv_sub hl (l' := [(0, .ref (q 0)), (1, .int a0)]) [0, 1] rfl
    exact hj _ _ _ hl hP hD hS
  ·
    replace h := (if_pos c2).symm.trans hX
    refine lv_aload_n hx hb d15_46_11 rfl (lv_at hl 0 rfl) ?_
    refine lv_iload_n hx hb d15_46_12 rfl (lv_at hl 1 rfl) ?_
    refine lv_ldc2 (v := 144115188075884655) hx hb hown (hts _ (List.mem_cons_of_mem _ k1441)) d15_46_13 ?_
    obtain ⟨x45, hc, h⟩ := ob h
    refine sV_i (As := [.int a0, .long 144115188075884655]) (rest := []) ⟨hx, hb, hml, hown, hts⟩ (cm_operand l G Zd q a0 (144115188075884655 : Int64) st x45 hc _) (kw_V (n := 2) hts k1445 k1442 k15 k1444 ks68 (by decide +kernel) ⟨Nat.le_of_ble_eq_true rfl, Nat.le_of_ble_eq_true rfl⟩) hP hD hK hS hA hZ (va_recv (ci := 13) (q0 := 0) hK hP rfl rfl) rfl hl.1 rfl (Nat.le_of_ble_eq_true rfl) d15_46_16 ⟨Nat.le_of_ble_eq_true rfl, Nat.le_of_ble_eq_true rfl⟩ (fun rr u9 H locs hp hP hD hS => ?_)
    clear u9
    subst rr
    clear hc
    refine W.eq (g2 := F0 m 19 ls [.int x45]) rfl ?_
    have hP : va_P G.1 vwCl (wMs q G.2 st) H := hP
    have hD : va_D A (wMs q G.2 st) := hD
    refine lv_goto (tgt := 23) hx hb d15_46_19 rfl ?_
    have e9 := Option.some.inj h
    subst e3
    have hl := lv_sub hl (l' := [(0, .ref (q 0)), (1, .int a0)]) [0, 1] rfl
    exact hj _ _ _ hl hP hD hS
def m_operate_l2 (x1 : Int32) : Nat → (Int32 × Int32 × MS) → Option ((Int32 × MS) ⊕ (Int32 × Int32 × MS))
  | 0, _ => none
  | n9 + 1, e9 => (rd (e9.2.2.2.2.1 2) 2100 x1).bind fun x20 => (some (x1 + x20)).bind fun y21 => if y21 ≤ e9.2.1 then (some (.inr (e9.1, e9.2.1, e9.2.2))) else ((m_done e9.2.1 e9.2.2).bind fun r25 => if r25.1 = (0 : Int32) then ((some ((-10) - e9.1)).bind fun y33 => some (.inl (y33, r25.2))) else ((m_fits r25.2).bind fun x27 => if x27 = (0 : Int32) then (some (.inl (((-5) : Int32), r25.2))) else ((rd (r25.2.2.2.1 2) 2100 e9.2.1).bind fun x31 => (some (e9.2.1 + x31)).bind fun y32 => m_operate_l2 x1 n9 (e9.1 + 1, y32, r25.2))))
theorem m_operate_l2_s (x1 : Int32) (n9 : Nat) (e9 : Int32 × Int32 × MS) : m_operate_l2 x1 (n9 + 1) e9 = ((rd (e9.2.2.2.2.1 2) 2100 x1).bind fun x20 => (some (x1 + x20)).bind fun y21 => if y21 ≤ e9.2.1 then (some (.inr (e9.1, e9.2.1, e9.2.2))) else ((m_done e9.2.1 e9.2.2).bind fun r25 => if r25.1 = (0 : Int32) then ((some ((-10) - e9.1)).bind fun y33 => some (.inl (y33, r25.2))) else ((m_fits r25.2).bind fun x27 => if x27 = (0 : Int32) then (some (.inl (((-5) : Int32), r25.2))) else ((rd (r25.2.2.2.1 2) 2100 e9.2.1).bind fun x31 => (some (e9.2.1 + x31)).bind fun y32 => m_operate_l2 x1 n9 (e9.1 + 1, y32, r25.2))))) := rfl
def m_operate_l1 (st : MS) (x1 : Int32) : Nat → (Int32) → Option ((Int32 × MS) ⊕ (Int32))
  | 0, _ => none
  | n9 + 1, e9 => (rd (st.2.2.1 2) 2100 x1).bind fun x34 => (some (x1 + x34)).bind fun y35 => if y35 ≤ e9 then (some (.inr e9)) else ((m_formed e9 st).bind fun x37 => if x37 = (0 : Int32) then (some (.inl (((-3) : Int32), st))) else ((rd (st.2.2.1 2) 2100 e9).bind fun x41 => (some (e9 + x41)).bind fun y42 => m_operate_l1 st x1 n9 y42))
theorem m_operate_l1_s (st : MS) (x1 : Int32) (n9 : Nat) (e9 : Int32) : m_operate_l1 st x1 (n9 + 1) e9 = ((rd (st.2.2.1 2) 2100 x1).bind fun x34 => (some (x1 + x34)).bind fun y35 => if y35 ≤ e9 then (some (.inr e9)) else ((m_formed e9 st).bind fun x37 => if x37 = (0 : Int32) then (some (.inl (((-3) : Int32), st))) else ((rd (st.2.2.1 2) 2100 e9).bind fun x41 => (some (e9 + x41)).bind fun y42 => m_operate_l1 st x1 n9 y42))) := rfl
def m_operate (st : MS) : Option (Int32 × MS) := (m_at (80 : Int32)).bind fun x1 => (rd (st.2.2.1 1) 2100 x1).bind fun x4 => if x4 = (5 : Int32) then ((some (x1 + 1)).bind fun y6 => (m_operate_l1 st x1 4096 y6).bind fun e7 => match e7 with | .inl o9 => some o9 | .inr e8 => (some (x1 + 1)).bind fun y11 => (m_operate_l2 x1 4096 ((0 : Int32), y11, st)).bind fun e12 => match e12 with | .inl o9 => some o9 | .inr e8 => some ((0 : Int32), e8.2.2)) else (some (((-3) : Int32), st))
set_option maxHeartbeats 4000000 in
set_option maxRecDepth 100000 in
theorem cm_operate (l : Launch) (G : Gk) (Zd : Nat → Nat) (q : Nat → Nat) (st : MS) (r0 : Int32) (st0 : MS) (hm : m_operate st = some (r0, st0)) (sz : Nat) : Met l y15_51 (Cond.code y15_51 prog_15_method_51_code 4 (some .int) :: TB) (rmD 7 0 0) (va_Pc [.ref (q 0)] (pcW G Zd (wMs q G.2 st) sz)) (qI G (fun rr (_ : Unit) => rr = r0) (fun _ => (wMs q G.2 st0)) (va_A (wMs q G.2 st) sz)) 0 0 (va_A (wMs q G.2 st) sz) := by
  refine go (y := y15_51) (cc := prog_15_method_51_code) (maxL := 4) (ret := (some .int)) (av := [.ref (q 0)]) (Qc := qI G (fun rr (_ : Unit) => rr = r0) (fun _ => (wMs q G.2 st0))) "PagedValuesModel" rfl (by decide) (Nat.le_of_ble_eq_true rfl) ?_
  intro p e s m below meth c ls A hx hb hr hlk hml hown hts hin hl hP hD hK hS hA hZ
  have hl : lv_has ls 4 [(0, .ref (q 0))] := hl
  have h := hm
  clear hm
  refine lv_bipush (v := 80) hx hb d15_51_0 (by decide) ?_
  obtain ⟨x1, hc, h⟩ := ob h
  refine sS_i (As := [.int 80]) (rest := []) ⟨hx, hb, hml, hown, hts⟩ (cm_at l G Zd _ (80 : Int32) x1 hc _) (kw_S (n := 1) hts k1312 k1310 k15 k1311 (by decide +kernel) ⟨Nat.le_of_ble_eq_true rfl, Nat.le_of_ble_eq_true rfl⟩) hP hD hK hS hA hZ rfl hl.1 rfl (Nat.le_of_ble_eq_true rfl) d15_51_2 ⟨Nat.le_of_ble_eq_true rfl, Nat.le_of_ble_eq_true rfl⟩ (fun rr u9 H locs hp hP hD hS => ?_)
  clear u9
  subst rr
  clear hc
  refine W.eq (g2 := F0 m 5 ls [.int x1]) rfl ?_
  have hP : va_P G.1 vwCl (wMs q G.2 st) H := hP
  have hD : va_D A (wMs q G.2 st) := hD
  refine lv_istore_n (lv' := [(1, .int x1), (0, .ref (q 0))]) hx hb d15_51_5 rfl hl (by decide) rfl (fun ls hl => ?_)
  refine lv_aload_n hx hb d15_51_6 rfl (lv_at hl 1 rfl) ?_
  refine va_get (D := G.1) (ci := 13) (v := .ref (q 2)) (C := r_13) (T := f_13) (N := 42) (ref := "PagedValuesModel") hx hb hts (fun w h => List.mem_cons_of_mem _ (ly_13 w h)) hown hK hP 0 rfl rfl 4 (by decide) (hts _ (List.mem_cons_of_mem _ k1155)) (fun _ h9 => h9) rfl d15_51_7 ?_
  refine lv_iload_n hx hb d15_51_10 rfl (lv_at hl 0 rfl) ?_
  obtain ⟨x4, hr, h⟩ := ob h
  obtain ⟨hi, hv⟩ := rd_some hr
  refine va_bald (D := G.1) hx hb hK hP 2 2 rfl rfl (i := x1) hi d15_51_11 ?_
  refine lv_topi (fun y9 ey => ?_)
  have e9 := ey.trans hv
  clear ey
  subst y9
  clear hv hi hr
  refine lv_iconst (v := 5) hx hb d15_51_12 (by decide) ?_
  refine lv_icmp_eq (tgt := 19) hx hb d15_51_13 rfl (fun c5 => ?_) (fun c5 => ?_)
  ·
    replace h := (if_pos c5).symm.trans h
    refine lv_iload_n hx hb d15_51_19 rfl (lv_at hl 0 rfl) ?_
    refine lv_iconst (v := 1) hx hb d15_51_20 (by decide) ?_
    refine lv_iadd hx hb d15_51_21 ?_
    obtain ⟨y6, hr, h⟩ := ob h
    refine lv_topi (fun y9 ey => ?_)
    have e9 := ey.trans (Option.some.inj hr)
    clear ey
    subst y9
    clear hr
    refine lv_istore_n (lv' := [(2, .int y6), (1, .int x1), (0, .ref (q 0))]) hx hb d15_51_22 rfl hl (by decide) rfl (fun ls hl => ?_)
    obtain ⟨e7, hX, hrest⟩ := ob h
    clear h
    have hj : ∀ (v10 : Int32), e7 = .inr (v10) → ∀ (H : Heap) (locs : List Loc) (ls : Array Slot), lv_has ls 4 [(0, .ref (q 0)), (1, .int x1), (2, .int v10)] → va_P G.1 vwCl (wMs q G.2 st) H → va_D A (wMs q G.2 st) → va_S A s.heap H locs → W p l e (rmD 7 0 0) s m ([.ref (q 0)] : List Value).toArray below meth c H locs 0 0 (MQ below (qI G (fun rr (_ : Unit) => rr = r0) (fun _ => (wMs q G.2 st0)) A) ([.ref (q 0)] : List Value).toArray s 0 0 A) (F0 m 58 ls []) := by
      intro v10 he H locs ls hl hP hD hS
      subst e7
      have h := hrest
      refine lv_iconst (v := 0) hx hb d15_51_58 (by decide) ?_
      refine lv_istore_n (lv' := [(2, .int 0), (0, .ref (q 0)), (1, .int x1)]) hx hb d15_51_59 rfl hl (by decide) rfl (fun ls hl => ?_)
      refine lv_iload_n hx hb d15_51_60 rfl (lv_at hl 2 rfl) ?_
      refine lv_iconst (v := 1) hx hb d15_51_61 (by decide) ?_
      refine lv_iadd hx hb d15_51_62 ?_
      obtain ⟨y11, hr, h⟩ := ob h
      refine lv_topi (fun y9 ey => ?_)
      have e9 := ey.trans (Option.some.inj hr)
      clear ey
      subst y9
      clear hr
      refine lv_istore_n (lv' := [(3, .int y11), (2, .int 0), (0, .ref (q 0)), (1, .int x1)]) hx hb d15_51_63 rfl hl (by decide) rfl (fun ls hl => ?_)
      obtain ⟨e12, hX, hrest⟩ := ob h
      clear h
      have hj : ∀ (v17 : Int32) (v18 : Int32) (v19 : MS), e12 = .inr (v17, v18, v19) → ∀ (H : Heap) (locs : List Loc) (ls : Array Slot), lv_has ls 4 [(0, .ref (q 0)), (1, .int x1), (2, .int v17), (3, .int v18)] → va_P G.1 vwCl (wMs q G.2 v19) H → va_D A (wMs q G.2 v19) → va_S A s.heap H locs → W p l e (rmD 7 0 0) s m ([.ref (q 0)] : List Value).toArray below meth c H locs 0 0 (MQ below (qI G (fun rr (_ : Unit) => rr = r0) (fun _ => (wMs q G.2 st0)) A) ([.ref (q 0)] : List Value).toArray s 0 0 A) (F0 m 114 ls []) := by
        intro v17 v18 v19 he H locs ls hl hP hD hS
        subst e12
        have h := hrest
        refine lv_iconst (v := 0) hx hb d15_51_114 (by decide) ?_
        cases h
        exact fin_i hx hb hr hlk hS () rfl hP hD (Nat.le_of_ble_eq_true rfl) (Nat.le_of_ble_eq_true rfl) d15_51_115
      have hloop : ∀ (n9 : Nat) (v13 : Int32) (v14 : Int32) (v15 : MS), m_operate_l2 x1 n9 (v13, v14, v15) = some e12 → ∀ (H : Heap) (locs : List Loc) (ls : Array Slot), lv_has ls 4 [(0, .ref (q 0)), (1, .int x1), (2, .int v13), (3, .int v14)] → va_P G.1 vwCl (wMs q G.2 v15) H → va_D A (wMs q G.2 v15) → va_S A s.heap H locs → W p l e (rmD 7 0 0) s m ([.ref (q 0)] : List Value).toArray below meth c H locs 0 0 (MQ below (qI G (fun rr (_ : Unit) => rr = r0) (fun _ => (wMs q G.2 st0)) A) ([.ref (q 0)] : List Value).toArray s 0 0 A) (F0 m 64 ls []) := by
        intro n9
        induction n9 with
        | zero =>
          intro v13 v14 v15 h
          cases h
        | succ n9 ih =>
          intro v13 v14 v15 h H locs ls hl hP hD hS
          replace h := (m_operate_l2_s x1 n9 (v13, v14, v15)).symm.trans h
          refine lv_iload_n hx hb d15_51_64 rfl (lv_at hl 3 rfl) ?_
          refine lv_iload_n hx hb d15_51_65 rfl (lv_at hl 1 rfl) ?_
          refine lv_aload_n hx hb d15_51_66 rfl (lv_at hl 0 rfl) ?_
          refine va_get (D := G.1) (ci := 13) (v := .ref (q 3)) (C := r_13) (T := f_13) (N := 42) (ref := "PagedValuesModel") hx hb hts (fun w h => List.mem_cons_of_mem _ (ly_13 w h)) hown hK hP 0 rfl rfl 5 (by decide) (hts _ (List.mem_cons_of_mem _ k1156)) (fun _ h9 => h9) rfl d15_51_67 ?_
          refine lv_iload_n hx hb d15_51_70 rfl (lv_at hl 1 rfl) ?_
          obtain ⟨x20, hr, h⟩ := ob h
          obtain ⟨hi, hv⟩ := rd_some hr
          refine va_bald (D := G.1) hx hb hK hP 3 2 rfl rfl (i := x1) hi d15_51_71 ?_
          refine lv_topi (fun y9 ey => ?_)
          have e9 := ey.trans hv
          clear ey
          subst y9
          clear hv hi hr
          refine lv_iadd hx hb d15_51_72 ?_
          obtain ⟨y21, hr, h⟩ := ob h
          refine lv_topi (fun y9 ey => ?_)
          have e9 := ey.trans (Option.some.inj hr)
          clear ey
          subst y9
          clear hr
          refine lv_icmp_ge (tgt := 114) hx hb d15_51_73 rfl (fun c22 => ?_) (fun c22 => ?_)
          ·
            replace h := (if_pos c22).symm.trans h
            have e9 := Option.some.inj h
            subst e12
            have hl := lv_sub hl (l' := [(0, .ref (q 0)), (1, .int x1), (2, .int v13), (3, .int v14)]) [0, 1, 2, 3] rfl
            exact hj _ _ _ rfl _ _ _ hl hP hD hS
          ·
            replace h := (if_neg c22).symm.trans h
            refine lv_aload_n hx hb d15_51_76 rfl (lv_at hl 0 rfl) ?_
            refine lv_iload_n hx hb d15_51_77 rfl (lv_at hl 3 rfl) ?_
            obtain ⟨⟨x23, st24⟩, hc, h⟩ := ob h
            refine sV_i (As := [.int v14]) (rest := []) ⟨hx, hb, hml, hown, hts⟩ (cm_done l G Zd q v14 v15 x23 st24 hc _) (kw_V (n := 1) hts k1460 k1457 k15 k1459 ks70 (by decide +kernel) ⟨Nat.le_of_ble_eq_true rfl, Nat.le_of_ble_eq_true rfl⟩) hP hD hK hS hA hZ (va_recv (ci := 13) (q0 := 0) hK hP rfl rfl) rfl hl.1 rfl (Nat.le_of_ble_eq_true rfl) d15_51_78 ⟨Nat.le_of_ble_eq_true rfl, Nat.le_of_ble_eq_true rfl⟩ (fun rr u9 H locs hp hP hD hS => ?_)
            clear u9
            subst rr
            clear hc
            refine W.eq (g2 := F0 m 81 ls [.int x23]) rfl ?_
            have hP : va_P G.1 vwCl (wMs q G.2 st24) H := hP
            have hD : va_D A (wMs q G.2 st24) := hD
            refine lv_if_ne (tgt := 89) hx hb d15_51_81 rfl (fun c26 => ?_) (fun c26 => ?_)
            ·
              replace h := (if_neg c26).symm.trans h
              refine lv_aload_n hx hb d15_51_89 rfl (lv_at hl 0 rfl) ?_
              obtain ⟨x27, hc, h⟩ := ob h
              refine sV_i (As := []) (rest := []) ⟨hx, hb, hml, hown, hts⟩ (cm_fits l G Zd q st24 x27 hc _) (kw_V (n := 0) hts k1526 k1523 k15 k1525 ks84 (by decide +kernel) ⟨Nat.le_of_ble_eq_true rfl, Nat.le_of_ble_eq_true rfl⟩) hP hD hK hS hA hZ (va_recv (ci := 13) (q0 := 0) hK hP rfl rfl) rfl hl.1 rfl (Nat.le_of_ble_eq_true rfl) d15_51_90 ⟨Nat.le_of_ble_eq_true rfl, Nat.le_of_ble_eq_true rfl⟩ (fun rr u9 H locs hp hP hD hS => ?_)
              clear u9
              subst rr
              clear hc
              refine W.eq (g2 := F0 m 93 ls [.int x27]) rfl ?_
              have hP : va_P G.1 vwCl (wMs q G.2 st24) H := hP
              have hD : va_D A (wMs q G.2 st24) := hD
              refine lv_if_ne (tgt := 99) hx hb d15_51_93 rfl (fun c30 => ?_) (fun c30 => ?_)
              ·
                replace h := (if_neg c30).symm.trans h
                refine lv_iinc (k := 2) (v := v13 + 1) (lv' := [(2, .int (v13 + 1)), (0, .ref (q 0)), (1, .int x1), (3, .int v14)]) hx hb d15_51_99 hl rfl (by first | decide | rfl) (by decide) rfl (fun ls hl => ?_)
                refine lv_iload_n hx hb d15_51_102 rfl (lv_at hl 3 rfl) ?_
                refine lv_aload_n hx hb d15_51_103 rfl (lv_at hl 1 rfl) ?_
                refine va_get (D := G.1) (ci := 13) (v := .ref (q 3)) (C := r_13) (T := f_13) (N := 42) (ref := "PagedValuesModel") hx hb hts (fun w h => List.mem_cons_of_mem _ (ly_13 w h)) hown hK hP 0 rfl rfl 5 (by decide) (hts _ (List.mem_cons_of_mem _ k1156)) (fun _ h9 => h9) rfl d15_51_104 ?_
                refine lv_iload_n hx hb d15_51_107 rfl (lv_at hl 3 rfl) ?_
                obtain ⟨x31, hr, h⟩ := ob h
                obtain ⟨hi, hv⟩ := rd_some hr
                refine va_bald (D := G.1) hx hb hK hP 3 2 rfl rfl (i := v14) hi d15_51_108 ?_
                refine lv_topi (fun y9 ey => ?_)
                have e9 := ey.trans hv
                clear ey
                subst y9
                clear hv hi hr
                refine lv_iadd hx hb d15_51_109 ?_
                obtain ⟨y32, hr, h⟩ := ob h
                refine lv_topi (fun y9 ey => ?_)
                have e9 := ey.trans (Option.some.inj hr)
                clear ey
                subst y9
                clear hr
                refine lv_istore_n (lv' := [(3, .int y32), (2, .int (v13 + 1)), (0, .ref (q 0)), (1, .int x1)]) hx hb d15_51_110 rfl hl (by decide) rfl (fun ls hl => ?_)
                refine lv_goto (tgt := 64) hx hb d15_51_111 rfl ?_
                have hl := lv_sub hl (l' := [(0, .ref (q 0)), (1, .int x1), (2, .int (v13 + 1)), (3, .int y32)]) [2, 3, 1, 0] rfl
                exact ih _ _ _ h _ _ _ hl hP hD hS
              ·
                replace h := (if_pos c30).symm.trans h
                refine lv_bipush (v := (-5)) hx hb d15_51_96 (by decide) ?_
                cases h
                cases hrest
                exact fin_i hx hb hr hlk hS () rfl hP hD (Nat.le_of_ble_eq_true rfl) (Nat.le_of_ble_eq_true rfl) d15_51_98
            ·
              replace h := (if_pos c26).symm.trans h
              refine lv_bipush (v := (-10)) hx hb d15_51_84 (by decide) ?_
              refine lv_iload_n hx hb d15_51_86 rfl (lv_at hl 2 rfl) ?_
              refine lv_isub hx hb d15_51_87 ?_
              obtain ⟨y33, hr, h⟩ := ob h
              refine lv_topi (fun y9 ey => ?_)
              have e9 := ey.trans (Option.some.inj hr)
              clear ey
              subst y9
              clear hr
              cases h
              cases hrest
              exact fin_i hx hb hr hlk hS () rfl hP hD (Nat.le_of_ble_eq_true rfl) (Nat.le_of_ble_eq_true rfl) d15_51_88
      have hl := lv_sub hl (l' := [(0, .ref (q 0)), (1, .int x1), (2, .int 0), (3, .int y11)]) [2, 3, 1, 0] rfl
      exact hloop _ _ _ _ hX _ _ _ hl hP hD hS
    have hloop : ∀ (n9 : Nat) (v8 : Int32), m_operate_l1 st x1 n9 (v8) = some e7 → ∀ (H : Heap) (locs : List Loc) (ls : Array Slot), lv_has ls 4 [(0, .ref (q 0)), (1, .int x1), (2, .int v8)] → va_P G.1 vwCl (wMs q G.2 st) H → va_D A (wMs q G.2 st) → va_S A s.heap H locs → W p l e (rmD 7 0 0) s m ([.ref (q 0)] : List Value).toArray below meth c H locs 0 0 (MQ below (qI G (fun rr (_ : Unit) => rr = r0) (fun _ => (wMs q G.2 st0)) A) ([.ref (q 0)] : List Value).toArray s 0 0 A) (F0 m 23 ls []) := by
      intro n9
      induction n9 with
      | zero =>
        intro v8 h
        cases h
      | succ n9 ih =>
        intro v8 h H locs ls hl hP hD hS
        replace h := (m_operate_l1_s st x1 n9 (v8)).symm.trans h
        refine lv_iload_n hx hb d15_51_23 rfl (lv_at hl 2 rfl) ?_
        refine lv_iload_n hx hb d15_51_24 rfl (lv_at hl 1 rfl) ?_
        refine lv_aload_n hx hb d15_51_25 rfl (lv_at hl 0 rfl) ?_
        refine va_get (D := G.1) (ci := 13) (v := .ref (q 3)) (C := r_13) (T := f_13) (N := 42) (ref := "PagedValuesModel") hx hb hts (fun w h => List.mem_cons_of_mem _ (ly_13 w h)) hown hK hP 0 rfl rfl 5 (by decide) (hts _ (List.mem_cons_of_mem _ k1156)) (fun _ h9 => h9) rfl d15_51_26 ?_
        refine lv_iload_n hx hb d15_51_29 rfl (lv_at hl 1 rfl) ?_
        obtain ⟨x34, hr, h⟩ := ob h
        obtain ⟨hi, hv⟩ := rd_some hr
        refine va_bald (D := G.1) hx hb hK hP 3 2 rfl rfl (i := x1) hi d15_51_30 ?_
        refine lv_topi (fun y9 ey => ?_)
        have e9 := ey.trans hv
        clear ey
        subst y9
        clear hv hi hr
        refine lv_iadd hx hb d15_51_31 ?_
        obtain ⟨y35, hr, h⟩ := ob h
        refine lv_topi (fun y9 ey => ?_)
        have e9 := ey.trans (Option.some.inj hr)
        clear ey
        subst y9
        clear hr
        refine lv_icmp_ge (tgt := 58) hx hb d15_51_32 rfl (fun c36 => ?_) (fun c36 => ?_)
        ·
          replace h := (if_pos c36).symm.trans h
          have e9 := Option.some.inj h
          subst e7
          have hl := lv_sub hl (l' := [(0, .ref (q 0)), (1, .int x1), (2, .int v8)]) [0, 1, 2] rfl
          exact hj _ rfl _ _ _ hl hP hD hS
        ·
          replace h := (if_neg c36).symm.trans h
          refine lv_aload_n hx hb d15_51_35 rfl (lv_at hl 0 rfl) ?_
          refine lv_iload_n hx hb d15_51_36 rfl (lv_at hl 2 rfl) ?_
          obtain ⟨x37, hc, h⟩ := ob h
          refine sV_i (As := [.int v8]) (rest := []) ⟨hx, hb, hml, hown, hts⟩ (cm_formed l G Zd q v8 st x37 hc _) (kw_V (n := 1) hts k1440 k1437 k15 k1439 ks67 (by decide +kernel) ⟨Nat.le_of_ble_eq_true rfl, Nat.le_of_ble_eq_true rfl⟩) hP hD hK hS hA hZ (va_recv (ci := 13) (q0 := 0) hK hP rfl rfl) rfl hl.1 rfl (Nat.le_of_ble_eq_true rfl) d15_51_37 ⟨Nat.le_of_ble_eq_true rfl, Nat.le_of_ble_eq_true rfl⟩ (fun rr u9 H locs hp hP hD hS => ?_)
          clear u9
          subst rr
          clear hc
          refine W.eq (g2 := F0 m 40 ls [.int x37]) rfl ?_
          have hP : va_P G.1 vwCl (wMs q G.2 st) H := hP
          have hD : va_D A (wMs q G.2 st) := hD
          refine lv_if_ne (tgt := 46) hx hb d15_51_40 rfl (fun c40 => ?_) (fun c40 => ?_)
          ·
            replace h := (if_neg c40).symm.trans h
            refine lv_iload_n hx hb d15_51_46 rfl (lv_at hl 2 rfl) ?_
            refine lv_aload_n hx hb d15_51_47 rfl (lv_at hl 0 rfl) ?_
            refine va_get (D := G.1) (ci := 13) (v := .ref (q 3)) (C := r_13) (T := f_13) (N := 42) (ref := "PagedValuesModel") hx hb hts (fun w h => List.mem_cons_of_mem _ (ly_13 w h)) hown hK hP 0 rfl rfl 5 (by decide) (hts _ (List.mem_cons_of_mem _ k1156)) (fun _ h9 => h9) rfl d15_51_48 ?_
            refine lv_iload_n hx hb d15_51_51 rfl (lv_at hl 2 rfl) ?_
            obtain ⟨x41, hr, h⟩ := ob h
            obtain ⟨hi, hv⟩ := rd_some hr
            refine va_bald (D := G.1) hx hb hK hP 3 2 rfl rfl (i := v8) hi d15_51_52 ?_
            refine lv_topi (fun y9 ey => ?_)
            have e9 := ey.trans hv
            clear ey
            subst y9
            clear hv hi hr
            refine lv_iadd hx hb d15_51_53 ?_
            obtain ⟨y42, hr, h⟩ := ob h
            refine lv_topi (fun y9 ey => ?_)
            have e9 := ey.trans (Option.some.inj hr)
            clear ey
            subst y9
            clear hr
            refine lv_istore_n (lv' := [(2, .int y42), (0, .ref (q 0)), (1, .int x1)]) hx hb d15_51_54 rfl hl (by decide) rfl (fun ls hl => ?_)
            refine lv_goto (tgt := 23) hx hb d15_51_55 rfl ?_
            have hl := lv_sub hl (l' := [(0, .ref (q 0)), (1, .int x1), (2, .int y42)]) [1, 2, 0] rfl
            exact ih _ h _ _ _ hl hP hD hS
          ·
            replace h := (if_pos c40).symm.trans h
            refine lv_bipush (v := (-3)) hx hb d15_51_43 (by decide) ?_
            cases h
            cases hrest
            exact fin_i hx hb hr hlk hS () rfl hP hD (Nat.le_of_ble_eq_true rfl) (Nat.le_of_ble_eq_true rfl) d15_51_45
    have hl := lv_sub hl (l' := [(0, .ref (q 0)), (1, .int x1), (2, .int y6)]) [2, 1, 0] rfl
    exact hloop _ _ hX _ _ _ hl hP hD hS
  ·
    replace h := (if_neg c5).symm.trans h
    refine lv_bipush (v := (-3)) hx hb d15_51_16 (by decide) ?_
    cases h
    exact fin_i hx hb hr hlk hS () rfl hP hD (Nat.le_of_ble_eq_true rfl) (Nat.le_of_ble_eq_true rfl) d15_51_18
def m_patch (a0 : Int32) (st : MS) : Option (Int32 × MS) := (m_current st).bind fun x1 => (rd (st.2.2.1 15) 2 x1).bind fun x4 => (m_rowOf x4 a0 st).bind fun x5 => if (st.1 13) = (0 : Int32) then (if (0 : Int32) ≤ x5 then ((m_readValue st).bind fun st14 => if (st14.1 2) < (0 : Int32) then ((m_copyRow x5 (81 : Int32) (upd st14.1 0 0, st14.2.1, st14.2.2.1, st14.2.2.2)).bind fun st18 => (m_operate st18).bind fun r22 => (if r22.1 = (0 : Int32) then ((m_change a0 (81 : Int32) r22.2).bind fun r36 => some (r36.1, r36.2)) else (some (r22.1, r22.2))).bind fun e24 => (if e24.1 = (0 : Int32) then ((m_at (81 : Int32)).bind fun x30 => (rd (e24.2.2.2.1 2) 2100 x30).bind fun x33 => some x33) else (some e24.1)).bind fun e28 => some (e28, e24.2)) else ((some ((-100) - (st14.1 2))).bind fun y37 => some (y37, (upd st14.1 0 0, st14.2.1, st14.2.2.1, st14.2.2.2)))) else ((if (st.1 13) = (0 : Int32) then (some ((-1) : Int32)) else (some ((-9) : Int32))).bind fun e39 => some (e39, st))) else ((if (st.1 13) = (0 : Int32) then (some ((-1) : Int32)) else (some ((-9) : Int32))).bind fun e10 => some (e10, st))
set_option maxHeartbeats 4000000 in
set_option maxRecDepth 100000 in
theorem cm_patch (l : Launch) (G : Gk) (Zd : Nat → Nat) (q : Nat → Nat) (a0 : Int32) (st : MS) (r0 : Int32) (st0 : MS) (hm : m_patch a0 st = some (r0, st0)) (sz : Nat) : Met l y15_63 (Cond.code y15_63 prog_15_method_63_code 4 (some .int) :: TB) (rmD 8 0 0) (va_Pc [.ref (q 0), .int a0] (pcW G Zd (wMs q G.2 st) sz)) (qI G (fun rr (_ : Unit) => rr = r0) (fun _ => (wMs q G.2 st0)) (va_A (wMs q G.2 st) sz)) 0 0 (va_A (wMs q G.2 st) sz) := by
  refine go (y := y15_63) (cc := prog_15_method_63_code) (maxL := 4) (ret := (some .int)) (av := [.ref (q 0), .int a0]) (Qc := qI G (fun rr (_ : Unit) => rr = r0) (fun _ => (wMs q G.2 st0))) "PagedValuesModel" rfl (by decide) (Nat.le_of_ble_eq_true rfl) ?_
  intro p e s m below meth c ls A hx hb hr hlk hml hown hts hin hl hP hD hK hS hA hZ
  have hl : lv_has ls 4 [(0, .ref (q 0)), (1, .int a0)] := hl
  have h := hm
  clear hm
  refine lv_aload_n hx hb d15_63_0 rfl (lv_at hl 0 rfl) ?_
  refine lv_aload_n hx hb d15_63_1 rfl (lv_at hl 0 rfl) ?_
  refine va_get (D := G.1) (ci := 13) (v := .ref (q 22)) (C := r_13) (T := f_13) (N := 42) (ref := "PagedValuesModel") hx hb hts (fun w h => List.mem_cons_of_mem _ (ly_13 w h)) hown hK hP 0 rfl rfl 35 (by decide) (hts _ (List.mem_cons_of_mem _ k1186)) (fun _ h9 => h9) rfl d15_63_2 ?_
  refine lv_aload_n hx hb d15_63_5 rfl (lv_at hl 0 rfl) ?_
  obtain ⟨x1, hc, h⟩ := ob h
  refine sV_i (As := []) (rest := [.ref (q 22), .ref (q 0)]) ⟨hx, hb, hml, hown, hts⟩ (cm_current l G Zd q st x1 hc _) (kw_V (n := 0) hts k1396 k1393 k15 k1395 ks57 (by decide +kernel) ⟨Nat.le_of_ble_eq_true rfl, Nat.le_of_ble_eq_true rfl⟩) hP hD hK hS hA hZ (va_recv (ci := 13) (q0 := 0) hK hP rfl rfl) rfl hl.1 rfl (Nat.le_of_ble_eq_true rfl) d15_63_6 ⟨Nat.le_of_ble_eq_true rfl, Nat.le_of_ble_eq_true rfl⟩ (fun rr u9 H locs hp hP hD hS => ?_)
  clear u9
  subst rr
  clear hc
  refine W.eq (g2 := F0 m 9 ls [.int x1, .ref (q 22), .ref (q 0)]) rfl ?_
  have hP : va_P G.1 vwCl (wMs q G.2 st) H := hP
  have hD : va_D A (wMs q G.2 st) := hD
  obtain ⟨x4, hr, h⟩ := ob h
  obtain ⟨hi, hv⟩ := rd_some hr
  refine va_iald (D := G.1) hx hb hK hP 22 1 rfl rfl (i := x1) hi d15_63_9 ?_
  refine lv_topi (fun y9 ey => ?_)
  have e9 := ey.trans hv
  clear ey
  subst y9
  clear hv hi hr
  refine lv_iload_n hx hb d15_63_10 rfl (lv_at hl 1 rfl) ?_
  obtain ⟨x5, hc, h⟩ := ob h
  refine sV_i (As := [.int x4, .int a0]) (rest := []) ⟨hx, hb, hml, hown, hts⟩ (cm_rowOf l G Zd q x4 a0 st x5 hc _) (kw_V (n := 2) hts k1400 k1397 k15 k1399 ks58 (by decide +kernel) ⟨Nat.le_of_ble_eq_true rfl, Nat.le_of_ble_eq_true rfl⟩) hP hD hK hS hA hZ (va_recv (ci := 13) (q0 := 0) hK hP rfl rfl) rfl hl.1 rfl (Nat.le_of_ble_eq_true rfl) d15_63_11 ⟨Nat.le_of_ble_eq_true rfl, Nat.le_of_ble_eq_true rfl⟩ (fun rr u9 H locs hp hP hD hS => ?_)
  clear u9
  subst rr
  clear hc
  refine W.eq (g2 := F0 m 14 ls [.int x5]) rfl ?_
  have hP : va_P G.1 vwCl (wMs q G.2 st) H := hP
  have hD : va_D A (wMs q G.2 st) := hD
  refine lv_istore_n (lv' := [(2, .int x5), (0, .ref (q 0)), (1, .int a0)]) hx hb d15_63_14 rfl hl (by decide) rfl (fun ls hl => ?_)
  refine lv_aload_n hx hb d15_63_15 rfl (lv_at hl 1 rfl) ?_
  refine va_get (D := G.1) (ci := 13) (v := .int (st.1 13)) (C := r_13) (T := f_13) (N := 42) (ref := "PagedValuesModel") hx hb hts (fun w h => List.mem_cons_of_mem _ (ly_13 w h)) hown hK hP 0 rfl rfl 40 (by decide) (hts _ (List.mem_cons_of_mem _ k1191)) (fun _ h9 => h9) rfl d15_63_16 ?_
  refine lv_if_ne (tgt := 26) hx hb d15_63_19 rfl (fun c8 => ?_) (fun c8 => ?_)
  ·
    replace h := (if_neg c8).symm.trans h
    refine lv_aload_n hx hb d15_63_26 rfl (lv_at hl 1 rfl) ?_
    refine va_get (D := G.1) (ci := 13) (v := .int (st.1 13)) (C := r_13) (T := f_13) (N := 42) (ref := "PagedValuesModel") hx hb hts (fun w h => List.mem_cons_of_mem _ (ly_13 w h)) hown hK hP 0 rfl rfl 40 (by decide) (hts _ (List.mem_cons_of_mem _ k1191)) (fun _ h9 => h9) rfl d15_63_27 ?_
    obtain ⟨e10, hX, h⟩ := ob h
    have hj : ∀ (H : Heap) (locs : List Loc) (ls : Array Slot), lv_has ls 4 [(0, .ref (q 0)), (1, .int a0), (2, .int x5)] → va_P G.1 vwCl (wMs q G.2 st) H → va_D A (wMs q G.2 st) → va_S A s.heap H locs → W p l e (rmD 8 0 0) s m ([.ref (q 0), .int a0] : List Value).toArray below meth c H locs 0 0 (MQ below (qI G (fun rr (_ : Unit) => rr = r0) (fun _ => (wMs q G.2 st0)) A) ([.ref (q 0), .int a0] : List Value).toArray s 0 0 A) (F0 m 39 ls [.int e10]) := by
      intro H locs ls hl hP hD hS
      cases h
      exact fin_i hx hb hr hlk hS () rfl hP hD (Nat.le_of_ble_eq_true rfl) (Nat.le_of_ble_eq_true rfl) d15_63_39
    clear h
    refine lv_if_eq (tgt := 38) hx hb d15_63_30 rfl (fun c9 => ?_) (fun c9 => ?_)
    ·
      replace h := (if_pos c9).symm.trans hX
      refine lv_iconst (v := (-1)) hx hb d15_63_38 (by decide) ?_
      have e9 := Option.some.inj h
      subst e10
      have hl := lv_sub hl (l' := [(0, .ref (q 0)), (1, .int a0), (2, .int x5)]) [1, 2, 0] rfl
      exact hj _ _ _ hl hP hD hS
    ·
      replace h := (if_neg c9).symm.trans hX
      refine lv_bipush (v := (-9)) hx hb d15_63_33 (by decide) ?_
      refine lv_goto (tgt := 39) hx hb d15_63_35 rfl ?_
      have e9 := Option.some.inj h
      subst e10
      have hl := lv_sub hl (l' := [(0, .ref (q 0)), (1, .int a0), (2, .int x5)]) [1, 2, 0] rfl
      exact hj _ _ _ hl hP hD hS
  ·
    replace h := (if_pos c8).symm.trans h
    refine lv_iload_n hx hb d15_63_22 rfl (lv_at hl 0 rfl) ?_
    refine lv_if_ge (tgt := 40) hx hb d15_63_23 rfl (fun c12 => ?_) (fun c12 => ?_)
    ·
      replace h := (if_pos c12).symm.trans h
      refine lv_aload_n hx hb d15_63_40 rfl (lv_at hl 1 rfl) ?_
      obtain ⟨st14, hc, h⟩ := ob h
      refine sV_v (As := []) (rest := []) ⟨hx, hb, hml, hown, hts⟩ (cm_readValue l G Zd q st st14 hc _) (kw_V (n := 0) hts k1293 k1290 k15 k1292 ks34 (by decide +kernel) ⟨Nat.le_of_ble_eq_true rfl, Nat.le_of_ble_eq_true rfl⟩) hP hD hK hS hA hZ (va_recv (ci := 13) (q0 := 0) hK hP rfl rfl) rfl hl.1 rfl (Nat.le_of_ble_eq_true rfl) d15_63_41 ⟨Nat.le_of_ble_eq_true rfl, Nat.le_of_ble_eq_true rfl⟩ (fun u9 H locs hp hP hD hS => ?_)
      clear u9
      clear hp
      clear hc
      refine W.eq (g2 := F0 m 44 ls []) rfl ?_
      have hP : va_P G.1 vwCl (wMs q G.2 st14) H := hP
      have hD : va_D A (wMs q G.2 st14) := hD
      refine lv_aload_n hx hb d15_63_44 rfl (lv_at hl 1 rfl) ?_
      refine lv_iconst (v := 0) hx hb d15_63_45 (by decide) ?_
      refine va_put (D := G.1) (ci := 13) (v := .int 0) (ty := .int) (C := r_13) (T := f_13) (N := 42) (ref := "PagedValuesModel") hx hb hts (fun w h => List.mem_cons_of_mem _ (ly_13 w h)) ft_13 ft_13_ok nm_13 hown hK hP hD hS 0 rfl rfl 1 (by decide) (hts _ (List.mem_cons_of_mem _ k1152)) (fun _ h9 => h9) rfl (by decide +kernel) rfl rfl (Nat.le_of_ble_eq_true rfl) d15_63_46 (fun H locs hP hD hS => ?_)
      have hP : va_P G.1 vwCl (wMs q G.2 (upd st14.1 0 0, st14.2.1, st14.2.2.1, st14.2.2.2)) H := hP
      have hD : va_D A (wMs q G.2 (upd st14.1 0 0, st14.2.1, st14.2.2.1, st14.2.2.2)) := hD
      refine lv_aload_n hx hb d15_63_49 rfl (lv_at hl 1 rfl) ?_
      refine va_get (D := G.1) (ci := 13) (v := .int (st14.1 2)) (C := r_13) (T := f_13) (N := 42) (ref := "PagedValuesModel") hx hb hts (fun w h => List.mem_cons_of_mem _ (ly_13 w h)) hown hK hP 0 rfl rfl 3 (by decide) (hts _ (List.mem_cons_of_mem _ k1154)) (fun _ h9 => h9) rfl d15_63_50 ?_
      refine lv_if_lt (tgt := 64) hx hb d15_63_53 rfl (fun c16 => ?_) (fun c16 => ?_)
      ·
        replace h := (if_pos c16).symm.trans h
        refine lv_aload_n hx hb d15_63_64 rfl (lv_at hl 1 rfl) ?_
        refine lv_iload_n hx hb d15_63_65 rfl (lv_at hl 0 rfl) ?_
        refine lv_bipush (v := 81) hx hb d15_63_66 (by decide) ?_
        obtain ⟨st18, hc, h⟩ := ob h
        refine sV_v (As := [.int x5, .int 81]) (rest := []) ⟨hx, hb, hml, hown, hts⟩ (cm_copyRow l G Zd q x5 (81 : Int32) (upd st14.1 0 0, st14.2.1, st14.2.2.1, st14.2.2.2) st18 hc _) (kw_V (n := 2) hts k1420 k1417 k15 k1419 ks63 (by decide +kernel) ⟨Nat.le_of_ble_eq_true rfl, Nat.le_of_ble_eq_true rfl⟩) hP hD hK hS hA hZ (va_recv (ci := 13) (q0 := 0) hK hP rfl rfl) rfl hl.1 rfl (Nat.le_of_ble_eq_true rfl) d15_63_68 ⟨Nat.le_of_ble_eq_true rfl, Nat.le_of_ble_eq_true rfl⟩ (fun u9 H locs hp hP hD hS => ?_)
        clear u9
        clear hp
        clear hc
        refine W.eq (g2 := F0 m 71 ls []) rfl ?_
        have hP : va_P G.1 vwCl (wMs q G.2 st18) H := hP
        have hD : va_D A (wMs q G.2 st18) := hD
        refine lv_aload_n hx hb d15_63_71 rfl (lv_at hl 1 rfl) ?_
        obtain ⟨⟨x20, st21⟩, hc, h⟩ := ob h
        refine sV_i (As := []) (rest := []) ⟨hx, hb, hml, hown, hts⟩ (cm_operate l G Zd q st18 x20 st21 hc _) (kw_V (n := 0) hts k1436 k1433 k15 k1435 ks66 (by decide +kernel) ⟨Nat.le_of_ble_eq_true rfl, Nat.le_of_ble_eq_true rfl⟩) hP hD hK hS hA hZ (va_recv (ci := 13) (q0 := 0) hK hP rfl rfl) rfl hl.1 rfl (Nat.le_of_ble_eq_true rfl) d15_63_72 ⟨Nat.le_of_ble_eq_true rfl, Nat.le_of_ble_eq_true rfl⟩ (fun rr u9 H locs hp hP hD hS => ?_)
        clear u9
        subst rr
        clear hc
        refine W.eq (g2 := F0 m 75 ls [.int x20]) rfl ?_
        have hP : va_P G.1 vwCl (wMs q G.2 st21) H := hP
        have hD : va_D A (wMs q G.2 st21) := hD
        refine lv_istore_n (lv' := [(3, .int x20), (2, .int x5), (0, .ref (q 0)), (1, .int a0)]) hx hb d15_63_75 rfl hl (by decide) rfl (fun ls hl => ?_)
        refine lv_iload_n hx hb d15_63_76 rfl (lv_at hl 0 rfl) ?_
        obtain ⟨e24, hX, h⟩ := ob h
        obtain ⟨v25, v26⟩ := e24
        have hj : ∀ (H : Heap) (locs : List Loc) (ls : Array Slot), lv_has ls 4 [(0, .ref (q 0)), (1, .int a0), (2, .int x5), (3, .int x20)] → va_P G.1 vwCl (wMs q G.2 v26) H → va_D A (wMs q G.2 v26) → va_S A s.heap H locs → W p l e (rmD 8 0 0) s m ([.ref (q 0), .int a0] : List Value).toArray below meth c H locs 0 0 (MQ below (qI G (fun rr (_ : Unit) => rr = r0) (fun _ => (wMs q G.2 st0)) A) ([.ref (q 0), .int a0] : List Value).toArray s 0 0 A) (F0 m 91 ls [.int v25]) := by
          intro H locs ls hl hP hD hS
          refine lv_istore_n (lv' := [(3, .int v25), (0, .ref (q 0)), (1, .int a0), (2, .int x5)]) hx hb d15_63_91 rfl hl (by decide) rfl (fun ls hl => ?_)
          refine lv_iload_n hx hb d15_63_92 rfl (lv_at hl 0 rfl) ?_
          obtain ⟨e28, hX, h⟩ := ob h
          have hj : ∀ (H : Heap) (locs : List Loc) (ls : Array Slot), lv_has ls 4 [(0, .ref (q 0)), (1, .int a0), (2, .int x5), (3, .int v25)] → va_P G.1 vwCl (wMs q G.2 v26) H → va_D A (wMs q G.2 v26) → va_S A s.heap H locs → W p l e (rmD 8 0 0) s m ([.ref (q 0), .int a0] : List Value).toArray below meth c H locs 0 0 (MQ below (qI G (fun rr (_ : Unit) => rr = r0) (fun _ => (wMs q G.2 st0)) A) ([.ref (q 0), .int a0] : List Value).toArray s 0 0 A) (F0 m 110 ls [.int e28]) := by
            intro H locs ls hl hP hD hS
            cases h
            exact fin_i hx hb hr hlk hS () rfl hP hD (Nat.le_of_ble_eq_true rfl) (Nat.le_of_ble_eq_true rfl) d15_63_110
          clear h
          refine lv_if_eq (tgt := 100) hx hb d15_63_93 rfl (fun c27 => ?_) (fun c27 => ?_)
          ·
            replace h := (if_pos c27).symm.trans hX
            refine lv_aload_n hx hb d15_63_100 rfl (lv_at hl 1 rfl) ?_
            refine va_get (D := G.1) (ci := 13) (v := .ref (q 3)) (C := r_13) (T := f_13) (N := 42) (ref := "PagedValuesModel") hx hb hts (fun w h => List.mem_cons_of_mem _ (ly_13 w h)) hown hK hP 0 rfl rfl 5 (by decide) (hts _ (List.mem_cons_of_mem _ k1156)) (fun _ h9 => h9) rfl d15_63_101 ?_
            refine lv_bipush (v := 81) hx hb d15_63_104 (by decide) ?_
            obtain ⟨x30, hc, h⟩ := ob h
            refine sS_i (As := [.int 81]) (rest := [.ref (q 3)]) ⟨hx, hb, hml, hown, hts⟩ (cm_at l G Zd _ (81 : Int32) x30 hc _) (kw_S (n := 1) hts k1312 k1310 k15 k1311 (by decide +kernel) ⟨Nat.le_of_ble_eq_true rfl, Nat.le_of_ble_eq_true rfl⟩) hP hD hK hS hA hZ rfl hl.1 rfl (Nat.le_of_ble_eq_true rfl) d15_63_106 ⟨Nat.le_of_ble_eq_true rfl, Nat.le_of_ble_eq_true rfl⟩ (fun rr u9 H locs hp hP hD hS => ?_)
            clear u9
            subst rr
            clear hc
            refine W.eq (g2 := F0 m 109 ls [.int x30, .ref (q 3)]) rfl ?_
            have hP : va_P G.1 vwCl (wMs q G.2 v26) H := hP
            have hD : va_D A (wMs q G.2 v26) := hD
            obtain ⟨x33, hr, h⟩ := ob h
            obtain ⟨hi, hv⟩ := rd_some hr
            refine va_bald (D := G.1) hx hb hK hP 3 2 rfl rfl (i := x30) hi d15_63_109 ?_
            refine lv_topi (fun y9 ey => ?_)
            have e9 := ey.trans hv
            clear ey
            subst y9
            clear hv hi hr
            have e9 := Option.some.inj h
            subst e28
            have hl := lv_sub hl (l' := [(0, .ref (q 0)), (1, .int a0), (2, .int x5), (3, .int v25)]) [1, 2, 3, 0] rfl
            exact hj _ _ _ hl hP hD hS
          ·
            replace h := (if_neg c27).symm.trans hX
            refine lv_iload_n hx hb d15_63_96 rfl (lv_at hl 0 rfl) ?_
            refine lv_goto (tgt := 110) hx hb d15_63_97 rfl ?_
            have e9 := Option.some.inj h
            subst e28
            have hl := lv_sub hl (l' := [(0, .ref (q 0)), (1, .int a0), (2, .int x5), (3, .int v25)]) [1, 2, 3, 0] rfl
            exact hj _ _ _ hl hP hD hS
        clear h
        refine lv_if_ne (tgt := 90) hx hb d15_63_77 rfl (fun c23 => ?_) (fun c23 => ?_)
        ·
          replace h := (if_neg c23).symm.trans hX
          refine lv_iload_n hx hb d15_63_90 rfl (lv_at hl 0 rfl) ?_
          have e9 := Option.some.inj h
          obtain ⟨q9, e9⟩ := Prod.mk.inj e9
          subst v25
          subst v26
          have hl := lv_sub hl (l' := [(0, .ref (q 0)), (1, .int a0), (2, .int x5), (3, .int x20)]) [2, 3, 1, 0] rfl
          exact hj _ _ _ hl hP hD hS
        ·
          replace h := (if_pos c23).symm.trans hX
          refine lv_aload_n hx hb d15_63_80 rfl (lv_at hl 2 rfl) ?_
          refine lv_iload_n hx hb d15_63_81 rfl (lv_at hl 3 rfl) ?_
          refine lv_bipush (v := 81) hx hb d15_63_82 (by decide) ?_
          obtain ⟨⟨x34, st35⟩, hc, h⟩ := ob h
          refine sV_i (As := [.int a0, .int 81]) (rest := []) ⟨hx, hb, hml, hown, hts⟩ (cm_change l G Zd q a0 (81 : Int32) st21 x34 st35 hc _) (kw_V (n := 2) hts k1392 k1389 k15 k1391 ks56 (by decide +kernel) ⟨Nat.le_of_ble_eq_true rfl, Nat.le_of_ble_eq_true rfl⟩) hP hD hK hS hA hZ (va_recv (ci := 13) (q0 := 0) hK hP rfl rfl) rfl hl.1 rfl (Nat.le_of_ble_eq_true rfl) d15_63_84 ⟨Nat.le_of_ble_eq_true rfl, Nat.le_of_ble_eq_true rfl⟩ (fun rr u9 H locs hp hP hD hS => ?_)
          clear u9
          subst rr
          clear hc
          refine W.eq (g2 := F0 m 87 ls [.int x34]) rfl ?_
          have hP : va_P G.1 vwCl (wMs q G.2 st35) H := hP
          have hD : va_D A (wMs q G.2 st35) := hD
          refine lv_goto (tgt := 91) hx hb d15_63_87 rfl ?_
          have e9 := Option.some.inj h
          obtain ⟨q9, e9⟩ := Prod.mk.inj e9
          subst v25
          subst v26
          have hl := lv_sub hl (l' := [(0, .ref (q 0)), (1, .int a0), (2, .int x5), (3, .int x20)]) [2, 3, 1, 0] rfl
          exact hj _ _ _ hl hP hD hS
      ·
        replace h := (if_neg c16).symm.trans h
        refine lv_bipush (v := (-100)) hx hb d15_63_56 (by decide) ?_
        refine lv_aload_n hx hb d15_63_58 rfl (lv_at hl 1 rfl) ?_
        refine va_get (D := G.1) (ci := 13) (v := .int (st14.1 2)) (C := r_13) (T := f_13) (N := 42) (ref := "PagedValuesModel") hx hb hts (fun w h => List.mem_cons_of_mem _ (ly_13 w h)) hown hK hP 0 rfl rfl 3 (by decide) (hts _ (List.mem_cons_of_mem _ k1154)) (fun _ h9 => h9) rfl d15_63_59 ?_
        refine lv_isub hx hb d15_63_62 ?_
        obtain ⟨y37, hr, h⟩ := ob h
        refine lv_topi (fun y9 ey => ?_)
        have e9 := ey.trans (Option.some.inj hr)
        clear ey
        subst y9
        clear hr
        cases h
        exact fin_i hx hb hr hlk hS () rfl hP hD (Nat.le_of_ble_eq_true rfl) (Nat.le_of_ble_eq_true rfl) d15_63_63
    ·
      replace h := (if_neg c12).symm.trans h
      refine lv_aload_n hx hb d15_63_26 rfl (lv_at hl 1 rfl) ?_
      refine va_get (D := G.1) (ci := 13) (v := .int (st.1 13)) (C := r_13) (T := f_13) (N := 42) (ref := "PagedValuesModel") hx hb hts (fun w h => List.mem_cons_of_mem _ (ly_13 w h)) hown hK hP 0 rfl rfl 40 (by decide) (hts _ (List.mem_cons_of_mem _ k1191)) (fun _ h9 => h9) rfl d15_63_27 ?_
      obtain ⟨e39, hX, h⟩ := ob h
      have hj : ∀ (H : Heap) (locs : List Loc) (ls : Array Slot), lv_has ls 4 [(0, .ref (q 0)), (1, .int a0), (2, .int x5)] → va_P G.1 vwCl (wMs q G.2 st) H → va_D A (wMs q G.2 st) → va_S A s.heap H locs → W p l e (rmD 8 0 0) s m ([.ref (q 0), .int a0] : List Value).toArray below meth c H locs 0 0 (MQ below (qI G (fun rr (_ : Unit) => rr = r0) (fun _ => (wMs q G.2 st0)) A) ([.ref (q 0), .int a0] : List Value).toArray s 0 0 A) (F0 m 39 ls [.int e39]) := by
        intro H locs ls hl hP hD hS
        cases h
        exact fin_i hx hb hr hlk hS () rfl hP hD (Nat.le_of_ble_eq_true rfl) (Nat.le_of_ble_eq_true rfl) d15_63_39
      clear h
      refine lv_if_eq (tgt := 38) hx hb d15_63_30 rfl (fun c38 => ?_) (fun c38 => ?_)
      ·
        replace h := (if_pos c38).symm.trans hX
        refine lv_iconst (v := (-1)) hx hb d15_63_38 (by decide) ?_
        have e9 := Option.some.inj h
        subst e39
        have hl := lv_sub hl (l' := [(0, .ref (q 0)), (1, .int a0), (2, .int x5)]) [1, 2, 0] rfl
        exact hj _ _ _ hl hP hD hS
      ·
        replace h := (if_neg c38).symm.trans hX
        refine lv_bipush (v := (-9)) hx hb d15_63_33 (by decide) ?_
        refine lv_goto (tgt := 39) hx hb d15_63_35 rfl ?_
        have e9 := Option.some.inj h
        subst e39
        have hl := lv_sub hl (l' := [(0, .ref (q 0)), (1, .int a0), (2, .int x5)]) [1, 2, 0] rfl
        exact hj _ _ _ hl hP hD hS
theorem d15_64_0 : decode prog_15_method_64_code 0 = .ok (.aload_n 0, 1) := by decide +kernel
theorem d15_64_1 : decode prog_15_method_64_code 1 = .ok (.aload_n 0, 1) := by decide +kernel
theorem d15_64_2 : decode prog_15_method_64_code 2 = .ok (.getfield 77, 3) := by decide +kernel
theorem d15_64_5 : decode prog_15_method_64_code 5 = .ok (.aload_n 0, 1) := by decide +kernel
theorem d15_64_6 : decode prog_15_method_64_code 6 = .ok (.invokevirtual 312, 3) := by decide +kernel
theorem d15_64_9 : decode prog_15_method_64_code 9 = .ok (.iaload, 1) := by decide +kernel
theorem d15_64_10 : decode prog_15_method_64_code 10 = .ok (.iload_n 1, 1) := by decide +kernel
theorem d15_64_11 : decode prog_15_method_64_code 11 = .ok (.invokevirtual 299, 3) := by decide +kernel
theorem d15_64_14 : decode prog_15_method_64_code 14 = .ok (.istore_n 2, 1) := by decide +kernel
theorem d15_64_15 : decode prog_15_method_64_code 15 = .ok (.aload_n 0, 1) := by decide +kernel
theorem d15_64_16 : decode prog_15_method_64_code 16 = .ok (.getfield 308, 3) := by decide +kernel
theorem d15_64_19 : decode prog_15_method_64_code 19 = .ok (.ifCond .ne 7, 3) := by decide +kernel
theorem d15_64_26 : decode prog_15_method_64_code 26 = .ok (.aload_n 0, 1) := by decide +kernel
theorem d15_64_27 : decode prog_15_method_64_code 27 = .ok (.getfield 308, 3) := by decide +kernel
theorem d15_64_30 : decode prog_15_method_64_code 30 = .ok (.ifCond .eq 8, 3) := by decide +kernel
theorem d15_64_38 : decode prog_15_method_64_code 38 = .ok (.iconst (-1), 1) := by decide +kernel
theorem d15_64_33 : decode prog_15_method_64_code 33 = .ok (.bipush (-9), 2) := by decide +kernel
theorem d15_64_35 : decode prog_15_method_64_code 35 = .ok (.goto 4, 3) := by decide +kernel
theorem d15_64_39 : decode prog_15_method_64_code 39 = .ok (.ireturn, 1) := by decide +kernel
theorem d15_64_22 : decode prog_15_method_64_code 22 = .ok (.iload_n 2, 1) := by decide +kernel
theorem d15_64_23 : decode prog_15_method_64_code 23 = .ok (.ifCond .ge 17, 3) := by decide +kernel
theorem d15_64_40 : decode prog_15_method_64_code 40 = .ok (.aload_n 0, 1) := by decide +kernel
theorem d15_64_41 : decode prog_15_method_64_code 41 = .ok (.iload_n 1, 1) := by decide +kernel
theorem d15_64_42 : decode prog_15_method_64_code 42 = .ok (.iconst (-1), 1) := by decide +kernel
theorem d15_64_43 : decode prog_15_method_64_code 43 = .ok (.invokevirtual 332, 3) := by decide +kernel
theorem d15_64_46 : decode prog_15_method_64_code 46 = .ok (.istore_n 3, 1) := by decide +kernel
theorem d15_64_47 : decode prog_15_method_64_code 47 = .ok (.iload_n 3, 1) := by decide +kernel
theorem d15_64_48 : decode prog_15_method_64_code 48 = .ok (.ifCond .eq 7, 3) := by decide +kernel
theorem d15_64_55 : decode prog_15_method_64_code 55 = .ok (.aload_n 0, 1) := by decide +kernel
theorem d15_64_56 : decode prog_15_method_64_code 56 = .ok (.aload_n 0, 1) := by decide +kernel
theorem d15_64_57 : decode prog_15_method_64_code 57 = .ok (.getfield 77, 3) := by decide +kernel
theorem d15_64_60 : decode prog_15_method_64_code 60 = .ok (.aload_n 0, 1) := by decide +kernel
theorem d15_64_61 : decode prog_15_method_64_code 61 = .ok (.invokevirtual 312, 3) := by decide +kernel
theorem d15_64_64 : decode prog_15_method_64_code 64 = .ok (.iaload, 1) := by decide +kernel
theorem d15_57_0 : decode prog_15_method_57_code 0 = .ok (.iconst 0, 1) := by decide +kernel
theorem d15_57_1 : decode prog_15_method_57_code 1 = .ok (.istore_n 2, 1) := by decide +kernel
theorem d15_57_2 : decode prog_15_method_57_code 2 = .ok (.iconst 0, 1) := by decide +kernel
theorem d15_57_3 : decode prog_15_method_57_code 3 = .ok (.istore_n 3, 1) := by decide +kernel
theorem d15_57_33 : decode prog_15_method_57_code 33 = .ok (.iload_n 2, 1) := by decide +kernel
theorem d15_57_34 : decode prog_15_method_57_code 34 = .ok (.ireturn, 1) := by decide +kernel
theorem d15_57_4 : decode prog_15_method_57_code 4 = .ok (.iload_n 3, 1) := by decide +kernel
theorem d15_57_5 : decode prog_15_method_57_code 5 = .ok (.bipush 8, 2) := by decide +kernel
theorem d15_57_7 : decode prog_15_method_57_code 7 = .ok (.if_icmp .ge 26, 3) := by decide +kernel
theorem d15_57_10 : decode prog_15_method_57_code 10 = .ok (.aload_n 0, 1) := by decide +kernel
theorem d15_57_11 : decode prog_15_method_57_code 11 = .ok (.iload_n 1, 1) := by decide +kernel
theorem d15_57_12 : decode prog_15_method_57_code 12 = .ok (.iload_n 3, 1) := by decide +kernel
theorem d15_57_13 : decode prog_15_method_57_code 13 = .ok (.invokevirtual 299, 3) := by decide +kernel
theorem d15_57_16 : decode prog_15_method_57_code 16 = .ok (.ifCond .lt 9, 3) := by decide +kernel
theorem d15_57_25 : decode prog_15_method_57_code 25 = .ok (.iload_n 2, 1) := by decide +kernel
theorem d15_57_19 : decode prog_15_method_57_code 19 = .ok (.iload_n 2, 1) := by decide +kernel
theorem d15_57_20 : decode prog_15_method_57_code 20 = .ok (.iconst 1, 1) := by decide +kernel
theorem d15_57_21 : decode prog_15_method_57_code 21 = .ok (.iadd, 1) := by decide +kernel
theorem d15_57_22 : decode prog_15_method_57_code 22 = .ok (.goto 4, 3) := by decide +kernel
theorem d15_57_26 : decode prog_15_method_57_code 26 = .ok (.istore_n 2, 1) := by decide +kernel
theorem d15_57_27 : decode prog_15_method_57_code 27 = .ok (.iinc 3 1, 3) := by decide +kernel
theorem d15_57_30 : decode prog_15_method_57_code 30 = .ok (.goto (-26), 3) := by decide +kernel
def y15_57 : MethodName := { cls := "PagedValuesModel", name := "documents", desc := "(I)I" }
theorem k1534 : (Jvm.Cond.code ({ cls := "PagedValuesModel", name := "documents", desc := "(I)I" } : Jvm.MethodName) prog_15_method_57_code (4 : Nat) (Option.some Jvm.ClassFile.FieldType.int)) ∈ TB := tk_7 94 rfl rfl
theorem k1531 : (Jvm.Cond.methodLink "PagedValuesModel" (338 : Nat) ({ cls := "PagedValuesModel", name := "documents", desc := "(I)I" } : Jvm.MethodName)) ∈ TB := tk_7 91 rfl rfl
theorem k1533 : (Jvm.Cond.instanceMethod ({ cls := "PagedValuesModel", name := "documents", desc := "(I)I" } : Jvm.MethodName)) ∈ TB := tk_7 93 rfl rfl
theorem ks85 : Cond.selects y15_57.cls y15_57 y15_57 ∈ TB := List.mem_filter.mpr ⟨List.mem_append_left _ (List.mem_of_getElem? (i := 85) (by decide +kernel)), rfl⟩
theorem d15_64_65 : decode prog_15_method_64_code 65 = .ok (.invokevirtual 338, 3) := by decide +kernel
theorem d15_64_51 : decode prog_15_method_64_code 51 = .ok (.iload_n 3, 1) := by decide +kernel
theorem d15_64_52 : decode prog_15_method_64_code 52 = .ok (.goto 16, 3) := by decide +kernel
theorem d15_64_68 : decode prog_15_method_64_code 68 = .ok (.ireturn, 1) := by decide +kernel
def y15_64 : MethodName := { cls := "PagedValuesModel", name := "remove", desc := "(I)I" }
def m_documents_l1 (a0 : Int32) (st : MS) : Nat → (Int32 × Int32) → Option (Int32 × Int32)
  | 0, _ => none
  | n9 + 1, e9 => if (8 : Int32) ≤ e9.2 then (some (e9.1, e9.2)) else ((m_rowOf a0 e9.2 st).bind fun x8 => (if x8 < (0 : Int32) then (some e9.1) else ((some (e9.1 + 1)).bind fun y14 => some y14)).bind fun e12 => m_documents_l1 a0 st n9 (e12, e9.2 + 1))
theorem m_documents_l1_s (a0 : Int32) (st : MS) (n9 : Nat) (e9 : Int32 × Int32) : m_documents_l1 a0 st (n9 + 1) e9 = (if (8 : Int32) ≤ e9.2 then (some (e9.1, e9.2)) else ((m_rowOf a0 e9.2 st).bind fun x8 => (if x8 < (0 : Int32) then (some e9.1) else ((some (e9.1 + 1)).bind fun y14 => some y14)).bind fun e12 => m_documents_l1 a0 st n9 (e12, e9.2 + 1))) := rfl
def m_documents (a0 : Int32) (st : MS) : Option (Int32) := (m_documents_l1 a0 st 4096 ((0 : Int32), (0 : Int32))).bind fun e1 => some e1.1
set_option maxHeartbeats 4000000 in
set_option maxRecDepth 100000 in
theorem cm_documents (l : Launch) (G : Gk) (Zd : Nat → Nat) (q : Nat → Nat) (a0 : Int32) (st : MS) (r0 : Int32) (hm : m_documents a0 st = some r0) (sz : Nat) : Met l y15_57 (Cond.code y15_57 prog_15_method_57_code 4 (some .int) :: TB) (rmD 2 0 0) (va_Pc [.ref (q 0), .int a0] (pcW G Zd (wMs q G.2 st) sz)) (qI G (fun rr (_ : Unit) => rr = r0) (fun _ => (wMs q G.2 st)) (va_A (wMs q G.2 st) sz)) 0 0 (va_A (wMs q G.2 st) sz) := by
  refine go (y := y15_57) (cc := prog_15_method_57_code) (maxL := 4) (ret := (some .int)) (av := [.ref (q 0), .int a0]) (Qc := qI G (fun rr (_ : Unit) => rr = r0) (fun _ => (wMs q G.2 st))) "PagedValuesModel" rfl (by decide) (Nat.le_of_ble_eq_true rfl) ?_
  intro p e s m below meth c ls A hx hb hr hlk hml hown hts hin hl hP hD hK hS hA hZ
  have hl : lv_has ls 4 [(0, .ref (q 0)), (1, .int a0)] := hl
  have h := hm
  clear hm
  refine lv_iconst (v := 0) hx hb d15_57_0 (by decide) ?_
  refine lv_istore_n (lv' := [(2, .int 0), (0, .ref (q 0)), (1, .int a0)]) hx hb d15_57_1 rfl hl (by decide) rfl (fun ls hl => ?_)
  refine lv_iconst (v := 0) hx hb d15_57_2 (by decide) ?_
  refine lv_istore_n (lv' := [(3, .int 0), (2, .int 0), (0, .ref (q 0)), (1, .int a0)]) hx hb d15_57_3 rfl hl (by decide) rfl (fun ls hl => ?_)
  obtain ⟨e1, hX, hrest⟩ := ob h
  clear h
  have hj : ∀ (v5 : Int32) (v6 : Int32), e1 = (v5, v6) → ∀ (H : Heap) (locs : List Loc) (ls : Array Slot), lv_has ls 4 [(0, .ref (q 0)), (1, .int a0), (2, .int v5), (3, .int v6)] → va_P G.1 vwCl (wMs q G.2 st) H → va_D A (wMs q G.2 st) → va_S A s.heap H locs → W p l e (rmD 2 0 0) s m ([.ref (q 0), .int a0] : List Value).toArray below meth c H locs 0 0 (MQ below (qI G (fun rr (_ : Unit) => rr = r0) (fun _ => (wMs q G.2 st)) A) ([.ref (q 0), .int a0] : List Value).toArray s 0 0 A) (F0 m 33 ls []) := by
    intro v5 v6 he H locs ls hl hP hD hS
    subst e1
    have h := hrest
    refine lv_iload_n hx hb d15_57_33 rfl (lv_at hl 2 rfl) ?_
    cases h
    exact fin_i hx hb hr hlk hS () rfl hP hD (Nat.le_of_ble_eq_true rfl) (Nat.le_of_ble_eq_true rfl) d15_57_34
  have hloop : ∀ (n9 : Nat) (v2 : Int32) (v3 : Int32), m_documents_l1 a0 st n9 (v2, v3) = some e1 → ∀ (H : Heap) (locs : List Loc) (ls : Array Slot), lv_has ls 4 [(0, .ref (q 0)), (1, .int a0), (2, .int v2), (3, .int v3)] → va_P G.1 vwCl (wMs q G.2 st) H → va_D A (wMs q G.2 st) → va_S A s.heap H locs → W p l e (rmD 2 0 0) s m ([.ref (q 0), .int a0] : List Value).toArray below meth c H locs 0 0 (MQ below (qI G (fun rr (_ : Unit) => rr = r0) (fun _ => (wMs q G.2 st)) A) ([.ref (q 0), .int a0] : List Value).toArray s 0 0 A) (F0 m 4 ls []) := by
    intro n9
    induction n9 with
    | zero =>
      intro v2 v3 h
      cases h
    | succ n9 ih =>
      intro v2 v3 h H locs ls hl hP hD hS
      replace h := (m_documents_l1_s a0 st n9 (v2, v3)).symm.trans h
      refine lv_iload_n hx hb d15_57_4 rfl (lv_at hl 3 rfl) ?_
      refine lv_bipush (v := 8) hx hb d15_57_5 (by decide) ?_
      refine lv_icmp_ge (tgt := 33) hx hb d15_57_7 rfl (fun c7 => ?_) (fun c7 => ?_)
      ·
        replace h := (if_pos c7).symm.trans h
        have e9 := Option.some.inj h
        subst e1
        have hl := lv_sub hl (l' := [(0, .ref (q 0)), (1, .int a0), (2, .int v2), (3, .int v3)]) [0, 1, 2, 3] rfl
        exact hj _ _ rfl _ _ _ hl hP hD hS
      ·
        replace h := (if_neg c7).symm.trans h
        refine lv_aload_n hx hb d15_57_10 rfl (lv_at hl 0 rfl) ?_
        refine lv_iload_n hx hb d15_57_11 rfl (lv_at hl 1 rfl) ?_
        refine lv_iload_n hx hb d15_57_12 rfl (lv_at hl 3 rfl) ?_
        obtain ⟨x8, hc, h⟩ := ob h
        refine sV_i (As := [.int a0, .int v3]) (rest := []) ⟨hx, hb, hml, hown, hts⟩ (cm_rowOf l G Zd q a0 v3 st x8 hc _) (kw_V (n := 2) hts k1400 k1397 k15 k1399 ks58 (by decide +kernel) ⟨Nat.le_of_ble_eq_true rfl, Nat.le_of_ble_eq_true rfl⟩) hP hD hK hS hA hZ (va_recv (ci := 13) (q0 := 0) hK hP rfl rfl) rfl hl.1 rfl (Nat.le_of_ble_eq_true rfl) d15_57_13 ⟨Nat.le_of_ble_eq_true rfl, Nat.le_of_ble_eq_true rfl⟩ (fun rr u9 H locs hp hP hD hS => ?_)
        clear u9
        subst rr
        clear hc
        refine W.eq (g2 := F0 m 16 ls [.int x8]) rfl ?_
        have hP : va_P G.1 vwCl (wMs q G.2 st) H := hP
        have hD : va_D A (wMs q G.2 st) := hD
        obtain ⟨e12, hX, h⟩ := ob h
        have hj : ∀ (H : Heap) (locs : List Loc) (ls : Array Slot), lv_has ls 4 [(0, .ref (q 0)), (1, .int a0), (2, .int v2), (3, .int v3)] → va_P G.1 vwCl (wMs q G.2 st) H → va_D A (wMs q G.2 st) → va_S A s.heap H locs → W p l e (rmD 2 0 0) s m ([.ref (q 0), .int a0] : List Value).toArray below meth c H locs 0 0 (MQ below (qI G (fun rr (_ : Unit) => rr = r0) (fun _ => (wMs q G.2 st)) A) ([.ref (q 0), .int a0] : List Value).toArray s 0 0 A) (F0 m 26 ls [.int e12]) := by
          intro H locs ls hl hP hD hS
          refine lv_istore_n (lv' := [(2, .int e12), (0, .ref (q 0)), (1, .int a0), (3, .int v3)]) hx hb d15_57_26 rfl hl (by decide) rfl (fun ls hl => ?_)
          refine lv_iinc (k := 3) (v := v3 + 1) (lv' := [(3, .int (v3 + 1)), (2, .int e12), (0, .ref (q 0)), (1, .int a0)]) hx hb d15_57_27 hl rfl (by first | decide | rfl) (by decide) rfl (fun ls hl => ?_)
          refine lv_goto (tgt := 4) hx hb d15_57_30 rfl ?_
          have hl := lv_sub hl (l' := [(0, .ref (q 0)), (1, .int a0), (2, .int e12), (3, .int (v3 + 1))]) [2, 3, 1, 0] rfl
          exact ih _ _ h _ _ _ hl hP hD hS
        clear h
        refine lv_if_lt (tgt := 25) hx hb d15_57_16 rfl (fun c11 => ?_) (fun c11 => ?_)
        ·
          replace h := (if_pos c11).symm.trans hX
          refine lv_iload_n hx hb d15_57_25 rfl (lv_at hl 2 rfl) ?_
          have e9 := Option.some.inj h
          subst e12
          have hl := lv_sub hl (l' := [(0, .ref (q 0)), (1, .int a0), (2, .int v2), (3, .int v3)]) [0, 1, 2, 3] rfl
          exact hj _ _ _ hl hP hD hS
        ·
          replace h := (if_neg c11).symm.trans hX
          refine lv_iload_n hx hb d15_57_19 rfl (lv_at hl 2 rfl) ?_
          refine lv_iconst (v := 1) hx hb d15_57_20 (by decide) ?_
          refine lv_iadd hx hb d15_57_21 ?_
          obtain ⟨y14, hr, h⟩ := ob h
          refine lv_topi (fun y9 ey => ?_)
          have e9 := ey.trans (Option.some.inj hr)
          clear ey
          subst y9
          clear hr
          refine lv_goto (tgt := 26) hx hb d15_57_22 rfl ?_
          have e9 := Option.some.inj h
          subst e12
          have hl := lv_sub hl (l' := [(0, .ref (q 0)), (1, .int a0), (2, .int v2), (3, .int v3)]) [0, 1, 2, 3] rfl
          exact hj _ _ _ hl hP hD hS
  have hl := lv_sub hl (l' := [(0, .ref (q 0)), (1, .int a0), (2, .int 0), (3, .int 0)]) [2, 3, 1, 0] rfl
  exact hloop _ _ _ hX _ _ _ hl hP hD hS
def m_remove (a0 : Int32) (st : MS) : Option (Int32 × MS) := (m_current st).bind fun x1 => (rd (st.2.2.1 15) 2 x1).bind fun x4 => (m_rowOf x4 a0 st).bind fun x5 => if (st.1 13) = (0 : Int32) then (if (0 : Int32) ≤ x5 then ((m_change a0 ((-1) : Int32) st).bind fun r15 => (if r15.1 = (0 : Int32) then ((m_current r15.2).bind fun x19 => (rd (r15.2.2.2.1 15) 2 x19).bind fun x22 => (m_documents x22 r15.2).bind fun x23 => some x23) else (some r15.1)).bind fun e17 => some (e17, r15.2)) else ((if (st.1 13) = (0 : Int32) then (some ((-1) : Int32)) else (some ((-9) : Int32))).bind fun e27 => some (e27, st))) else ((if (st.1 13) = (0 : Int32) then (some ((-1) : Int32)) else (some ((-9) : Int32))).bind fun e10 => some (e10, st))
set_option maxHeartbeats 4000000 in
set_option maxRecDepth 100000 in
theorem cm_remove (l : Launch) (G : Gk) (Zd : Nat → Nat) (q : Nat → Nat) (a0 : Int32) (st : MS) (r0 : Int32) (st0 : MS) (hm : m_remove a0 st = some (r0, st0)) (sz : Nat) : Met l y15_64 (Cond.code y15_64 prog_15_method_64_code 4 (some .int) :: TB) (rmD 4 0 0) (va_Pc [.ref (q 0), .int a0] (pcW G Zd (wMs q G.2 st) sz)) (qI G (fun rr (_ : Unit) => rr = r0) (fun _ => (wMs q G.2 st0)) (va_A (wMs q G.2 st) sz)) 0 0 (va_A (wMs q G.2 st) sz) := by
  refine go (y := y15_64) (cc := prog_15_method_64_code) (maxL := 4) (ret := (some .int)) (av := [.ref (q 0), .int a0]) (Qc := qI G (fun rr (_ : Unit) => rr = r0) (fun _ => (wMs q G.2 st0))) "PagedValuesModel" rfl (by decide) (Nat.le_of_ble_eq_true rfl) ?_
  intro p e s m below meth c ls A hx hb hr hlk hml hown hts hin hl hP hD hK hS hA hZ
  have hl : lv_has ls 4 [(0, .ref (q 0)), (1, .int a0)] := hl
  have h := hm
  clear hm
  refine lv_aload_n hx hb d15_64_0 rfl (lv_at hl 0 rfl) ?_
  refine lv_aload_n hx hb d15_64_1 rfl (lv_at hl 0 rfl) ?_
  refine va_get (D := G.1) (ci := 13) (v := .ref (q 22)) (C := r_13) (T := f_13) (N := 42) (ref := "PagedValuesModel") hx hb hts (fun w h => List.mem_cons_of_mem _ (ly_13 w h)) hown hK hP 0 rfl rfl 35 (by decide) (hts _ (List.mem_cons_of_mem _ k1186)) (fun _ h9 => h9) rfl d15_64_2 ?_
  refine lv_aload_n hx hb d15_64_5 rfl (lv_at hl 0 rfl) ?_
  obtain ⟨x1, hc, h⟩ := ob h
  refine sV_i (As := []) (rest := [.ref (q 22), .ref (q 0)]) ⟨hx, hb, hml, hown, hts⟩ (cm_current l G Zd q st x1 hc _) (kw_V (n := 0) hts k1396 k1393 k15 k1395 ks57 (by decide +kernel) ⟨Nat.le_of_ble_eq_true rfl, Nat.le_of_ble_eq_true rfl⟩) hP hD hK hS hA hZ (va_recv (ci := 13) (q0 := 0) hK hP rfl rfl) rfl hl.1 rfl (Nat.le_of_ble_eq_true rfl) d15_64_6 ⟨Nat.le_of_ble_eq_true rfl, Nat.le_of_ble_eq_true rfl⟩ (fun rr u9 H locs hp hP hD hS => ?_)
  clear u9
  subst rr
  clear hc
  refine W.eq (g2 := F0 m 9 ls [.int x1, .ref (q 22), .ref (q 0)]) rfl ?_
  have hP : va_P G.1 vwCl (wMs q G.2 st) H := hP
  have hD : va_D A (wMs q G.2 st) := hD
  obtain ⟨x4, hr, h⟩ := ob h
  obtain ⟨hi, hv⟩ := rd_some hr
  refine va_iald (D := G.1) hx hb hK hP 22 1 rfl rfl (i := x1) hi d15_64_9 ?_
  refine lv_topi (fun y9 ey => ?_)
  have e9 := ey.trans hv
  clear ey
  subst y9
  clear hv hi hr
  refine lv_iload_n hx hb d15_64_10 rfl (lv_at hl 1 rfl) ?_
  obtain ⟨x5, hc, h⟩ := ob h
  refine sV_i (As := [.int x4, .int a0]) (rest := []) ⟨hx, hb, hml, hown, hts⟩ (cm_rowOf l G Zd q x4 a0 st x5 hc _) (kw_V (n := 2) hts k1400 k1397 k15 k1399 ks58 (by decide +kernel) ⟨Nat.le_of_ble_eq_true rfl, Nat.le_of_ble_eq_true rfl⟩) hP hD hK hS hA hZ (va_recv (ci := 13) (q0 := 0) hK hP rfl rfl) rfl hl.1 rfl (Nat.le_of_ble_eq_true rfl) d15_64_11 ⟨Nat.le_of_ble_eq_true rfl, Nat.le_of_ble_eq_true rfl⟩ (fun rr u9 H locs hp hP hD hS => ?_)
  clear u9
  subst rr
  clear hc
  refine W.eq (g2 := F0 m 14 ls [.int x5]) rfl ?_
  have hP : va_P G.1 vwCl (wMs q G.2 st) H := hP
  have hD : va_D A (wMs q G.2 st) := hD
  refine lv_istore_n (lv' := [(2, .int x5), (0, .ref (q 0)), (1, .int a0)]) hx hb d15_64_14 rfl hl (by decide) rfl (fun ls hl => ?_)
  refine lv_aload_n hx hb d15_64_15 rfl (lv_at hl 1 rfl) ?_
  refine va_get (D := G.1) (ci := 13) (v := .int (st.1 13)) (C := r_13) (T := f_13) (N := 42) (ref := "PagedValuesModel") hx hb hts (fun w h => List.mem_cons_of_mem _ (ly_13 w h)) hown hK hP 0 rfl rfl 40 (by decide) (hts _ (List.mem_cons_of_mem _ k1191)) (fun _ h9 => h9) rfl d15_64_16 ?_
  refine lv_if_ne (tgt := 26) hx hb d15_64_19 rfl (fun c8 => ?_) (fun c8 => ?_)
  ·
    replace h := (if_neg c8).symm.trans h
    refine lv_aload_n hx hb d15_64_26 rfl (lv_at hl 1 rfl) ?_
    refine va_get (D := G.1) (ci := 13) (v := .int (st.1 13)) (C := r_13) (T := f_13) (N := 42) (ref := "PagedValuesModel") hx hb hts (fun w h => List.mem_cons_of_mem _ (ly_13 w h)) hown hK hP 0 rfl rfl 40 (by decide) (hts _ (List.mem_cons_of_mem _ k1191)) (fun _ h9 => h9) rfl d15_64_27 ?_
    obtain ⟨e10, hX, h⟩ := ob h
    have hj : ∀ (H : Heap) (locs : List Loc) (ls : Array Slot), lv_has ls 4 [(0, .ref (q 0)), (1, .int a0), (2, .int x5)] → va_P G.1 vwCl (wMs q G.2 st) H → va_D A (wMs q G.2 st) → va_S A s.heap H locs → W p l e (rmD 4 0 0) s m ([.ref (q 0), .int a0] : List Value).toArray below meth c H locs 0 0 (MQ below (qI G (fun rr (_ : Unit) => rr = r0) (fun _ => (wMs q G.2 st0)) A) ([.ref (q 0), .int a0] : List Value).toArray s 0 0 A) (F0 m 39 ls [.int e10]) := by
      intro H locs ls hl hP hD hS
      cases h
      exact fin_i hx hb hr hlk hS () rfl hP hD (Nat.le_of_ble_eq_true rfl) (Nat.le_of_ble_eq_true rfl) d15_64_39
    clear h
    refine lv_if_eq (tgt := 38) hx hb d15_64_30 rfl (fun c9 => ?_) (fun c9 => ?_)
    ·
      replace h := (if_pos c9).symm.trans hX
      refine lv_iconst (v := (-1)) hx hb d15_64_38 (by decide) ?_
      have e9 := Option.some.inj h
      subst e10
      have hl := lv_sub hl (l' := [(0, .ref (q 0)), (1, .int a0), (2, .int x5)]) [1, 2, 0] rfl
      exact hj _ _ _ hl hP hD hS
    ·
      replace h := (if_neg c9).symm.trans hX
      refine lv_bipush (v := (-9)) hx hb d15_64_33 (by decide) ?_
      refine lv_goto (tgt := 39) hx hb d15_64_35 rfl ?_
      have e9 := Option.some.inj h
      subst e10
      have hl := lv_sub hl (l' := [(0, .ref (q 0)), (1, .int a0), (2, .int x5)]) [1, 2, 0] rfl
      exact hj _ _ _ hl hP hD hS
  ·
    replace h := (if_pos c8).symm.trans h
    refine lv_iload_n hx hb d15_64_22 rfl (lv_at hl 0 rfl) ?_
    refine lv_if_ge (tgt := 40) hx hb d15_64_23 rfl (fun c12 => ?_) (fun c12 => ?_)
    ·
      replace h := (if_pos c12).symm.trans h
      refine lv_aload_n hx hb d15_64_40 rfl (lv_at hl 1 rfl) ?_
      refine lv_iload_n hx hb d15_64_41 rfl (lv_at hl 2 rfl) ?_
      refine lv_iconst (v := (-1)) hx hb d15_64_42 (by decide) ?_
      obtain ⟨⟨x13, st14⟩, hc, h⟩ := ob h
      refine sV_i (As := [.int a0, .int (-1)]) (rest := []) ⟨hx, hb, hml, hown, hts⟩ (cm_change l G Zd q a0 ((-1) : Int32) st x13 st14 hc _) (kw_V (n := 2) hts k1392 k1389 k15 k1391 ks56 (by decide +kernel) ⟨Nat.le_of_ble_eq_true rfl, Nat.le_of_ble_eq_true rfl⟩) hP hD hK hS hA hZ (va_recv (ci := 13) (q0 := 0) hK hP rfl rfl) rfl hl.1 rfl (Nat.le_of_ble_eq_true rfl) d15_64_43 ⟨Nat.le_of_ble_eq_true rfl, Nat.le_of_ble_eq_true rfl⟩ (fun rr u9 H locs hp hP hD hS => ?_)
      clear u9
      subst rr
      clear hc
      refine W.eq (g2 := F0 m 46 ls [.int x13]) rfl ?_
      have hP : va_P G.1 vwCl (wMs q G.2 st14) H := hP
      have hD : va_D A (wMs q G.2 st14) := hD
      refine lv_istore_n (lv' := [(3, .int x13), (2, .int x5), (0, .ref (q 0)), (1, .int a0)]) hx hb d15_64_46 rfl hl (by decide) rfl (fun ls hl => ?_)
      refine lv_iload_n hx hb d15_64_47 rfl (lv_at hl 0 rfl) ?_
      obtain ⟨e17, hX, h⟩ := ob h
      have hj : ∀ (H : Heap) (locs : List Loc) (ls : Array Slot), lv_has ls 4 [(0, .ref (q 0)), (1, .int a0), (2, .int x5), (3, .int x13)] → va_P G.1 vwCl (wMs q G.2 st14) H → va_D A (wMs q G.2 st14) → va_S A s.heap H locs → W p l e (rmD 4 0 0) s m ([.ref (q 0), .int a0] : List Value).toArray below meth c H locs 0 0 (MQ below (qI G (fun rr (_ : Unit) => rr = r0) (fun _ => (wMs q G.2 st0)) A) ([.ref (q 0), .int a0] : List Value).toArray s 0 0 A) (F0 m 68 ls [.int e17]) := by
        intro H locs ls hl hP hD hS
        cases h
        exact fin_i hx hb hr hlk hS () rfl hP hD (Nat.le_of_ble_eq_true rfl) (Nat.le_of_ble_eq_true rfl) d15_64_68
      clear h
      refine lv_if_eq (tgt := 55) hx hb d15_64_48 rfl (fun c16 => ?_) (fun c16 => ?_)
      ·
        replace h := (if_pos c16).symm.trans hX
        refine lv_aload_n hx hb d15_64_55 rfl (lv_at hl 2 rfl) ?_
        refine lv_aload_n hx hb d15_64_56 rfl (lv_at hl 2 rfl) ?_
        refine va_get (D := G.1) (ci := 13) (v := .ref (q 22)) (C := r_13) (T := f_13) (N := 42) (ref := "PagedValuesModel") hx hb hts (fun w h => List.mem_cons_of_mem _ (ly_13 w h)) hown hK hP 0 rfl rfl 35 (by decide) (hts _ (List.mem_cons_of_mem _ k1186)) (fun _ h9 => h9) rfl d15_64_57 ?_
        refine lv_aload_n hx hb d15_64_60 rfl (lv_at hl 2 rfl) ?_
        obtain ⟨x19, hc, h⟩ := ob h
        refine sV_i (As := []) (rest := [.ref (q 22), .ref (q 0)]) ⟨hx, hb, hml, hown, hts⟩ (cm_current l G Zd q st14 x19 hc _) (kw_V (n := 0) hts k1396 k1393 k15 k1395 ks57 (by decide +kernel) ⟨Nat.le_of_ble_eq_true rfl, Nat.le_of_ble_eq_true rfl⟩) hP hD hK hS hA hZ (va_recv (ci := 13) (q0 := 0) hK hP rfl rfl) rfl hl.1 rfl (Nat.le_of_ble_eq_true rfl) d15_64_61 ⟨Nat.le_of_ble_eq_true rfl, Nat.le_of_ble_eq_true rfl⟩ (fun rr u9 H locs hp hP hD hS => ?_)
        clear u9
        subst rr
        clear hc
        refine W.eq (g2 := F0 m 64 ls [.int x19, .ref (q 22), .ref (q 0)]) rfl ?_
        have hP : va_P G.1 vwCl (wMs q G.2 st14) H := hP
        have hD : va_D A (wMs q G.2 st14) := hD
        obtain ⟨x22, hr, h⟩ := ob h
        obtain ⟨hi, hv⟩ := rd_some hr
        refine va_iald (D := G.1) hx hb hK hP 22 1 rfl rfl (i := x19) hi d15_64_64 ?_
        refine lv_topi (fun y9 ey => ?_)
        have e9 := ey.trans hv
        clear ey
        subst y9
        clear hv hi hr
        obtain ⟨x23, hc, h⟩ := ob h
        refine sV_i (As := [.int x22]) (rest := []) ⟨hx, hb, hml, hown, hts⟩ (cm_documents l G Zd q x22 st14 x23 hc _) (kw_V (n := 1) hts k1534 k1531 k15 k1533 ks85 (by decide +kernel) ⟨Nat.le_of_ble_eq_true rfl, Nat.le_of_ble_eq_true rfl⟩) hP hD hK hS hA hZ (va_recv (ci := 13) (q0 := 0) hK hP rfl rfl) rfl hl.1 rfl (Nat.le_of_ble_eq_true rfl) d15_64_65 ⟨Nat.le_of_ble_eq_true rfl, Nat.le_of_ble_eq_true rfl⟩ (fun rr u9 H locs hp hP hD hS => ?_)
        clear u9
        subst rr
        clear hc
        refine W.eq (g2 := F0 m 68 ls [.int x23]) rfl ?_
        have hP : va_P G.1 vwCl (wMs q G.2 st14) H := hP
        have hD : va_D A (wMs q G.2 st14) := hD
        have e9 := Option.some.inj h
        subst e17
        have hl := lv_sub hl (l' := [(0, .ref (q 0)), (1, .int a0), (2, .int x5), (3, .int x13)]) [2, 3, 1, 0] rfl
        exact hj _ _ _ hl hP hD hS
      ·
        replace h := (if_neg c16).symm.trans hX
        refine lv_iload_n hx hb d15_64_51 rfl (lv_at hl 0 rfl) ?_
        refine lv_goto (tgt := 68) hx hb d15_64_52 rfl ?_
        have e9 := Option.some.inj h
        subst e17
        have hl := lv_sub hl (l' := [(0, .ref (q 0)), (1, .int a0), (2, .int x5), (3, .int x13)]) [2, 3, 1, 0] rfl
        exact hj _ _ _ hl hP hD hS
    ·
      replace h := (if_neg c12).symm.trans h
      refine lv_aload_n hx hb d15_64_26 rfl (lv_at hl 1 rfl) ?_
      refine va_get (D := G.1) (ci := 13) (v := .int (st.1 13)) (C := r_13) (T := f_13) (N := 42) (ref := "PagedValuesModel") hx hb hts (fun w h => List.mem_cons_of_mem _ (ly_13 w h)) hown hK hP 0 rfl rfl 40 (by decide) (hts _ (List.mem_cons_of_mem _ k1191)) (fun _ h9 => h9) rfl d15_64_27 ?_
      obtain ⟨e27, hX, h⟩ := ob h
      have hj : ∀ (H : Heap) (locs : List Loc) (ls : Array Slot), lv_has ls 4 [(0, .ref (q 0)), (1, .int a0), (2, .int x5)] → va_P G.1 vwCl (wMs q G.2 st) H → va_D A (wMs q G.2 st) → va_S A s.heap H locs → W p l e (rmD 4 0 0) s m ([.ref (q 0), .int a0] : List Value).toArray below meth c H locs 0 0 (MQ below (qI G (fun rr (_ : Unit) => rr = r0) (fun _ => (wMs q G.2 st0)) A) ([.ref (q 0), .int a0] : List Value).toArray s 0 0 A) (F0 m 39 ls [.int e27]) := by
        intro H locs ls hl hP hD hS
        cases h
        exact fin_i hx hb hr hlk hS () rfl hP hD (Nat.le_of_ble_eq_true rfl) (Nat.le_of_ble_eq_true rfl) d15_64_39
      clear h
      refine lv_if_eq (tgt := 38) hx hb d15_64_30 rfl (fun c26 => ?_) (fun c26 => ?_)
      ·
        replace h := (if_pos c26).symm.trans hX
        refine lv_iconst (v := (-1)) hx hb d15_64_38 (by decide) ?_
        have e9 := Option.some.inj h
        subst e27
        have hl := lv_sub hl (l' := [(0, .ref (q 0)), (1, .int a0), (2, .int x5)]) [1, 2, 0] rfl
        exact hj _ _ _ hl hP hD hS
      ·
        replace h := (if_neg c26).symm.trans hX
        refine lv_bipush (v := (-9)) hx hb d15_64_33 (by decide) ?_
        refine lv_goto (tgt := 39) hx hb d15_64_35 rfl ?_
        have e9 := Option.some.inj h
        subst e27
        have hl := lv_sub hl (l' := [(0, .ref (q 0)), (1, .int a0), (2, .int x5)]) [1, 2, 0] rfl
        exact hj _ _ _ hl hP hD hS
theorem d15_78_0 : decode prog_15_method_78_code 0 = .ok (.aload_n 0, 1) := by decide +kernel
theorem d15_78_1 : decode prog_15_method_78_code 1 = .ok (.getfield 308, 3) := by decide +kernel
theorem d15_78_4 : decode prog_15_method_78_code 4 = .ok (.ifCond .eq 6, 3) := by decide +kernel
theorem d15_78_10 : decode prog_15_method_78_code 10 = .ok (.aload_n 0, 1) := by decide +kernel
theorem d15_78_11 : decode prog_15_method_78_code 11 = .ok (.iload_n 1, 1) := by decide +kernel
theorem d15_76_0 : decode prog_15_method_76_code 0 = .ok (.iload_n 1, 1) := by decide +kernel
theorem d15_76_1 : decode prog_15_method_76_code 1 = .ok (.iconst (-1), 1) := by decide +kernel
theorem d15_76_2 : decode prog_15_method_76_code 2 = .ok (.if_icmp .eq 21, 3) := by decide +kernel
theorem d15_76_23 : decode prog_15_method_76_code 23 = .ok (.iconst 1, 1) := by decide +kernel
theorem d15_76_24 : decode prog_15_method_76_code 24 = .ok (.goto 4, 3) := by decide +kernel
theorem d15_76_5 : decode prog_15_method_76_code 5 = .ok (.iload_n 1, 1) := by decide +kernel
theorem d15_76_6 : decode prog_15_method_76_code 6 = .ok (.iconst 0, 1) := by decide +kernel
theorem d15_76_7 : decode prog_15_method_76_code 7 = .ok (.iconst 2, 1) := by decide +kernel
theorem d15_76_8 : decode prog_15_method_76_code 8 = .ok (.invokestatic 260, 3) := by decide +kernel
theorem d15_76_11 : decode prog_15_method_76_code 11 = .ok (.ifCond .eq 16, 3) := by decide +kernel
theorem d15_76_27 : decode prog_15_method_76_code 27 = .ok (.iconst 0, 1) := by decide +kernel
theorem d15_76_14 : decode prog_15_method_76_code 14 = .ok (.aload_n 0, 1) := by decide +kernel
theorem d15_76_15 : decode prog_15_method_76_code 15 = .ok (.getfield 83, 3) := by decide +kernel
theorem d15_76_18 : decode prog_15_method_76_code 18 = .ok (.iload_n 1, 1) := by decide +kernel
theorem d15_76_19 : decode prog_15_method_76_code 19 = .ok (.baload, 1) := by decide +kernel
theorem d15_76_20 : decode prog_15_method_76_code 20 = .ok (.ifCond .eq 7, 3) := by decide +kernel
theorem d15_76_28 : decode prog_15_method_76_code 28 = .ok (.ireturn, 1) := by decide +kernel
def y15_76 : MethodName := { cls := "PagedValuesModel", name := "isReader", desc := "(I)Z" }
theorem k1542 : (Jvm.Cond.code ({ cls := "PagedValuesModel", name := "isReader", desc := "(I)Z" } : Jvm.MethodName) prog_15_method_76_code (2 : Nat) (Option.some Jvm.ClassFile.FieldType.boolean)) ∈ TB := tk_7 102 rfl rfl
theorem k1539 : (Jvm.Cond.methodLink "PagedValuesModel" (386 : Nat) ({ cls := "PagedValuesModel", name := "isReader", desc := "(I)Z" } : Jvm.MethodName)) ∈ TB := tk_7 99 rfl rfl
theorem k1541 : (Jvm.Cond.instanceMethod ({ cls := "PagedValuesModel", name := "isReader", desc := "(I)Z" } : Jvm.MethodName)) ∈ TB := tk_7 101 rfl rfl
theorem ks86 : Cond.selects y15_76.cls y15_76 y15_76 ∈ TB := List.mem_filter.mpr ⟨List.mem_append_left _ (List.mem_of_getElem? (i := 86) (by decide +kernel)), rfl⟩
theorem d15_78_12 : decode prog_15_method_78_code 12 = .ok (.invokevirtual 386, 3) := by decide +kernel
theorem d15_78_15 : decode prog_15_method_78_code 15 = .ok (.ifCond .eq 21, 3) := by decide +kernel
theorem d15_78_36 : decode prog_15_method_78_code 36 = .ok (.iconst (-1), 1) := by decide +kernel
theorem d15_78_37 : decode prog_15_method_78_code 37 = .ok (.ireturn, 1) := by decide +kernel
theorem d15_78_18 : decode prog_15_method_78_code 18 = .ok (.iload_n 2, 1) := by decide +kernel
theorem d15_78_19 : decode prog_15_method_78_code 19 = .ok (.iconst (-1), 1) := by decide +kernel
theorem d15_78_20 : decode prog_15_method_78_code 20 = .ok (.if_icmp .eq 18, 3) := by decide +kernel
theorem d15_78_38 : decode prog_15_method_78_code 38 = .ok (.aload_n 0, 1) := by decide +kernel
theorem d15_78_39 : decode prog_15_method_78_code 39 = .ok (.iconst 0, 1) := by decide +kernel
theorem d15_78_40 : decode prog_15_method_78_code 40 = .ok (.putfield 383, 3) := by decide +kernel
theorem k1179 : (Jvm.Cond.fieldLink "PagedValuesModel" (383 : Nat) "PagedValuesModel" "results" "I") ∈ TB := tk_5 219 rfl rfl
theorem d15_78_43 : decode prog_15_method_78_code 43 = .ok (.aload_n 0, 1) := by decide +kernel
theorem d15_72_0 : decode prog_15_method_72_code 0 = .ok (.aload_n 0, 1) := by decide +kernel
theorem d15_72_1 : decode prog_15_method_72_code 1 = .ok (.iconst 0, 1) := by decide +kernel
theorem d15_72_2 : decode prog_15_method_72_code 2 = .ok (.putfield 104, 3) := by decide +kernel
theorem d15_72_5 : decode prog_15_method_72_code 5 = .ok (.aload_n 0, 1) := by decide +kernel
theorem d15_72_6 : decode prog_15_method_72_code 6 = .ok (.iconst (-1), 1) := by decide +kernel
theorem d15_72_7 : decode prog_15_method_72_code 7 = .ok (.putfield 111, 3) := by decide +kernel
theorem d15_72_10 : decode prog_15_method_72_code 10 = .ok (.aload_n 0, 1) := by decide +kernel
theorem d15_72_11 : decode prog_15_method_72_code 11 = .ok (.iconst 0, 1) := by decide +kernel
theorem d15_72_12 : decode prog_15_method_72_code 12 = .ok (.putfield 353, 3) := by decide +kernel
theorem k1166 : (Jvm.Cond.fieldLink "PagedValuesModel" (353 : Nat) "PagedValuesModel" "segments" "I") ∈ TB := tk_5 206 rfl rfl
theorem d15_72_15 : decode prog_15_method_72_code 15 = .ok (.aload_n 0, 1) := by decide +kernel
theorem d15_72_16 : decode prog_15_method_72_code 16 = .ok (.iconst 0, 1) := by decide +kernel
theorem d15_72_17 : decode prog_15_method_72_code 17 = .ok (.putfield 344, 3) := by decide +kernel
theorem k1169 : (Jvm.Cond.fieldLink "PagedValuesModel" (344 : Nat) "PagedValuesModel" "selectors" "I") ∈ TB := tk_5 209 rfl rfl
theorem d15_72_20 : decode prog_15_method_72_code 20 = .ok (.aload_n 0, 1) := by decide +kernel
theorem d15_72_21 : decode prog_15_method_72_code 21 = .ok (.bipush 36, 2) := by decide +kernel
theorem d15_72_23 : decode prog_15_method_72_code 23 = .ok (.invokevirtual 132, 3) := by decide +kernel
theorem d15_72_26 : decode prog_15_method_72_code 26 = .ok (.iconst 0, 1) := by decide +kernel
theorem d15_72_27 : decode prog_15_method_72_code 27 = .ok (.istore_n 1, 1) := by decide +kernel
theorem d15_72_62 : decode prog_15_method_72_code 62 = .ok (.return_, 1) := by decide +kernel
theorem d15_72_28 : decode prog_15_method_72_code 28 = .ok (.iload_n 1, 1) := by decide +kernel
theorem d15_72_29 : decode prog_15_method_72_code 29 = .ok (.bipush 81, 2) := by decide +kernel
theorem d15_72_31 : decode prog_15_method_72_code 31 = .ok (.if_icmp .ge 31, 3) := by decide +kernel
theorem d15_72_34 : decode prog_15_method_72_code 34 = .ok (.aload_n 0, 1) := by decide +kernel
theorem d15_72_35 : decode prog_15_method_72_code 35 = .ok (.getfield 111, 3) := by decide +kernel
theorem d15_72_38 : decode prog_15_method_72_code 38 = .ok (.ifCond .ge 24, 3) := by decide +kernel
theorem d15_72_41 : decode prog_15_method_72_code 41 = .ok (.aload_n 0, 1) := by decide +kernel
theorem d15_72_42 : decode prog_15_method_72_code 42 = .ok (.getfield 104, 3) := by decide +kernel
theorem d15_72_45 : decode prog_15_method_72_code 45 = .ok (.aload_n 0, 1) := by decide +kernel
theorem d15_72_46 : decode prog_15_method_72_code 46 = .ok (.getfield 108, 3) := by decide +kernel
theorem d15_72_49 : decode prog_15_method_72_code 49 = .ok (.if_icmp .ge 13, 3) := by decide +kernel
theorem d15_72_52 : decode prog_15_method_72_code 52 = .ok (.aload_n 0, 1) := by decide +kernel
theorem d15_70_0 : decode prog_15_method_70_code 0 = .ok (.aload_n 0, 1) := by decide +kernel
theorem d15_70_1 : decode prog_15_method_70_code 1 = .ok (.getfield 37, 3) := by decide +kernel
theorem d15_70_4 : decode prog_15_method_70_code 4 = .ok (.aload_n 0, 1) := by decide +kernel
theorem d15_70_5 : decode prog_15_method_70_code 5 = .ok (.getfield 353, 3) := by decide +kernel
theorem d15_70_8 : decode prog_15_method_70_code 8 = .ok (.iconst 0, 1) := by decide +kernel
theorem d15_70_9 : decode prog_15_method_70_code 9 = .ok (.bastore, 1) := by decide +kernel
theorem d15_70_10 : decode prog_15_method_70_code 10 = .ok (.aload_n 0, 1) := by decide +kernel
theorem d15_70_11 : decode prog_15_method_70_code 11 = .ok (.bipush 46, 2) := by decide +kernel
theorem d15_70_13 : decode prog_15_method_70_code 13 = .ok (.invokevirtual 138, 3) := by decide +kernel
theorem d15_70_16 : decode prog_15_method_70_code 16 = .ok (.istore_n 1, 1) := by decide +kernel
theorem d15_70_17 : decode prog_15_method_70_code 17 = .ok (.iload_n 1, 1) := by decide +kernel
theorem d15_70_18 : decode prog_15_method_70_code 18 = .ok (.ifCond .eq 18, 3) := by decide +kernel
theorem d15_70_21 : decode prog_15_method_70_code 21 = .ok (.aload_n 0, 1) := by decide +kernel
theorem d15_70_22 : decode prog_15_method_70_code 22 = .ok (.getfield 37, 3) := by decide +kernel
theorem d15_70_25 : decode prog_15_method_70_code 25 = .ok (.aload_n 0, 1) := by decide +kernel
theorem d15_70_26 : decode prog_15_method_70_code 26 = .ok (.getfield 353, 3) := by decide +kernel
theorem d15_70_29 : decode prog_15_method_70_code 29 = .ok (.aload_n 0, 1) := by decide +kernel
theorem d15_70_30 : decode prog_15_method_70_code 30 = .ok (.bipush 46, 2) := by decide +kernel
theorem d15_70_32 : decode prog_15_method_70_code 32 = .ok (.invokevirtual 138, 3) := by decide +kernel
theorem d15_70_35 : decode prog_15_method_70_code 35 = .ok (.bastore, 1) := by decide +kernel
theorem d15_70_36 : decode prog_15_method_70_code 36 = .ok (.iload_n 1, 1) := by decide +kernel
theorem d15_70_37 : decode prog_15_method_70_code 37 = .ok (.ifCond .eq 31, 3) := by decide +kernel
theorem d15_70_68 : decode prog_15_method_70_code 68 = .ok (.aload_n 0, 1) := by decide +kernel
theorem d15_70_69 : decode prog_15_method_70_code 69 = .ok (.bipush 91, 2) := by decide +kernel
theorem d15_70_71 : decode prog_15_method_70_code 71 = .ok (.invokevirtual 132, 3) := by decide +kernel
theorem d15_70_74 : decode prog_15_method_70_code 74 = .ok (.aload_n 0, 1) := by decide +kernel
theorem d15_70_75 : decode prog_15_method_70_code 75 = .ok (.getfield 111, 3) := by decide +kernel
theorem d15_70_78 : decode prog_15_method_70_code 78 = .ok (.ifCond .ge 7, 3) := by decide +kernel
theorem d15_70_85 : decode prog_15_method_70_code 85 = .ok (.iconst 0, 1) := by decide +kernel
theorem d15_70_81 : decode prog_15_method_70_code 81 = .ok (.iconst 1, 1) := by decide +kernel
theorem d15_70_82 : decode prog_15_method_70_code 82 = .ok (.goto 4, 3) := by decide +kernel
theorem d15_70_86 : decode prog_15_method_70_code 86 = .ok (.istore_n 2, 1) := by decide +kernel
theorem d15_70_87 : decode prog_15_method_70_code 87 = .ok (.iconst 0, 1) := by decide +kernel
theorem d15_70_88 : decode prog_15_method_70_code 88 = .ok (.istore_n 3, 1) := by decide +kernel
theorem d15_70_123 : decode prog_15_method_70_code 123 = .ok (.aload_n 0, 1) := by decide +kernel
theorem d15_70_124 : decode prog_15_method_70_code 124 = .ok (.bipush 93, 2) := by decide +kernel
theorem d15_70_126 : decode prog_15_method_70_code 126 = .ok (.invokevirtual 132, 3) := by decide +kernel
theorem d15_70_89 : decode prog_15_method_70_code 89 = .ok (.iload_n 3, 1) := by decide +kernel
theorem d15_70_90 : decode prog_15_method_70_code 90 = .ok (.bipush 10, 2) := by decide +kernel
theorem d15_70_92 : decode prog_15_method_70_code 92 = .ok (.if_icmp .ge 31, 3) := by decide +kernel
theorem d15_70_95 : decode prog_15_method_70_code 95 = .ok (.iload_n 2, 1) := by decide +kernel
theorem d15_70_96 : decode prog_15_method_70_code 96 = .ok (.ifCond .eq 27, 3) := by decide +kernel
theorem d15_70_99 : decode prog_15_method_70_code 99 = .ok (.aload_n 0, 1) := by decide +kernel
theorem d15_70_100 : decode prog_15_method_70_code 100 = .ok (.getfield 111, 3) := by decide +kernel
theorem d15_70_103 : decode prog_15_method_70_code 103 = .ok (.ifCond .ge 20, 3) := by decide +kernel
theorem d15_70_106 : decode prog_15_method_70_code 106 = .ok (.aload_n 0, 1) := by decide +kernel
theorem d15_69_0 : decode prog_15_method_69_code 0 = .ok (.aload_n 0, 1) := by decide +kernel
theorem d15_69_1 : decode prog_15_method_69_code 1 = .ok (.getfield 344, 3) := by decide +kernel
theorem d15_69_4 : decode prog_15_method_69_code 4 = .ok (.bipush 8, 2) := by decide +kernel
theorem d15_69_6 : decode prog_15_method_69_code 6 = .ok (.if_icmp .ne 8, 3) := by decide +kernel
theorem d15_69_14 : decode prog_15_method_69_code 14 = .ok (.aload_n 0, 1) := by decide +kernel
theorem d15_69_15 : decode prog_15_method_69_code 15 = .ok (.getfield 344, 3) := by decide +kernel
theorem d15_69_18 : decode prog_15_method_69_code 18 = .ok (.istore_n 1, 1) := by decide +kernel
theorem d15_69_19 : decode prog_15_method_69_code 19 = .ok (.aload_n 0, 1) := by decide +kernel
theorem d15_69_20 : decode prog_15_method_69_code 20 = .ok (.bipush 39, 2) := by decide +kernel
theorem d15_69_22 : decode prog_15_method_69_code 22 = .ok (.invokevirtual 121, 3) := by decide +kernel
theorem d15_69_25 : decode prog_15_method_69_code 25 = .ok (.ifCond .eq 37, 3) := by decide +kernel
theorem d15_69_62 : decode prog_15_method_69_code 62 = .ok (.aload_n 0, 1) := by decide +kernel
theorem d15_69_63 : decode prog_15_method_69_code 63 = .ok (.bipush 42, 2) := by decide +kernel
theorem d15_69_65 : decode prog_15_method_69_code 65 = .ok (.invokevirtual 138, 3) := by decide +kernel
theorem d15_69_68 : decode prog_15_method_69_code 68 = .ok (.ifCond .eq 13, 3) := by decide +kernel
theorem d15_69_81 : decode prog_15_method_69_code 81 = .ok (.aload_n 0, 1) := by decide +kernel
theorem d15_69_82 : decode prog_15_method_69_code 82 = .ok (.getfield 44, 3) := by decide +kernel
theorem d15_69_85 : decode prog_15_method_69_code 85 = .ok (.iload_n 1, 1) := by decide +kernel
theorem d15_69_86 : decode prog_15_method_69_code 86 = .ok (.iconst 2, 1) := by decide +kernel
theorem d15_69_87 : decode prog_15_method_69_code 87 = .ok (.iastore, 1) := by decide +kernel
theorem d15_69_88 : decode prog_15_method_69_code 88 = .ok (.aload_n 0, 1) := by decide +kernel
theorem d15_69_89 : decode prog_15_method_69_code 89 = .ok (.getfield 53, 3) := by decide +kernel
theorem d15_69_92 : decode prog_15_method_69_code 92 = .ok (.iload_n 1, 1) := by decide +kernel
theorem d15_69_93 : decode prog_15_method_69_code 93 = .ok (.aload_n 0, 1) := by decide +kernel
theorem d15_68_0 : decode prog_15_method_68_code 0 = .ok (.aload_n 0, 1) := by decide +kernel
theorem d15_68_1 : decode prog_15_method_68_code 1 = .ok (.bipush 45, 2) := by decide +kernel
theorem d15_68_3 : decode prog_15_method_68_code 3 = .ok (.invokevirtual 138, 3) := by decide +kernel
theorem d15_68_6 : decode prog_15_method_68_code 6 = .ok (.istore_n 1, 1) := by decide +kernel
theorem d15_68_7 : decode prog_15_method_68_code 7 = .ok (.iconst 0, 1) := by decide +kernel
theorem d15_68_8 : decode prog_15_method_68_code 8 = .ok (.istore_n 2, 1) := by decide +kernel
theorem d15_68_9 : decode prog_15_method_68_code 9 = .ok (.iconst 0, 1) := by decide +kernel
theorem d15_68_10 : decode prog_15_method_68_code 10 = .ok (.istore_n 3, 1) := by decide +kernel
theorem d15_68_11 : decode prog_15_method_68_code 11 = .ok (.aload_n 0, 1) := by decide +kernel
theorem d15_68_12 : decode prog_15_method_68_code 12 = .ok (.invokevirtual 114, 3) := by decide +kernel
theorem d15_68_15 : decode prog_15_method_68_code 15 = .ok (.invokestatic 141, 3) := by decide +kernel
theorem d15_68_18 : decode prog_15_method_68_code 18 = .ok (.ifCond .eq 16, 3) := by decide +kernel
theorem d15_68_34 : decode prog_15_method_68_code 34 = .ok (.aload_n 0, 1) := by decide +kernel
theorem d15_68_35 : decode prog_15_method_68_code 35 = .ok (.invokevirtual 118, 3) := by decide +kernel
theorem d15_68_21 : decode prog_15_method_68_code 21 = .ok (.iload_n 1, 1) := by decide +kernel
theorem d15_68_22 : decode prog_15_method_68_code 22 = .ok (.ifCond .eq 16, 3) := by decide +kernel
theorem d15_68_25 : decode prog_15_method_68_code 25 = .ok (.aload_n 0, 1) := by decide +kernel
theorem d15_68_26 : decode prog_15_method_68_code 26 = .ok (.invokevirtual 114, 3) := by decide +kernel
theorem d15_68_29 : decode prog_15_method_68_code 29 = .ok (.bipush 48, 2) := by decide +kernel
theorem d15_68_31 : decode prog_15_method_68_code 31 = .ok (.if_icmp .ne 7, 3) := by decide +kernel
theorem d15_68_38 : decode prog_15_method_68_code 38 = .ok (.aload_n 0, 1) := by decide +kernel
theorem d15_68_39 : decode prog_15_method_68_code 39 = .ok (.bipush 48, 2) := by decide +kernel
theorem d15_68_41 : decode prog_15_method_68_code 41 = .ok (.invokevirtual 121, 3) := by decide +kernel
theorem d15_68_44 : decode prog_15_method_68_code 44 = .ok (.istore 4, 2) := by decide +kernel
theorem d15_68_114 : decode prog_15_method_68_code 114 = .ok (.iload_n 1, 1) := by decide +kernel
theorem d15_68_115 : decode prog_15_method_68_code 115 = .ok (.ifCond .eq 8, 3) := by decide +kernel
theorem d15_68_123 : decode prog_15_method_68_code 123 = .ok (.iload_n 2, 1) := by decide +kernel
theorem d15_68_118 : decode prog_15_method_68_code 118 = .ok (.iload_n 2, 1) := by decide +kernel
theorem d15_68_119 : decode prog_15_method_68_code 119 = .ok (.ineg, 1) := by decide +kernel
theorem d15_68_120 : decode prog_15_method_68_code 120 = .ok (.goto 4, 3) := by decide +kernel
theorem d15_68_124 : decode prog_15_method_68_code 124 = .ok (.ireturn, 1) := by decide +kernel
theorem d15_68_46 : decode prog_15_method_68_code 46 = .ok (.aload_n 0, 1) := by decide +kernel
theorem d15_68_47 : decode prog_15_method_68_code 47 = .ok (.getfield 111, 3) := by decide +kernel
theorem d15_68_50 : decode prog_15_method_68_code 50 = .ok (.ifCond .ge 64, 3) := by decide +kernel
theorem d15_68_53 : decode prog_15_method_68_code 53 = .ok (.aload_n 0, 1) := by decide +kernel
theorem d15_68_54 : decode prog_15_method_68_code 54 = .ok (.invokevirtual 114, 3) := by decide +kernel
theorem d15_68_57 : decode prog_15_method_68_code 57 = .ok (.invokestatic 141, 3) := by decide +kernel
theorem d15_68_60 : decode prog_15_method_68_code 60 = .ok (.ifCond .eq 54, 3) := by decide +kernel
theorem d15_68_63 : decode prog_15_method_68_code 63 = .ok (.iload_n 3, 1) := by decide +kernel
theorem d15_68_64 : decode prog_15_method_68_code 64 = .ok (.iconst 3, 1) := by decide +kernel
theorem d15_68_65 : decode prog_15_method_68_code 65 = .ok (.if_icmp .eq 13, 3) := by decide +kernel
theorem d15_68_78 : decode prog_15_method_68_code 78 = .ok (.aload_n 0, 1) := by decide +kernel
theorem d15_68_79 : decode prog_15_method_68_code 79 = .ok (.invokevirtual 118, 3) := by decide +kernel
theorem d15_68_82 : decode prog_15_method_68_code 82 = .ok (.goto 26, 3) := by decide +kernel
theorem d15_68_68 : decode prog_15_method_68_code 68 = .ok (.iload 4, 2) := by decide +kernel
theorem d15_68_70 : decode prog_15_method_68_code 70 = .ok (.ifCond .eq 15, 3) := by decide +kernel
theorem d15_68_85 : decode prog_15_method_68_code 85 = .ok (.bipush 10, 2) := by decide +kernel
theorem d15_68_87 : decode prog_15_method_68_code 87 = .ok (.iload_n 2, 1) := by decide +kernel
theorem d15_68_88 : decode prog_15_method_68_code 88 = .ok (.imul, 1) := by decide +kernel
theorem d15_68_89 : decode prog_15_method_68_code 89 = .ok (.aload_n 0, 1) := by decide +kernel
theorem d15_68_90 : decode prog_15_method_68_code 90 = .ok (.invokevirtual 114, 3) := by decide +kernel
theorem d15_68_93 : decode prog_15_method_68_code 93 = .ok (.iadd, 1) := by decide +kernel
theorem d15_68_94 : decode prog_15_method_68_code 94 = .ok (.bipush 48, 2) := by decide +kernel
theorem d15_68_96 : decode prog_15_method_68_code 96 = .ok (.isub, 1) := by decide +kernel
theorem d15_68_97 : decode prog_15_method_68_code 97 = .ok (.istore_n 2, 1) := by decide +kernel
theorem d15_68_98 : decode prog_15_method_68_code 98 = .ok (.aload_n 0, 1) := by decide +kernel
theorem d15_68_99 : decode prog_15_method_68_code 99 = .ok (.dup, 1) := by decide +kernel
theorem d15_68_100 : decode prog_15_method_68_code 100 = .ok (.getfield 104, 3) := by decide +kernel
theorem d15_68_103 : decode prog_15_method_68_code 103 = .ok (.iconst 1, 1) := by decide +kernel
theorem d15_68_104 : decode prog_15_method_68_code 104 = .ok (.iadd, 1) := by decide +kernel
theorem d15_68_105 : decode prog_15_method_68_code 105 = .ok (.putfield 104, 3) := by decide +kernel
theorem d15_68_73 : decode prog_15_method_68_code 73 = .ok (.iload_n 3, 1) := by decide +kernel
theorem d15_68_74 : decode prog_15_method_68_code 74 = .ok (.iconst 1, 1) := by decide +kernel
theorem d15_68_75 : decode prog_15_method_68_code 75 = .ok (.if_icmp .ne 10, 3) := by decide +kernel
theorem d15_68_108 : decode prog_15_method_68_code 108 = .ok (.iinc 3 1, 3) := by decide +kernel
theorem d15_68_111 : decode prog_15_method_68_code 111 = .ok (.goto (-65), 3) := by decide +kernel
def y15_68 : MethodName := { cls := "PagedValuesModel", name := "queryNumber", desc := "()I" }
theorem k1577 : (Jvm.Cond.code ({ cls := "PagedValuesModel", name := "queryNumber", desc := "()I" } : Jvm.MethodName) prog_15_method_68_code (5 : Nat) (Option.some Jvm.ClassFile.FieldType.int)) ∈ TB := tk_7 137 rfl rfl
theorem k1574 : (Jvm.Cond.methodLink "PagedValuesModel" (350 : Nat) ({ cls := "PagedValuesModel", name := "queryNumber", desc := "()I" } : Jvm.MethodName)) ∈ TB := tk_7 134 rfl rfl
theorem k1576 : (Jvm.Cond.instanceMethod ({ cls := "PagedValuesModel", name := "queryNumber", desc := "()I" } : Jvm.MethodName)) ∈ TB := tk_7 136 rfl rfl
theorem ks94 : Cond.selects y15_68.cls y15_68 y15_68 ∈ TB := List.mem_filter.mpr ⟨List.mem_append_left _ (List.mem_of_getElem? (i := 94) (by decide +kernel)), rfl⟩
theorem d15_69_94 : decode prog_15_method_69_code 94 = .ok (.invokevirtual 350, 3) := by decide +kernel
theorem d15_69_97 : decode prog_15_method_69_code 97 = .ok (.iastore, 1) := by decide +kernel
theorem d15_69_71 : decode prog_15_method_69_code 71 = .ok (.aload_n 0, 1) := by decide +kernel
theorem d15_69_72 : decode prog_15_method_69_code 72 = .ok (.getfield 44, 3) := by decide +kernel
theorem d15_69_75 : decode prog_15_method_69_code 75 = .ok (.iload_n 1, 1) := by decide +kernel
theorem d15_69_76 : decode prog_15_method_69_code 76 = .ok (.iconst 1, 1) := by decide +kernel
theorem d15_69_77 : decode prog_15_method_69_code 77 = .ok (.iastore, 1) := by decide +kernel
theorem d15_69_78 : decode prog_15_method_69_code 78 = .ok (.goto 20, 3) := by decide +kernel
theorem d15_69_28 : decode prog_15_method_69_code 28 = .ok (.aload_n 0, 1) := by decide +kernel
theorem d15_67_0 : decode prog_15_method_67_code 0 = .ok (.aload_n 0, 1) := by decide +kernel
theorem d15_67_1 : decode prog_15_method_67_code 1 = .ok (.invokevirtual 129, 3) := by decide +kernel
theorem d15_67_4 : decode prog_15_method_67_code 4 = .ok (.aload_n 0, 1) := by decide +kernel
theorem d15_67_5 : decode prog_15_method_67_code 5 = .ok (.bipush 39, 2) := by decide +kernel
theorem d15_67_7 : decode prog_15_method_67_code 7 = .ok (.invokevirtual 132, 3) := by decide +kernel
theorem d15_67_87 : decode prog_15_method_67_code 87 = .ok (.aload_n 0, 1) := by decide +kernel
theorem d15_67_88 : decode prog_15_method_67_code 88 = .ok (.bipush 39, 2) := by decide +kernel
theorem d15_67_90 : decode prog_15_method_67_code 90 = .ok (.invokevirtual 132, 3) := by decide +kernel
theorem d15_67_93 : decode prog_15_method_67_code 93 = .ok (.return_, 1) := by decide +kernel
theorem d15_67_10 : decode prog_15_method_67_code 10 = .ok (.aload_n 0, 1) := by decide +kernel
theorem d15_67_11 : decode prog_15_method_67_code 11 = .ok (.getfield 111, 3) := by decide +kernel
theorem d15_67_14 : decode prog_15_method_67_code 14 = .ok (.ifCond .ge 73, 3) := by decide +kernel
theorem d15_67_17 : decode prog_15_method_67_code 17 = .ok (.aload_n 0, 1) := by decide +kernel
theorem d15_67_18 : decode prog_15_method_67_code 18 = .ok (.invokevirtual 114, 3) := by decide +kernel
theorem d15_67_21 : decode prog_15_method_67_code 21 = .ok (.bipush 39, 2) := by decide +kernel
theorem d15_67_23 : decode prog_15_method_67_code 23 = .ok (.if_icmp .eq 64, 3) := by decide +kernel
theorem d15_67_26 : decode prog_15_method_67_code 26 = .ok (.aload_n 0, 1) := by decide +kernel
theorem d15_67_27 : decode prog_15_method_67_code 27 = .ok (.invokevirtual 114, 3) := by decide +kernel
theorem d15_67_30 : decode prog_15_method_67_code 30 = .ok (.istore_n 1, 1) := by decide +kernel
theorem d15_67_31 : decode prog_15_method_67_code 31 = .ok (.iload_n 1, 1) := by decide +kernel
theorem d15_67_32 : decode prog_15_method_67_code 32 = .ok (.bipush 32, 2) := by decide +kernel
theorem d15_67_34 : decode prog_15_method_67_code 34 = .ok (.if_icmp .lt 28, 3) := by decide +kernel
theorem d15_67_62 : decode prog_15_method_67_code 62 = .ok (.aload_n 0, 1) := by decide +kernel
theorem d15_67_63 : decode prog_15_method_67_code 63 = .ok (.invokevirtual 118, 3) := by decide +kernel
theorem d15_67_66 : decode prog_15_method_67_code 66 = .ok (.goto 18, 3) := by decide +kernel
theorem d15_67_37 : decode prog_15_method_67_code 37 = .ok (.iload_n 1, 1) := by decide +kernel
theorem d15_67_38 : decode prog_15_method_67_code 38 = .ok (.sipush 255, 3) := by decide +kernel
theorem d15_67_41 : decode prog_15_method_67_code 41 = .ok (.if_icmp .gt 21, 3) := by decide +kernel
theorem d15_67_44 : decode prog_15_method_67_code 44 = .ok (.iload_n 1, 1) := by decide +kernel
theorem d15_67_45 : decode prog_15_method_67_code 45 = .ok (.bipush 92, 2) := by decide +kernel
theorem d15_67_47 : decode prog_15_method_67_code 47 = .ok (.if_icmp .eq 15, 3) := by decide +kernel
theorem d15_67_50 : decode prog_15_method_67_code 50 = .ok (.aload_n 0, 1) := by decide +kernel
theorem d15_67_51 : decode prog_15_method_67_code 51 = .ok (.getfield 91, 3) := by decide +kernel
theorem d15_67_54 : decode prog_15_method_67_code 54 = .ok (.invokestatic 95, 3) := by decide +kernel
theorem d15_67_57 : decode prog_15_method_67_code 57 = .ok (.bipush 10, 2) := by decide +kernel
theorem d15_67_59 : decode prog_15_method_67_code 59 = .ok (.if_icmp .ne 10, 3) := by decide +kernel
theorem d15_67_69 : decode prog_15_method_67_code 69 = .ok (.aload_n 0, 1) := by decide +kernel
theorem d15_67_70 : decode prog_15_method_67_code 70 = .ok (.iload_n 1, 1) := by decide +kernel
theorem d15_67_71 : decode prog_15_method_67_code 71 = .ok (.invokevirtual 125, 3) := by decide +kernel
theorem d15_67_74 : decode prog_15_method_67_code 74 = .ok (.aload_n 0, 1) := by decide +kernel
theorem d15_67_75 : decode prog_15_method_67_code 75 = .ok (.dup, 1) := by decide +kernel
theorem d15_67_76 : decode prog_15_method_67_code 76 = .ok (.getfield 104, 3) := by decide +kernel
theorem d15_67_79 : decode prog_15_method_67_code 79 = .ok (.iconst 1, 1) := by decide +kernel
theorem d15_67_80 : decode prog_15_method_67_code 80 = .ok (.iadd, 1) := by decide +kernel
theorem d15_67_81 : decode prog_15_method_67_code 81 = .ok (.putfield 104, 3) := by decide +kernel
theorem d15_67_84 : decode prog_15_method_67_code 84 = .ok (.goto (-74), 3) := by decide +kernel
def y15_67 : MethodName := { cls := "PagedValuesModel", name := "quoted", desc := "()V" }
theorem k1573 : (Jvm.Cond.code ({ cls := "PagedValuesModel", name := "quoted", desc := "()V" } : Jvm.MethodName) prog_15_method_67_code (2 : Nat) (Option.none : Option Jvm.ClassFile.FieldType)) ∈ TB := tk_7 133 rfl rfl
theorem k1570 : (Jvm.Cond.methodLink "PagedValuesModel" (347 : Nat) ({ cls := "PagedValuesModel", name := "quoted", desc := "()V" } : Jvm.MethodName)) ∈ TB := tk_7 130 rfl rfl
theorem k1572 : (Jvm.Cond.instanceMethod ({ cls := "PagedValuesModel", name := "quoted", desc := "()V" } : Jvm.MethodName)) ∈ TB := tk_7 132 rfl rfl
theorem ks93 : Cond.selects y15_67.cls y15_67 y15_67 ∈ TB := List.mem_filter.mpr ⟨List.mem_append_left _ (List.mem_of_getElem? (i := 93) (by decide +kernel)), rfl⟩
theorem d15_69_29 : decode prog_15_method_69_code 29 = .ok (.invokevirtual 347, 3) := by decide +kernel
theorem d15_69_32 : decode prog_15_method_69_code 32 = .ok (.aload_n 0, 1) := by decide +kernel
theorem d15_69_33 : decode prog_15_method_69_code 33 = .ok (.getfield 44, 3) := by decide +kernel
theorem d15_69_36 : decode prog_15_method_69_code 36 = .ok (.iload_n 1, 1) := by decide +kernel
theorem d15_69_37 : decode prog_15_method_69_code 37 = .ok (.iconst 0, 1) := by decide +kernel
theorem d15_69_38 : decode prog_15_method_69_code 38 = .ok (.iastore, 1) := by decide +kernel
theorem d15_69_39 : decode prog_15_method_69_code 39 = .ok (.aload_n 0, 1) := by decide +kernel
theorem d15_69_40 : decode prog_15_method_69_code 40 = .ok (.getfield 47, 3) := by decide +kernel
theorem d15_69_43 : decode prog_15_method_69_code 43 = .ok (.iload_n 1, 1) := by decide +kernel
theorem d15_69_44 : decode prog_15_method_69_code 44 = .ok (.aload_n 0, 1) := by decide +kernel
theorem d15_69_45 : decode prog_15_method_69_code 45 = .ok (.getfield 91, 3) := by decide +kernel
theorem d15_69_48 : decode prog_15_method_69_code 48 = .ok (.lastore, 1) := by decide +kernel
theorem d15_69_49 : decode prog_15_method_69_code 49 = .ok (.aload_n 0, 1) := by decide +kernel
theorem d15_69_50 : decode prog_15_method_69_code 50 = .ok (.getfield 50, 3) := by decide +kernel
theorem d15_69_53 : decode prog_15_method_69_code 53 = .ok (.iload_n 1, 1) := by decide +kernel
theorem d15_69_54 : decode prog_15_method_69_code 54 = .ok (.aload_n 0, 1) := by decide +kernel
theorem d15_69_55 : decode prog_15_method_69_code 55 = .ok (.getfield 99, 3) := by decide +kernel
theorem d15_69_58 : decode prog_15_method_69_code 58 = .ok (.lastore, 1) := by decide +kernel
theorem d15_69_59 : decode prog_15_method_69_code 59 = .ok (.goto 39, 3) := by decide +kernel
theorem d15_69_98 : decode prog_15_method_69_code 98 = .ok (.aload_n 0, 1) := by decide +kernel
theorem d15_69_99 : decode prog_15_method_69_code 99 = .ok (.dup, 1) := by decide +kernel
theorem d15_69_100 : decode prog_15_method_69_code 100 = .ok (.getfield 344, 3) := by decide +kernel
theorem d15_69_103 : decode prog_15_method_69_code 103 = .ok (.iconst 1, 1) := by decide +kernel
theorem d15_69_104 : decode prog_15_method_69_code 104 = .ok (.iadd, 1) := by decide +kernel
theorem d15_69_105 : decode prog_15_method_69_code 105 = .ok (.putfield 344, 3) := by decide +kernel
theorem d15_69_108 : decode prog_15_method_69_code 108 = .ok (.return_, 1) := by decide +kernel
theorem d15_69_9 : decode prog_15_method_69_code 9 = .ok (.aload_n 0, 1) := by decide +kernel
theorem d15_69_10 : decode prog_15_method_69_code 10 = .ok (.invokevirtual 118, 3) := by decide +kernel
theorem d15_69_13 : decode prog_15_method_69_code 13 = .ok (.return_, 1) := by decide +kernel
def y15_69 : MethodName := { cls := "PagedValuesModel", name := "selector", desc := "()V" }
theorem k1569 : (Jvm.Cond.code ({ cls := "PagedValuesModel", name := "selector", desc := "()V" } : Jvm.MethodName) prog_15_method_69_code (2 : Nat) (Option.none : Option Jvm.ClassFile.FieldType)) ∈ TB := tk_7 129 rfl rfl
theorem k1566 : (Jvm.Cond.methodLink "PagedValuesModel" (359 : Nat) ({ cls := "PagedValuesModel", name := "selector", desc := "()V" } : Jvm.MethodName)) ∈ TB := tk_7 126 rfl rfl
theorem k1568 : (Jvm.Cond.instanceMethod ({ cls := "PagedValuesModel", name := "selector", desc := "()V" } : Jvm.MethodName)) ∈ TB := tk_7 128 rfl rfl
theorem ks92 : Cond.selects y15_69.cls y15_69 y15_69 ∈ TB := List.mem_filter.mpr ⟨List.mem_append_left _ (List.mem_of_getElem? (i := 92) (by decide +kernel)), rfl⟩
theorem d15_70_107 : decode prog_15_method_70_code 107 = .ok (.invokevirtual 359, 3) := by decide +kernel
theorem d15_70_110 : decode prog_15_method_70_code 110 = .ok (.aload_n 0, 1) := by decide +kernel
theorem d15_70_111 : decode prog_15_method_70_code 111 = .ok (.bipush 44, 2) := by decide +kernel
theorem d15_70_113 : decode prog_15_method_70_code 113 = .ok (.invokevirtual 138, 3) := by decide +kernel
theorem d15_70_116 : decode prog_15_method_70_code 116 = .ok (.istore_n 2, 1) := by decide +kernel
theorem d15_70_117 : decode prog_15_method_70_code 117 = .ok (.iinc 3 1, 3) := by decide +kernel
theorem d15_70_120 : decode prog_15_method_70_code 120 = .ok (.goto (-31), 3) := by decide +kernel
theorem d15_70_40 : decode prog_15_method_70_code 40 = .ok (.aload_n 0, 1) := by decide +kernel
theorem d15_70_41 : decode prog_15_method_70_code 41 = .ok (.getfield 37, 3) := by decide +kernel
theorem d15_70_44 : decode prog_15_method_70_code 44 = .ok (.aload_n 0, 1) := by decide +kernel
theorem d15_70_45 : decode prog_15_method_70_code 45 = .ok (.getfield 353, 3) := by decide +kernel
theorem d15_70_48 : decode prog_15_method_70_code 48 = .ok (.baload, 1) := by decide +kernel
theorem d15_70_49 : decode prog_15_method_70_code 49 = .ok (.ifCond .eq 12, 3) := by decide +kernel
theorem d15_70_61 : decode prog_15_method_70_code 61 = .ok (.aload_n 0, 1) := by decide +kernel
theorem d15_71_0 : decode prog_15_method_71_code 0 = .ok (.aload_n 0, 1) := by decide +kernel
theorem d15_71_1 : decode prog_15_method_71_code 1 = .ok (.getfield 344, 3) := by decide +kernel
theorem d15_71_4 : decode prog_15_method_71_code 4 = .ok (.bipush 8, 2) := by decide +kernel
theorem d15_71_6 : decode prog_15_method_71_code 6 = .ok (.if_icmp .ne 8, 3) := by decide +kernel
theorem d15_71_14 : decode prog_15_method_71_code 14 = .ok (.aload_n 0, 1) := by decide +kernel
theorem d15_71_15 : decode prog_15_method_71_code 15 = .ok (.bipush 42, 2) := by decide +kernel
theorem d15_71_17 : decode prog_15_method_71_code 17 = .ok (.invokevirtual 138, 3) := by decide +kernel
theorem d15_71_20 : decode prog_15_method_71_code 20 = .ok (.ifCond .eq 16, 3) := by decide +kernel
theorem d15_71_36 : decode prog_15_method_71_code 36 = .ok (.aload_n 0, 1) := by decide +kernel
theorem d15_66_0 : decode prog_15_method_66_code 0 = .ok (.aload_n 0, 1) := by decide +kernel
theorem d15_66_1 : decode prog_15_method_66_code 1 = .ok (.invokevirtual 129, 3) := by decide +kernel
theorem d15_66_4 : decode prog_15_method_66_code 4 = .ok (.aload_n 0, 1) := by decide +kernel
theorem d15_66_5 : decode prog_15_method_66_code 5 = .ok (.getfield 111, 3) := by decide +kernel
theorem d15_66_8 : decode prog_15_method_66_code 8 = .ok (.ifCond .ge 17, 3) := by decide +kernel
theorem d15_66_11 : decode prog_15_method_66_code 11 = .ok (.aload_n 0, 1) := by decide +kernel
theorem d15_66_12 : decode prog_15_method_66_code 12 = .ok (.invokevirtual 114, 3) := by decide +kernel
theorem d15_65_0 : decode prog_15_method_65_code 0 = .ok (.iload_n 0, 1) := by decide +kernel
theorem d15_65_1 : decode prog_15_method_65_code 1 = .ok (.bipush 97, 2) := by decide +kernel
theorem d15_65_3 : decode prog_15_method_65_code 3 = .ok (.if_icmp .lt 9, 3) := by decide +kernel
theorem d15_65_12 : decode prog_15_method_65_code 12 = .ok (.iload_n 0, 1) := by decide +kernel
theorem d15_65_13 : decode prog_15_method_65_code 13 = .ok (.bipush 65, 2) := by decide +kernel
theorem d15_65_15 : decode prog_15_method_65_code 15 = .ok (.if_icmp .lt 9, 3) := by decide +kernel
theorem d15_65_24 : decode prog_15_method_65_code 24 = .ok (.iload_n 0, 1) := by decide +kernel
theorem d15_65_25 : decode prog_15_method_65_code 25 = .ok (.bipush 95, 2) := by decide +kernel
theorem d15_65_27 : decode prog_15_method_65_code 27 = .ok (.if_icmp .ne 7, 3) := by decide +kernel
theorem d15_65_34 : decode prog_15_method_65_code 34 = .ok (.iconst 0, 1) := by decide +kernel
theorem d15_65_30 : decode prog_15_method_65_code 30 = .ok (.iconst 1, 1) := by decide +kernel
theorem d15_65_31 : decode prog_15_method_65_code 31 = .ok (.goto 4, 3) := by decide +kernel
theorem d15_65_18 : decode prog_15_method_65_code 18 = .ok (.iload_n 0, 1) := by decide +kernel
theorem d15_65_19 : decode prog_15_method_65_code 19 = .ok (.bipush 90, 2) := by decide +kernel
theorem d15_65_21 : decode prog_15_method_65_code 21 = .ok (.if_icmp .le 9, 3) := by decide +kernel
theorem d15_65_6 : decode prog_15_method_65_code 6 = .ok (.iload_n 0, 1) := by decide +kernel
theorem d15_65_7 : decode prog_15_method_65_code 7 = .ok (.bipush 122, 2) := by decide +kernel
theorem d15_65_9 : decode prog_15_method_65_code 9 = .ok (.if_icmp .le 21, 3) := by decide +kernel
theorem d15_65_35 : decode prog_15_method_65_code 35 = .ok (.ireturn, 1) := by decide +kernel
def y15_65 : MethodName := { cls := "PagedValuesModel", name := "isLetter", desc := "(I)Z" }
theorem k1565 : (Jvm.Cond.code ({ cls := "PagedValuesModel", name := "isLetter", desc := "(I)Z" } : Jvm.MethodName) prog_15_method_65_code (1 : Nat) (Option.some Jvm.ClassFile.FieldType.boolean)) ∈ TB := tk_7 125 rfl rfl
theorem k1563 : (Jvm.Cond.methodLink "PagedValuesModel" (341 : Nat) ({ cls := "PagedValuesModel", name := "isLetter", desc := "(I)Z" } : Jvm.MethodName)) ∈ TB := tk_7 123 rfl rfl
theorem k1564 : (Jvm.Cond.static ({ cls := "PagedValuesModel", name := "isLetter", desc := "(I)Z" } : Jvm.MethodName)) ∈ TB := tk_7 124 rfl rfl
theorem d15_66_15 : decode prog_15_method_66_code 15 = .ok (.invokestatic 341, 3) := by decide +kernel
theorem d15_66_18 : decode prog_15_method_66_code 18 = .ok (.ifCond .ne 7, 3) := by decide +kernel
theorem d15_66_21 : decode prog_15_method_66_code 21 = .ok (.aload_n 0, 1) := by decide +kernel
theorem d15_66_22 : decode prog_15_method_66_code 22 = .ok (.invokevirtual 118, 3) := by decide +kernel
theorem d15_66_92 : decode prog_15_method_66_code 92 = .ok (.return_, 1) := by decide +kernel
theorem d15_66_25 : decode prog_15_method_66_code 25 = .ok (.aload_n 0, 1) := by decide +kernel
theorem d15_66_26 : decode prog_15_method_66_code 26 = .ok (.getfield 111, 3) := by decide +kernel
theorem d15_66_29 : decode prog_15_method_66_code 29 = .ok (.ifCond .ge 63, 3) := by decide +kernel
theorem d15_66_32 : decode prog_15_method_66_code 32 = .ok (.aload_n 0, 1) := by decide +kernel
theorem d15_66_33 : decode prog_15_method_66_code 33 = .ok (.invokevirtual 114, 3) := by decide +kernel
theorem d15_66_36 : decode prog_15_method_66_code 36 = .ok (.invokestatic 341, 3) := by decide +kernel
theorem d15_66_39 : decode prog_15_method_66_code 39 = .ok (.ifCond .ne 13, 3) := by decide +kernel
theorem d15_66_52 : decode prog_15_method_66_code 52 = .ok (.aload_n 0, 1) := by decide +kernel
theorem d15_66_53 : decode prog_15_method_66_code 53 = .ok (.getfield 91, 3) := by decide +kernel
theorem d15_66_56 : decode prog_15_method_66_code 56 = .ok (.invokestatic 95, 3) := by decide +kernel
theorem d15_66_59 : decode prog_15_method_66_code 59 = .ok (.bipush 10, 2) := by decide +kernel
theorem d15_66_61 : decode prog_15_method_66_code 61 = .ok (.if_icmp .ne 10, 3) := by decide +kernel
theorem d15_66_71 : decode prog_15_method_66_code 71 = .ok (.aload_n 0, 1) := by decide +kernel
theorem d15_66_72 : decode prog_15_method_66_code 72 = .ok (.aload_n 0, 1) := by decide +kernel
theorem d15_66_73 : decode prog_15_method_66_code 73 = .ok (.invokevirtual 114, 3) := by decide +kernel
theorem d15_66_76 : decode prog_15_method_66_code 76 = .ok (.invokevirtual 125, 3) := by decide +kernel
theorem d15_66_79 : decode prog_15_method_66_code 79 = .ok (.aload_n 0, 1) := by decide +kernel
theorem d15_66_80 : decode prog_15_method_66_code 80 = .ok (.dup, 1) := by decide +kernel
theorem d15_66_81 : decode prog_15_method_66_code 81 = .ok (.getfield 104, 3) := by decide +kernel
theorem d15_66_84 : decode prog_15_method_66_code 84 = .ok (.iconst 1, 1) := by decide +kernel
theorem d15_66_85 : decode prog_15_method_66_code 85 = .ok (.iadd, 1) := by decide +kernel
theorem d15_66_86 : decode prog_15_method_66_code 86 = .ok (.putfield 104, 3) := by decide +kernel
theorem d15_66_89 : decode prog_15_method_66_code 89 = .ok (.goto (-64), 3) := by decide +kernel
theorem d15_66_64 : decode prog_15_method_66_code 64 = .ok (.aload_n 0, 1) := by decide +kernel
theorem d15_66_65 : decode prog_15_method_66_code 65 = .ok (.invokevirtual 118, 3) := by decide +kernel
theorem d15_66_68 : decode prog_15_method_66_code 68 = .ok (.goto (-43), 3) := by decide +kernel
theorem d15_66_42 : decode prog_15_method_66_code 42 = .ok (.aload_n 0, 1) := by decide +kernel
theorem d15_66_43 : decode prog_15_method_66_code 43 = .ok (.invokevirtual 114, 3) := by decide +kernel
theorem d15_66_46 : decode prog_15_method_66_code 46 = .ok (.invokestatic 141, 3) := by decide +kernel
theorem d15_66_49 : decode prog_15_method_66_code 49 = .ok (.ifCond .eq 43, 3) := by decide +kernel
def y15_66 : MethodName := { cls := "PagedValuesModel", name := "queryName", desc := "()V" }
theorem k1562 : (Jvm.Cond.code ({ cls := "PagedValuesModel", name := "queryName", desc := "()V" } : Jvm.MethodName) prog_15_method_66_code (1 : Nat) (Option.none : Option Jvm.ClassFile.FieldType)) ∈ TB := tk_7 122 rfl rfl
theorem k1559 : (Jvm.Cond.methodLink "PagedValuesModel" (362 : Nat) ({ cls := "PagedValuesModel", name := "queryName", desc := "()V" } : Jvm.MethodName)) ∈ TB := tk_7 119 rfl rfl
theorem k1561 : (Jvm.Cond.instanceMethod ({ cls := "PagedValuesModel", name := "queryName", desc := "()V" } : Jvm.MethodName)) ∈ TB := tk_7 121 rfl rfl
theorem ks91 : Cond.selects y15_66.cls y15_66 y15_66 ∈ TB := List.mem_filter.mpr ⟨List.mem_append_left _ (List.mem_of_getElem? (i := 91) (by decide +kernel)), rfl⟩
theorem d15_71_37 : decode prog_15_method_71_code 37 = .ok (.invokevirtual 362, 3) := by decide +kernel
theorem d15_71_40 : decode prog_15_method_71_code 40 = .ok (.aload_n 0, 1) := by decide +kernel
theorem d15_71_41 : decode prog_15_method_71_code 41 = .ok (.getfield 44, 3) := by decide +kernel
theorem d15_71_44 : decode prog_15_method_71_code 44 = .ok (.aload_n 0, 1) := by decide +kernel
theorem d15_71_45 : decode prog_15_method_71_code 45 = .ok (.getfield 344, 3) := by decide +kernel
theorem d15_71_48 : decode prog_15_method_71_code 48 = .ok (.iconst 0, 1) := by decide +kernel
theorem d15_71_49 : decode prog_15_method_71_code 49 = .ok (.iastore, 1) := by decide +kernel
theorem d15_71_50 : decode prog_15_method_71_code 50 = .ok (.aload_n 0, 1) := by decide +kernel
theorem d15_71_51 : decode prog_15_method_71_code 51 = .ok (.getfield 47, 3) := by decide +kernel
theorem d15_71_54 : decode prog_15_method_71_code 54 = .ok (.aload_n 0, 1) := by decide +kernel
theorem d15_71_55 : decode prog_15_method_71_code 55 = .ok (.getfield 344, 3) := by decide +kernel
theorem d15_71_58 : decode prog_15_method_71_code 58 = .ok (.aload_n 0, 1) := by decide +kernel
theorem d15_71_59 : decode prog_15_method_71_code 59 = .ok (.getfield 91, 3) := by decide +kernel
theorem d15_71_62 : decode prog_15_method_71_code 62 = .ok (.lastore, 1) := by decide +kernel
theorem d15_71_63 : decode prog_15_method_71_code 63 = .ok (.aload_n 0, 1) := by decide +kernel
theorem d15_71_64 : decode prog_15_method_71_code 64 = .ok (.getfield 50, 3) := by decide +kernel
theorem d15_71_67 : decode prog_15_method_71_code 67 = .ok (.aload_n 0, 1) := by decide +kernel
theorem d15_71_68 : decode prog_15_method_71_code 68 = .ok (.getfield 344, 3) := by decide +kernel
theorem d15_71_71 : decode prog_15_method_71_code 71 = .ok (.aload_n 0, 1) := by decide +kernel
theorem d15_71_72 : decode prog_15_method_71_code 72 = .ok (.getfield 99, 3) := by decide +kernel
theorem d15_71_75 : decode prog_15_method_71_code 75 = .ok (.lastore, 1) := by decide +kernel
theorem d15_71_23 : decode prog_15_method_71_code 23 = .ok (.aload_n 0, 1) := by decide +kernel
theorem d15_71_24 : decode prog_15_method_71_code 24 = .ok (.getfield 44, 3) := by decide +kernel
theorem d15_71_27 : decode prog_15_method_71_code 27 = .ok (.aload_n 0, 1) := by decide +kernel
theorem d15_71_28 : decode prog_15_method_71_code 28 = .ok (.getfield 344, 3) := by decide +kernel
theorem d15_71_31 : decode prog_15_method_71_code 31 = .ok (.iconst 1, 1) := by decide +kernel
theorem d15_71_32 : decode prog_15_method_71_code 32 = .ok (.iastore, 1) := by decide +kernel
theorem d15_71_33 : decode prog_15_method_71_code 33 = .ok (.goto 43, 3) := by decide +kernel
theorem d15_71_76 : decode prog_15_method_71_code 76 = .ok (.aload_n 0, 1) := by decide +kernel
theorem d15_71_77 : decode prog_15_method_71_code 77 = .ok (.dup, 1) := by decide +kernel
theorem d15_71_78 : decode prog_15_method_71_code 78 = .ok (.getfield 344, 3) := by decide +kernel
theorem d15_71_81 : decode prog_15_method_71_code 81 = .ok (.iconst 1, 1) := by decide +kernel
theorem d15_71_82 : decode prog_15_method_71_code 82 = .ok (.iadd, 1) := by decide +kernel
theorem d15_71_83 : decode prog_15_method_71_code 83 = .ok (.putfield 344, 3) := by decide +kernel
theorem d15_71_86 : decode prog_15_method_71_code 86 = .ok (.return_, 1) := by decide +kernel
theorem d15_71_9 : decode prog_15_method_71_code 9 = .ok (.aload_n 0, 1) := by decide +kernel
theorem d15_71_10 : decode prog_15_method_71_code 10 = .ok (.invokevirtual 118, 3) := by decide +kernel
theorem d15_71_13 : decode prog_15_method_71_code 13 = .ok (.return_, 1) := by decide +kernel
def y15_71 : MethodName := { cls := "PagedValuesModel", name := "shortSegment", desc := "()V" }
theorem k1558 : (Jvm.Cond.code ({ cls := "PagedValuesModel", name := "shortSegment", desc := "()V" } : Jvm.MethodName) prog_15_method_71_code (1 : Nat) (Option.none : Option Jvm.ClassFile.FieldType)) ∈ TB := tk_7 118 rfl rfl
theorem k1555 : (Jvm.Cond.methodLink "PagedValuesModel" (356 : Nat) ({ cls := "PagedValuesModel", name := "shortSegment", desc := "()V" } : Jvm.MethodName)) ∈ TB := tk_7 115 rfl rfl
theorem k1557 : (Jvm.Cond.instanceMethod ({ cls := "PagedValuesModel", name := "shortSegment", desc := "()V" } : Jvm.MethodName)) ∈ TB := tk_7 117 rfl rfl
theorem ks90 : Cond.selects y15_71.cls y15_71 y15_71 ∈ TB := List.mem_filter.mpr ⟨List.mem_append_left _ (List.mem_of_getElem? (i := 90) (by decide +kernel)), rfl⟩
theorem d15_70_62 : decode prog_15_method_70_code 62 = .ok (.invokevirtual 356, 3) := by decide +kernel
theorem d15_70_65 : decode prog_15_method_70_code 65 = .ok (.goto 64, 3) := by decide +kernel
theorem d15_70_52 : decode prog_15_method_70_code 52 = .ok (.aload_n 0, 1) := by decide +kernel
theorem d15_70_53 : decode prog_15_method_70_code 53 = .ok (.bipush 91, 2) := by decide +kernel
theorem d15_70_55 : decode prog_15_method_70_code 55 = .ok (.invokevirtual 121, 3) := by decide +kernel
theorem d15_70_58 : decode prog_15_method_70_code 58 = .ok (.ifCond .ne 10, 3) := by decide +kernel
theorem d15_70_129 : decode prog_15_method_70_code 129 = .ok (.aload_n 0, 1) := by decide +kernel
theorem d15_70_130 : decode prog_15_method_70_code 130 = .ok (.getfield 111, 3) := by decide +kernel
theorem d15_70_133 : decode prog_15_method_70_code 133 = .ok (.ifCond .ge 26, 3) := by decide +kernel
theorem d15_70_136 : decode prog_15_method_70_code 136 = .ok (.aload_n 0, 1) := by decide +kernel
theorem d15_70_137 : decode prog_15_method_70_code 137 = .ok (.getfield 41, 3) := by decide +kernel
theorem d15_70_140 : decode prog_15_method_70_code 140 = .ok (.aload_n 0, 1) := by decide +kernel
theorem d15_70_141 : decode prog_15_method_70_code 141 = .ok (.getfield 353, 3) := by decide +kernel
theorem d15_70_144 : decode prog_15_method_70_code 144 = .ok (.aload_n 0, 1) := by decide +kernel
theorem d15_70_145 : decode prog_15_method_70_code 145 = .ok (.getfield 344, 3) := by decide +kernel
theorem d15_70_148 : decode prog_15_method_70_code 148 = .ok (.iastore, 1) := by decide +kernel
theorem d15_70_149 : decode prog_15_method_70_code 149 = .ok (.aload_n 0, 1) := by decide +kernel
theorem d15_70_150 : decode prog_15_method_70_code 150 = .ok (.dup, 1) := by decide +kernel
theorem d15_70_151 : decode prog_15_method_70_code 151 = .ok (.getfield 353, 3) := by decide +kernel
theorem d15_70_154 : decode prog_15_method_70_code 154 = .ok (.iconst 1, 1) := by decide +kernel
theorem d15_70_155 : decode prog_15_method_70_code 155 = .ok (.iadd, 1) := by decide +kernel
theorem d15_70_156 : decode prog_15_method_70_code 156 = .ok (.putfield 353, 3) := by decide +kernel
theorem d15_70_159 : decode prog_15_method_70_code 159 = .ok (.return_, 1) := by decide +kernel
def y15_70 : MethodName := { cls := "PagedValuesModel", name := "segment", desc := "()V" }
theorem k1554 : (Jvm.Cond.code ({ cls := "PagedValuesModel", name := "segment", desc := "()V" } : Jvm.MethodName) prog_15_method_70_code (4 : Nat) (Option.none : Option Jvm.ClassFile.FieldType)) ∈ TB := tk_7 114 rfl rfl
theorem k1551 : (Jvm.Cond.methodLink "PagedValuesModel" (365 : Nat) ({ cls := "PagedValuesModel", name := "segment", desc := "()V" } : Jvm.MethodName)) ∈ TB := tk_7 111 rfl rfl
theorem k1553 : (Jvm.Cond.instanceMethod ({ cls := "PagedValuesModel", name := "segment", desc := "()V" } : Jvm.MethodName)) ∈ TB := tk_7 113 rfl rfl
theorem ks89 : Cond.selects y15_70.cls y15_70 y15_70 ∈ TB := List.mem_filter.mpr ⟨List.mem_append_left _ (List.mem_of_getElem? (i := 89) (by decide +kernel)), rfl⟩
theorem d15_72_53 : decode prog_15_method_72_code 53 = .ok (.invokevirtual 365, 3) := by decide +kernel
theorem d15_72_56 : decode prog_15_method_72_code 56 = .ok (.iinc 1 1, 3) := by decide +kernel
theorem d15_72_59 : decode prog_15_method_72_code 59 = .ok (.goto (-31), 3) := by decide +kernel
def y15_72 : MethodName := { cls := "PagedValuesModel", name := "readQuery", desc := "()V" }
theorem k1550 : (Jvm.Cond.code ({ cls := "PagedValuesModel", name := "readQuery", desc := "()V" } : Jvm.MethodName) prog_15_method_72_code (2 : Nat) (Option.none : Option Jvm.ClassFile.FieldType)) ∈ TB := tk_7 110 rfl rfl
theorem k1547 : (Jvm.Cond.methodLink "PagedValuesModel" (392 : Nat) ({ cls := "PagedValuesModel", name := "readQuery", desc := "()V" } : Jvm.MethodName)) ∈ TB := tk_7 107 rfl rfl
theorem k1549 : (Jvm.Cond.instanceMethod ({ cls := "PagedValuesModel", name := "readQuery", desc := "()V" } : Jvm.MethodName)) ∈ TB := tk_7 109 rfl rfl
theorem ks88 : Cond.selects y15_72.cls y15_72 y15_72 ∈ TB := List.mem_filter.mpr ⟨List.mem_append_left _ (List.mem_of_getElem? (i := 88) (by decide +kernel)), rfl⟩
theorem d15_78_44 : decode prog_15_method_78_code 44 = .ok (.invokevirtual 392, 3) := by decide +kernel
theorem d15_78_47 : decode prog_15_method_78_code 47 = .ok (.aload_n 0, 1) := by decide +kernel
theorem d15_78_48 : decode prog_15_method_78_code 48 = .ok (.iconst 0, 1) := by decide +kernel
theorem d15_78_49 : decode prog_15_method_78_code 49 = .ok (.putfield 108, 3) := by decide +kernel
theorem d15_78_52 : decode prog_15_method_78_code 52 = .ok (.aload_n 0, 1) := by decide +kernel
theorem d15_78_53 : decode prog_15_method_78_code 53 = .ok (.getfield 111, 3) := by decide +kernel
theorem d15_78_56 : decode prog_15_method_78_code 56 = .ok (.ifCond .lt 11, 3) := by decide +kernel
theorem d15_78_67 : decode prog_15_method_78_code 67 = .ok (.aload_n 0, 1) := by decide +kernel
theorem d15_78_68 : decode prog_15_method_78_code 68 = .ok (.iconst 0, 1) := by decide +kernel
theorem d15_78_69 : decode prog_15_method_78_code 69 = .ok (.putfield 371, 3) := by decide +kernel
theorem k1178 : (Jvm.Cond.fieldLink "PagedValuesModel" (371 : Nat) "PagedValuesModel" "many" "Z") ∈ TB := tk_5 218 rfl rfl
theorem d15_78_72 : decode prog_15_method_78_code 72 = .ok (.iconst 0, 1) := by decide +kernel
theorem d15_78_73 : decode prog_15_method_78_code 73 = .ok (.istore_n 3, 1) := by decide +kernel
theorem d15_78_127 : decode prog_15_method_78_code 127 = .ok (.aload_n 0, 1) := by decide +kernel
theorem d15_78_128 : decode prog_15_method_78_code 128 = .ok (.aload_n 0, 1) := by decide +kernel
theorem d15_78_129 : decode prog_15_method_78_code 129 = .ok (.getfield 371, 3) := by decide +kernel
theorem d15_78_132 : decode prog_15_method_78_code 132 = .ok (.ifCond .eq 7, 3) := by decide +kernel
theorem d15_78_139 : decode prog_15_method_78_code 139 = .ok (.aload_n 0, 1) := by decide +kernel
theorem d15_78_140 : decode prog_15_method_78_code 140 = .ok (.getfield 383, 3) := by decide +kernel
theorem d15_78_135 : decode prog_15_method_78_code 135 = .ok (.iconst 0, 1) := by decide +kernel
theorem d15_78_136 : decode prog_15_method_78_code 136 = .ok (.goto 7, 3) := by decide +kernel
theorem d15_78_143 : decode prog_15_method_78_code 143 = .ok (.putfield 383, 3) := by decide +kernel
theorem d15_78_146 : decode prog_15_method_78_code 146 = .ok (.aload_n 0, 1) := by decide +kernel
theorem d15_78_147 : decode prog_15_method_78_code 147 = .ok (.getfield 371, 3) := by decide +kernel
theorem d15_78_150 : decode prog_15_method_78_code 150 = .ok (.ifCond .eq 8, 3) := by decide +kernel
theorem d15_78_158 : decode prog_15_method_78_code 158 = .ok (.aload_n 0, 1) := by decide +kernel
theorem d15_78_159 : decode prog_15_method_78_code 159 = .ok (.getfield 383, 3) := by decide +kernel
theorem d15_78_153 : decode prog_15_method_78_code 153 = .ok (.bipush (-6), 2) := by decide +kernel
theorem d15_78_155 : decode prog_15_method_78_code 155 = .ok (.goto 7, 3) := by decide +kernel
theorem d15_78_162 : decode prog_15_method_78_code 162 = .ok (.ireturn, 1) := by decide +kernel
theorem d15_78_74 : decode prog_15_method_78_code 74 = .ok (.iload_n 3, 1) := by decide +kernel
theorem d15_78_75 : decode prog_15_method_78_code 75 = .ok (.bipush 8, 2) := by decide +kernel
theorem d15_78_77 : decode prog_15_method_78_code 77 = .ok (.if_icmp .ge 50, 3) := by decide +kernel
theorem d15_78_80 : decode prog_15_method_78_code 80 = .ok (.aload_n 0, 1) := by decide +kernel
theorem d15_78_81 : decode prog_15_method_78_code 81 = .ok (.getfield 371, 3) := by decide +kernel
theorem d15_78_84 : decode prog_15_method_78_code 84 = .ok (.ifCond .ne 43, 3) := by decide +kernel
theorem d15_78_87 : decode prog_15_method_78_code 87 = .ok (.aload_n 0, 1) := by decide +kernel
theorem d15_78_88 : decode prog_15_method_78_code 88 = .ok (.aload_n 0, 1) := by decide +kernel
theorem d15_78_89 : decode prog_15_method_78_code 89 = .ok (.iload_n 1, 1) := by decide +kernel
theorem d15_77_0 : decode prog_15_method_77_code 0 = .ok (.iload_n 1, 1) := by decide +kernel
theorem d15_77_1 : decode prog_15_method_77_code 1 = .ok (.ifCond .ge 15, 3) := by decide +kernel
theorem d15_77_16 : decode prog_15_method_77_code 16 = .ok (.aload_n 0, 1) := by decide +kernel
theorem d15_77_17 : decode prog_15_method_77_code 17 = .ok (.getfield 86, 3) := by decide +kernel
theorem d15_77_20 : decode prog_15_method_77_code 20 = .ok (.iload_n 1, 1) := by decide +kernel
theorem d15_77_21 : decode prog_15_method_77_code 21 = .ok (.iaload, 1) := by decide +kernel
theorem d15_77_4 : decode prog_15_method_77_code 4 = .ok (.aload_n 0, 1) := by decide +kernel
theorem d15_77_5 : decode prog_15_method_77_code 5 = .ok (.getfield 77, 3) := by decide +kernel
theorem d15_77_8 : decode prog_15_method_77_code 8 = .ok (.aload_n 0, 1) := by decide +kernel
theorem d15_77_9 : decode prog_15_method_77_code 9 = .ok (.invokevirtual 312, 3) := by decide +kernel
theorem d15_77_12 : decode prog_15_method_77_code 12 = .ok (.iaload, 1) := by decide +kernel
theorem d15_77_13 : decode prog_15_method_77_code 13 = .ok (.goto 9, 3) := by decide +kernel
theorem d15_77_22 : decode prog_15_method_77_code 22 = .ok (.ireturn, 1) := by decide +kernel
def y15_77 : MethodName := { cls := "PagedValuesModel", name := "rootOf", desc := "(I)I" }
theorem k1546 : (Jvm.Cond.code ({ cls := "PagedValuesModel", name := "rootOf", desc := "(I)I" } : Jvm.MethodName) prog_15_method_77_code (2 : Nat) (Option.some Jvm.ClassFile.FieldType.int)) ∈ TB := tk_7 106 rfl rfl
theorem k1543 : (Jvm.Cond.methodLink "PagedValuesModel" (389 : Nat) ({ cls := "PagedValuesModel", name := "rootOf", desc := "(I)I" } : Jvm.MethodName)) ∈ TB := tk_7 103 rfl rfl
theorem k1545 : (Jvm.Cond.instanceMethod ({ cls := "PagedValuesModel", name := "rootOf", desc := "(I)I" } : Jvm.MethodName)) ∈ TB := tk_7 105 rfl rfl
theorem ks87 : Cond.selects y15_77.cls y15_77 y15_77 ∈ TB := List.mem_filter.mpr ⟨List.mem_append_left _ (List.mem_of_getElem? (i := 87) (by decide +kernel)), rfl⟩
theorem d15_78_90 : decode prog_15_method_78_code 90 = .ok (.invokevirtual 389, 3) := by decide +kernel
theorem d15_78_93 : decode prog_15_method_78_code 93 = .ok (.iload_n 3, 1) := by decide +kernel
theorem d15_78_94 : decode prog_15_method_78_code 94 = .ok (.invokevirtual 299, 3) := by decide +kernel
theorem d15_78_97 : decode prog_15_method_78_code 97 = .ok (.istore 4, 2) := by decide +kernel
theorem d15_78_99 : decode prog_15_method_78_code 99 = .ok (.iload 4, 2) := by decide +kernel
theorem d15_78_101 : decode prog_15_method_78_code 101 = .ok (.ifCond .lt 20, 3) := by decide +kernel
theorem d15_78_104 : decode prog_15_method_78_code 104 = .ok (.iload_n 2, 1) := by decide +kernel
theorem d15_78_105 : decode prog_15_method_78_code 105 = .ok (.iconst (-1), 1) := by decide +kernel
theorem d15_78_106 : decode prog_15_method_78_code 106 = .ok (.if_icmp .eq 8, 3) := by decide +kernel
theorem d15_78_114 : decode prog_15_method_78_code 114 = .ok (.aload_n 0, 1) := by decide +kernel
theorem d15_78_115 : decode prog_15_method_78_code 115 = .ok (.iload 4, 2) := by decide +kernel
theorem d15_78_117 : decode prog_15_method_78_code 117 = .ok (.iload_n 3, 1) := by decide +kernel
theorem d15_75_0 : decode prog_15_method_75_code 0 = .ok (.aload_n 0, 1) := by decide +kernel
theorem d15_75_1 : decode prog_15_method_75_code 1 = .ok (.iconst 1, 1) := by decide +kernel
theorem d15_75_2 : decode prog_15_method_75_code 2 = .ok (.putfield 377, 3) := by decide +kernel
theorem k1174 : (Jvm.Cond.fieldLink "PagedValuesModel" (377 : Nat) "PagedValuesModel" "found" "I") ∈ TB := tk_5 214 rfl rfl
theorem d15_75_5 : decode prog_15_method_75_code 5 = .ok (.aload_n 0, 1) := by decide +kernel
theorem d15_75_6 : decode prog_15_method_75_code 6 = .ok (.getfield 56, 3) := by decide +kernel
theorem d15_75_9 : decode prog_15_method_75_code 9 = .ok (.iconst 0, 1) := by decide +kernel
theorem d15_75_10 : decode prog_15_method_75_code 10 = .ok (.iload_n 1, 1) := by decide +kernel
theorem d15_75_11 : decode prog_15_method_75_code 11 = .ok (.invokestatic 159, 3) := by decide +kernel
