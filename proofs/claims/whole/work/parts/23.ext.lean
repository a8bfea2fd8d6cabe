def m_copyRow (a0 : Int32) (a1 : Int32) (st : MS) : Option (MS) := (m_at a0).bind fun x1 => (m_at a1).bind fun x4 => (m_at a0).bind fun x7 => (rd (st.2.2.1 2) 2100 x7).bind fun x10 => (m_copy x1 x4 x10 st).bind fun st12 => some st12
set_option maxHeartbeats 4000000 in
set_option maxRecDepth 100000 in
theorem cm_copyRow (l : Launch) (G : Gk) (Zd : Nat → Nat) (q : Nat → Nat) (a0 : Int32) (a1 : Int32) (st : MS) (st0 : MS) (hm : m_copyRow a0 a1 st = some st0) (sz : Nat) : Met l y15_30 (Cond.code y15_30 prog_15_method_30_code 3 none :: TB) (rmD 1 0 0) (va_Pc [.ref (q 0), .int a0, .int a1] (pcW G Zd (wMs q G.2 st) sz)) (qV G (fun (_ : Unit) => True) (fun _ => (wMs q G.2 st0)) (va_A (wMs q G.2 st) sz)) 0 0 (va_A (wMs q G.2 st) sz) := by
  refine go (y := y15_30) (cc := prog_15_method_30_code) (maxL := 3) (ret := none) (av := [.ref (q 0), .int a0, .int a1]) (Qc := qV G (fun (_ : Unit) => True) (fun _ => (wMs q G.2 st0))) "PagedValuesModel" rfl (by decide) (Nat.le_of_ble_eq_true rfl) ?_
  intro p e s m below meth c ls A hx hb hr hlk hml hown hts hin hl hP hD hK hS hA hZ
  have hl : lv_has ls 3 [(0, .ref (q 0)), (1, .int a0), (2, .int a1)] := hl
  have h := hm
  clear hm
  refine lv_aload_n hx hb d15_30_0 rfl (lv_at hl 0 rfl) ?_
  refine lv_iload_n hx hb d15_30_1 rfl (lv_at hl 1 rfl) ?_
  obtain ⟨x1, hc, h⟩ := ob h
  refine sS_i (As := [.int a0]) (rest := [.ref (q 0)]) ⟨hx, hb, hml, hown, hts⟩ (cm_at l G Zd _ a0 x1 hc _) (kw_S (n := 1) hts k1312 k1310 k15 k1311 (by decide +kernel) ⟨Nat.le_of_ble_eq_true rfl, Nat.le_of_ble_eq_true rfl⟩) hP hD hK hS hA hZ rfl hl.1 rfl (Nat.le_of_ble_eq_true rfl) d15_30_2 ⟨Nat.le_of_ble_eq_true rfl, Nat.le_of_ble_eq_true rfl⟩ (fun rr u9 H locs hp hP hD hS => ?_)
  clear u9
  subst rr
  clear hc
  refine W.eq (g2 := F0 m 5 ls [.int x1, .ref (q 0)]) rfl ?_
  have hP : va_P G.1 vwCl (wMs q G.2 st) H := hP
  have hD : va_D A (wMs q G.2 st) := hD
  refine lv_iload_n hx hb d15_30_5 rfl (lv_at hl 2 rfl) ?_
  obtain ⟨x4, hc, h⟩ := ob h
  refine sS_i (As := [.int a1]) (rest := [.int x1, .ref (q 0)]) ⟨hx, hb, hml, hown, hts⟩ (cm_at l G Zd _ a1 x4 hc _) (kw_S (n := 1) hts k1312 k1310 k15 k1311 (by decide +kernel) ⟨Nat.le_of_ble_eq_true rfl, Nat.le_of_ble_eq_true rfl⟩) hP hD hK hS hA hZ rfl hl.1 rfl (Nat.le_of_ble_eq_true rfl) d15_30_6 ⟨Nat.le_of_ble_eq_true rfl, Nat.le_of_ble_eq_true rfl⟩ (fun rr u9 H locs hp hP hD hS => ?_)
  clear u9
  subst rr
  clear hc
  refine W.eq (g2 := F0 m 9 ls [.int x4, .int x1, .ref (q 0)]) rfl ?_
  have hP : va_P G.1 vwCl (wMs q G.2 st) H := hP
  have hD : va_D A (wMs q G.2 st) := hD
  refine lv_aload_n hx hb d15_30_9 rfl (lv_at hl 0 rfl) ?_
  refine va_get (D := G.1) (ci := 13) (v := .ref (q 3)) (C := r_13) (T := f_13) (N := 42) (ref := "PagedValuesModel") hx hb hts (fun w h => List.mem_cons_of_mem _ (ly_13 w h)) hown hK hP 0 rfl rfl 5 (by decide) (hts _ (List.mem_cons_of_mem _ k1156)) (fun _ h9 => h9) rfl d15_30_10 ?_
  refine lv_iload_n hx hb d15_30_13 rfl (lv_at hl 1 rfl) ?_
  obtain ⟨x7, hc, h⟩ := ob h
  refine sS_i (As := [.int a0]) (rest := [.ref (q 3), .int x4, .int x1, .ref (q 0)]) ⟨hx, hb, hml, hown, hts⟩ (cm_at l G Zd _ a0 x7 hc _) (kw_S (n := 1) hts k1312 k1310 k15 k1311 (by decide +kernel) ⟨Nat.le_of_ble_eq_true rfl, Nat.le_of_ble_eq_true rfl⟩) hP hD hK hS hA hZ rfl hl.1 rfl (Nat.le_of_ble_eq_true rfl) d15_30_14 ⟨Nat.le_of_ble_eq_true rfl, Nat.le_of_ble_eq_true rfl⟩ (fun rr u9 H locs hp hP hD hS => ?_)
  clear u9
  subst rr
  clear hc
  refine W.eq (g2 := F0 m 17 ls [.int x7, .ref (q 3), .int x4, .int x1, .ref (q 0)]) rfl ?_
  have hP : va_P G.1 vwCl (wMs q G.2 st) H := hP
  have hD : va_D A (wMs q G.2 st) := hD
  obtain ⟨x10, hr, h⟩ := ob h
  obtain ⟨hi, hv⟩ := rd_some hr
  refine va_bald (D := G.1) hx hb hK hP 3 2 rfl rfl (i := x7) hi d15_30_17 ?_
  refine lv_topi (fun y9 ey => ?_)
  have e9 := ey.trans hv
  clear ey
  subst y9
  clear hv hi hr
  obtain ⟨st12, hc, h⟩ := ob h
  refine sV_v (As := [.int x1, .int x4, .int x10]) (rest := []) ⟨hx, hb, hml, hown, hts⟩ (cm_copy l G Zd q x1 x4 x10 st st12 hc _) (kw_V (n := 3) hts k1424 k1421 k15 k1423 ks64 (by decide +kernel) ⟨Nat.le_of_ble_eq_true rfl, Nat.le_of_ble_eq_true rfl⟩) hP hD hK hS hA hZ (va_recv (ci := 13) (q0 := 0) hK hP rfl rfl) rfl hl.1 rfl (Nat.le_of_ble_eq_true rfl) d15_30_18 ⟨Nat.le_of_ble_eq_true rfl, Nat.le_of_ble_eq_true rfl⟩ (fun u9 H locs hp hP hD hS => ?_)
  clear u9
  clear hp
  clear hc
  refine W.eq (g2 := F0 m 21 ls []) rfl ?_
  have hP : va_P G.1 vwCl (wMs q G.2 st12) H := hP
  have hD : va_D A (wMs q G.2 st12) := hD
  cases h
  exact fin_v hx hb hr hlk hS () trivial hP hD (Nat.le_of_ble_eq_true rfl) (Nat.le_of_ble_eq_true rfl) d15_30_21
def m_writeLeaf_l1 (a0 : Int32) (a1 : Int32) (a2 : Int32) (a3 : Int32) (a4 : Int32) : Nat → (Int32 × MS) → Option (Int32 × MS)
  | 0, _ => none
  | n9 + 1, e9 => (some (4 * a2)).bind fun y9 => (some (y9 + 4)).bind fun y10 => if y10 ≤ e9.1 then (some (e9.1, e9.2)) else ((if e9.1 = a3 then (some a4) else ((m_rowOf a1 e9.1 e9.2).bind fun x32 => some x32)).bind fun e13 => (some (4 * a0)).bind fun y15 => (some (e9.1 - e9.1 / 4 * 4)).bind fun y16 => (some (y15 + y16)).bind fun y17 => (if e13 < (0 : Int32) then (some (0 : Int32)) else (some (1 : Int32))).bind fun e19 => (ix 48 y17).bind fun k21z => (some (vp_nar .boolean e19)).bind fun y22 => (if e13 < (0 : Int32) then (some (e9.2.1, e9.2.2.1, va_up e9.2.2.2.1 14 (upd (e9.2.2.2.1 14) k21z y22), e9.2.2.2.2)) else ((some (4 * a0)).bind fun y26 => (some (e9.1 - e9.1 / 4 * 4)).bind fun y27 => (some (y26 + y27)).bind fun y28 => (m_copyRow e13 y28 (e9.2.1, e9.2.2.1, va_up e9.2.2.2.1 14 (upd (e9.2.2.2.1 14) k21z y22), e9.2.2.2.2)).bind fun st30 => some st30)).bind fun e24 => m_writeLeaf_l1 a0 a1 a2 a3 a4 n9 (e9.1 + 1, e24))
theorem m_writeLeaf_l1_s (a0 : Int32) (a1 : Int32) (a2 : Int32) (a3 : Int32) (a4 : Int32) (n9 : Nat) (e9 : Int32 × MS) : m_writeLeaf_l1 a0 a1 a2 a3 a4 (n9 + 1) e9 = ((some (4 * a2)).bind fun y9 => (some (y9 + 4)).bind fun y10 => if y10 ≤ e9.1 then (some (e9.1, e9.2)) else ((if e9.1 = a3 then (some a4) else ((m_rowOf a1 e9.1 e9.2).bind fun x32 => some x32)).bind fun e13 => (some (4 * a0)).bind fun y15 => (some (e9.1 - e9.1 / 4 * 4)).bind fun y16 => (some (y15 + y16)).bind fun y17 => (if e13 < (0 : Int32) then (some (0 : Int32)) else (some (1 : Int32))).bind fun e19 => (ix 48 y17).bind fun k21z => (some (vp_nar .boolean e19)).bind fun y22 => (if e13 < (0 : Int32) then (some (e9.2.1, e9.2.2.1, va_up e9.2.2.2.1 14 (upd (e9.2.2.2.1 14) k21z y22), e9.2.2.2.2)) else ((some (4 * a0)).bind fun y26 => (some (e9.1 - e9.1 / 4 * 4)).bind fun y27 => (some (y26 + y27)).bind fun y28 => (m_copyRow e13 y28 (e9.2.1, e9.2.2.1, va_up e9.2.2.2.1 14 (upd (e9.2.2.2.1 14) k21z y22), e9.2.2.2.2)).bind fun st30 => some st30)).bind fun e24 => m_writeLeaf_l1 a0 a1 a2 a3 a4 n9 (e9.1 + 1, e24))) := rfl
def m_writeLeaf (a0 : Int32) (a1 : Int32) (a2 : Int32) (a3 : Int32) (a4 : Int32) (st : MS) : Option (MS) := (ix 12 a0).bind fun k1z => (some (4 * a2)).bind fun y2 => (m_writeLeaf_l1 a0 a1 a2 a3 a4 4096 (y2, (st.1, st.2.1, va_up st.2.2.1 12 (upd (st.2.2.1 12) k1z (2 : Int32)), st.2.2.2))).bind fun e3 => some e3.2
set_option maxHeartbeats 4000000 in
set_option maxRecDepth 100000 in
theorem cm_writeLeaf (l : Launch) (G : Gk) (Zd : Nat → Nat) (q : Nat → Nat) (a0 : Int32) (a1 : Int32) (a2 : Int32) (a3 : Int32) (a4 : Int32) (st : MS) (st0 : MS) (hm : m_writeLeaf a0 a1 a2 a3 a4 st = some st0) (sz : Nat) : Met l y15_60 (Cond.code y15_60 prog_15_method_60_code 8 none :: TB) (rmD 2 0 0) (va_Pc [.ref (q 0), .int a0, .int a1, .int a2, .int a3, .int a4] (pcW G Zd (wMs q G.2 st) sz)) (qV G (fun (_ : Unit) => True) (fun _ => (wMs q G.2 st0)) (va_A (wMs q G.2 st) sz)) 0 0 (va_A (wMs q G.2 st) sz) := by
  refine go (y := y15_60) (cc := prog_15_method_60_code) (maxL := 8) (ret := none) (av := [.ref (q 0), .int a0, .int a1, .int a2, .int a3, .int a4]) (Qc := qV G (fun (_ : Unit) => True) (fun _ => (wMs q G.2 st0))) "PagedValuesModel" rfl (by decide) (Nat.le_of_ble_eq_true rfl) ?_
  intro p e s m below meth c ls A hx hb hr hlk hml hown hts hin hl hP hD hK hS hA hZ
  have hl : lv_has ls 8 [(0, .ref (q 0)), (1, .int a0), (2, .int a1), (3, .int a2), (4, .int a3), (5, .int a4)] := hl
  have h := hm
  clear hm
  refine lv_aload_n hx hb d15_60_0 rfl (lv_at hl 0 rfl) ?_
  refine va_get (D := G.1) (ci := 13) (v := .ref (q 19)) (C := r_13) (T := f_13) (N := 42) (ref := "PagedValuesModel") hx hb hts (fun w h => List.mem_cons_of_mem _ (ly_13 w h)) hown hK hP 0 rfl rfl 32 (by decide) (hts _ (List.mem_cons_of_mem _ k1183)) (fun _ h9 => h9) rfl d15_60_1 ?_
  refine lv_iload_n hx hb d15_60_4 rfl (lv_at hl 1 rfl) ?_
  refine lv_iconst (v := 2) hx hb d15_60_5 (by decide) ?_
  obtain ⟨k1z, hr, h⟩ := ob h
  obtain ⟨hi, hk⟩ := ix_some hr
  clear hr
  refine va_iast (D := G.1) hx hb hK hP hD hS 19 1 rfl rfl (i := a0) (x := (2 : Int32)) hi d15_60_6 (fun H locs hP hD hS => ?_)
  rw [hk] at hP hD
  clear hk hi
  have hP : va_P G.1 vwCl (wMs q G.2 (st.1, st.2.1, va_up st.2.2.1 12 (upd (st.2.2.1 12) k1z (2 : Int32)), st.2.2.2)) H := hP
  have hD : va_D A (wMs q G.2 (st.1, st.2.1, va_up st.2.2.1 12 (upd (st.2.2.1 12) k1z (2 : Int32)), st.2.2.2)) := hD
  refine lv_iconst (v := 4) hx hb d15_60_7 (by decide) ?_
  refine lv_iload_n hx hb d15_60_8 rfl (lv_at hl 3 rfl) ?_
  refine lv_imul hx hb d15_60_9 ?_
  obtain ⟨y2, hr, h⟩ := ob h
  refine lv_topi (fun y9 ey => ?_)
  have e9 := ey.trans (Option.some.inj hr)
  clear ey
  subst y9
  clear hr
  refine lv_istore (lv' := [(6, .int y2), (0, .ref (q 0)), (1, .int a0), (2, .int a1), (3, .int a2), (4, .int a3), (5, .int a4)]) hx hb d15_60_10 hl (by decide) rfl (fun ls hl => ?_)
  obtain ⟨e3, hX, hrest⟩ := ob h
  clear h
  have hj : ∀ (v7 : Int32) (v8 : MS), e3 = (v7, v8) → ∀ (H : Heap) (locs : List Loc) (ls : Array Slot), lv_has ls 8 [(0, .ref (q 0)), (1, .int a0), (2, .int a1), (3, .int a2), (4, .int a3), (5, .int a4), (6, .int v7)] → va_P G.1 vwCl (wMs q G.2 v8) H → va_D A (wMs q G.2 v8) → va_S A s.heap H locs → W p l e (rmD 2 0 0) s m ([.ref (q 0), .int a0, .int a1, .int a2, .int a3, .int a4] : List Value).toArray below meth c H locs 0 0 (MQ below (qV G (fun (_ : Unit) => True) (fun _ => (wMs q G.2 st0)) A) ([.ref (q 0), .int a0, .int a1, .int a2, .int a3, .int a4] : List Value).toArray s 0 0 A) (F0 m 91 ls []) := by
    intro v7 v8 he H locs ls hl hP hD hS
    subst e3
    have h := hrest
    cases h
    exact fin_v hx hb hr hlk hS () trivial hP hD (Nat.le_of_ble_eq_true rfl) (Nat.le_of_ble_eq_true rfl) d15_60_91
  have hloop : ∀ (n9 : Nat) (v4 : Int32) (v5 : MS), m_writeLeaf_l1 a0 a1 a2 a3 a4 n9 (v4, v5) = some e3 → ∀ (H : Heap) (locs : List Loc) (ls : Array Slot), lv_has ls 8 [(0, .ref (q 0)), (1, .int a0), (2, .int a1), (3, .int a2), (4, .int a3), (5, .int a4), (6, .int v4)] → va_P G.1 vwCl (wMs q G.2 v5) H → va_D A (wMs q G.2 v5) → va_S A s.heap H locs → W p l e (rmD 2 0 0) s m ([.ref (q 0), .int a0, .int a1, .int a2, .int a3, .int a4] : List Value).toArray below meth c H locs 0 0 (MQ below (qV G (fun (_ : Unit) => True) (fun _ => (wMs q G.2 st0)) A) ([.ref (q 0), .int a0, .int a1, .int a2, .int a3, .int a4] : List Value).toArray s 0 0 A) (F0 m 12 ls []) := by
    intro n9
    induction n9 with
    | zero =>
      intro v4 v5 h
      cases h
    | succ n9 ih =>
      intro v4 v5 h H locs ls hl hP hD hS
      replace h := (m_writeLeaf_l1_s a0 a1 a2 a3 a4 n9 (v4, v5)).symm.trans h
      refine lv_iload hx hb d15_60_12 (lv_at hl 6 rfl) ?_
      refine lv_iconst (v := 4) hx hb d15_60_14 (by decide) ?_
      refine lv_iload_n hx hb d15_60_15 rfl (lv_at hl 3 rfl) ?_
      refine lv_imul hx hb d15_60_16 ?_
      obtain ⟨y9, hr, h⟩ := ob h
      refine lv_topi (fun y9 ey => ?_)
      have e9 := ey.trans (Option.some.inj hr)
      clear ey
      subst y9
      clear hr
      refine lv_iconst (v := 4) hx hb d15_60_17 (by decide) ?_
      refine lv_iadd hx hb d15_60_18 ?_
      obtain ⟨y10, hr, h⟩ := ob h
      refine lv_topi (fun y9 ey => ?_)
      have e9 := ey.trans (Option.some.inj hr)
      clear ey
      subst y9
      clear hr
      refine lv_icmp_ge (tgt := 91) hx hb d15_60_19 rfl (fun c11 => ?_) (fun c11 => ?_)
      ·
        replace h := (if_pos c11).symm.trans h
        have e9 := Option.some.inj h
        subst e3
        have hl := lv_sub hl (l' := [(0, .ref (q 0)), (1, .int a0), (2, .int a1), (3, .int a2), (4, .int a3), (5, .int a4), (6, .int v4)]) [0, 1, 2, 3, 4, 5, 6] rfl
        exact hj _ _ rfl _ _ _ hl hP hD hS
      ·
        replace h := (if_neg c11).symm.trans h
        refine lv_iload hx hb d15_60_22 (lv_at hl 6 rfl) ?_
        refine lv_iload hx hb d15_60_24 (lv_at hl 4 rfl) ?_
        obtain ⟨e13, hX, h⟩ := ob h
        have hj : ∀ (H : Heap) (locs : List Loc) (ls : Array Slot), lv_has ls 8 [(0, .ref (q 0)), (1, .int a0), (2, .int a1), (3, .int a2), (4, .int a3), (5, .int a4), (6, .int v4)] → va_P G.1 vwCl (wMs q G.2 v5) H → va_D A (wMs q G.2 v5) → va_S A s.heap H locs → W p l e (rmD 2 0 0) s m ([.ref (q 0), .int a0, .int a1, .int a2, .int a3, .int a4] : List Value).toArray below meth c H locs 0 0 (MQ below (qV G (fun (_ : Unit) => True) (fun _ => (wMs q G.2 st0)) A) ([.ref (q 0), .int a0, .int a1, .int a2, .int a3, .int a4] : List Value).toArray s 0 0 A) (F0 m 41 ls [.int e13]) := by
          intro H locs ls hl hP hD hS
          refine lv_istore (lv' := [(7, .int e13), (0, .ref (q 0)), (1, .int a0), (2, .int a1), (3, .int a2), (4, .int a3), (5, .int a4), (6, .int v4)]) hx hb d15_60_41 hl (by decide) rfl (fun ls hl => ?_)
          refine lv_aload_n hx hb d15_60_43 rfl (lv_at hl 1 rfl) ?_
          refine va_get (D := G.1) (ci := 13) (v := .ref (q 21)) (C := r_13) (T := f_13) (N := 42) (ref := "PagedValuesModel") hx hb hts (fun w h => List.mem_cons_of_mem _ (ly_13 w h)) hown hK hP 0 rfl rfl 34 (by decide) (hts _ (List.mem_cons_of_mem _ k1185)) (fun _ h9 => h9) rfl d15_60_44 ?_
          refine lv_iconst (v := 4) hx hb d15_60_47 (by decide) ?_
          refine lv_iload_n hx hb d15_60_48 rfl (lv_at hl 2 rfl) ?_
          refine lv_imul hx hb d15_60_49 ?_
          obtain ⟨y15, hr, h⟩ := ob h
          refine lv_topi (fun y9 ey => ?_)
          have e9 := ey.trans (Option.some.inj hr)
          clear ey
          subst y9
          clear hr
          refine lv_iload hx hb d15_60_50 (lv_at hl 7 rfl) ?_
          refine lv_iconst (v := 4) hx hb d15_60_52 (by decide) ?_
          refine lv_irem hx hb d15_60_53 (by decide) ?_
          obtain ⟨y16, hr, h⟩ := ob h
          refine lv_topi (fun y9 ey => ?_)
          have e9 := ey.trans (Option.some.inj hr)
          clear ey
          subst y9
          clear hr
          refine lv_iadd hx hb d15_60_54 ?_
          obtain ⟨y17, hr, h⟩ := ob h
          refine lv_topi (fun y9 ey => ?_)
          have e9 := ey.trans (Option.some.inj hr)
          clear ey
          subst y9
          clear hr
          refine lv_iload hx hb d15_60_55 (lv_at hl 0 rfl) ?_
          obtain ⟨e19, hX, h⟩ := ob h
          have hj : ∀ (H : Heap) (locs : List Loc) (ls : Array Slot), lv_has ls 8 [(0, .ref (q 0)), (1, .int a0), (2, .int a1), (3, .int a2), (4, .int a3), (5, .int a4), (6, .int v4), (7, .int e13)] → va_P G.1 vwCl (wMs q G.2 v5) H → va_D A (wMs q G.2 v5) → va_S A s.heap H locs → W p l e (rmD 2 0 0) s m ([.ref (q 0), .int a0, .int a1, .int a2, .int a3, .int a4] : List Value).toArray below meth c H locs 0 0 (MQ below (qV G (fun (_ : Unit) => True) (fun _ => (wMs q G.2 st0)) A) ([.ref (q 0), .int a0, .int a1, .int a2, .int a3, .int a4] : List Value).toArray s 0 0 A) (F0 m 65 ls [.int e19, .int y17, .ref (q 21)]) := by
            intro H locs ls hl hP hD hS
            obtain ⟨k21z, hr, h⟩ := ob h
            obtain ⟨hi, hk⟩ := ix_some hr
            clear hr
            refine va_zast (D := G.1) hx hb hK hP hD hS 21 3 rfl rfl (i := y17) (x := e19) hi d15_60_65 (fun H locs hP hD hS => ?_)
            rw [hk] at hP hD
            clear hk hi
            obtain ⟨y22, hr, h⟩ := ob h
            rw [Option.some.inj hr] at hP hD
            clear hr
            have hP : va_P G.1 vwCl (wMs q G.2 (v5.1, v5.2.1, va_up v5.2.2.1 14 (upd (v5.2.2.1 14) k21z y22), v5.2.2.2)) H := hP
            have hD : va_D A (wMs q G.2 (v5.1, v5.2.1, va_up v5.2.2.1 14 (upd (v5.2.2.1 14) k21z y22), v5.2.2.2)) := hD
            refine lv_iload hx hb d15_60_66 (lv_at hl 7 rfl) ?_
            obtain ⟨e24, hX, h⟩ := ob h
            have hj : ∀ (H : Heap) (locs : List Loc) (ls : Array Slot), lv_has ls 8 [(0, .ref (q 0)), (1, .int a0), (2, .int a1), (3, .int a2), (4, .int a3), (5, .int a4), (6, .int v4), (7, .int e13)] → va_P G.1 vwCl (wMs q G.2 e24) H → va_D A (wMs q G.2 e24) → va_S A s.heap H locs → W p l e (rmD 2 0 0) s m ([.ref (q 0), .int a0, .int a1, .int a2, .int a3, .int a4] : List Value).toArray below meth c H locs 0 0 (MQ below (qV G (fun (_ : Unit) => True) (fun _ => (wMs q G.2 st0)) A) ([.ref (q 0), .int a0, .int a1, .int a2, .int a3, .int a4] : List Value).toArray s 0 0 A) (F0 m 85 ls []) := by
              intro H locs ls hl hP hD hS
              refine lv_iinc (k := 6) (v := v4 + 1) (lv' := [(6, .int (v4 + 1)), (0, .ref (q 0)), (1, .int a0), (2, .int a1), (3, .int a2), (4, .int a3), (5, .int a4), (7, .int e13)]) hx hb d15_60_85 hl rfl (by first | decide | rfl) (by decide) rfl (fun ls hl => ?_)
              refine lv_goto (tgt := 12) hx hb d15_60_88 rfl ?_
              have hl := lv_sub hl (l' := [(0, .ref (q 0)), (1, .int a0), (2, .int a1), (3, .int a2), (4, .int a3), (5, .int a4), (6, .int (v4 + 1))]) [1, 2, 3, 4, 5, 6, 0] rfl
              exact ih _ _ h _ _ _ hl hP hD hS
            clear h
            refine lv_if_lt (tgt := 85) hx hb d15_60_68 rfl (fun c23 => ?_) (fun c23 => ?_)
            ·
              replace h := (if_pos c23).symm.trans hX
              have e9 := Option.some.inj h
              subst e24
              have hl := lv_sub hl (l' := [(0, .ref (q 0)), (1, .int a0), (2, .int a1), (3, .int a2), (4, .int a3), (5, .int a4), (6, .int v4), (7, .int e13)]) [0, 1, 2, 3, 4, 5, 6, 7] rfl
              exact hj _ _ _ hl hP hD hS
            ·
              replace h := (if_neg c23).symm.trans hX
              refine lv_aload_n hx hb d15_60_71 rfl (lv_at hl 0 rfl) ?_
              refine lv_iload hx hb d15_60_72 (lv_at hl 7 rfl) ?_
              refine lv_iconst (v := 4) hx hb d15_60_74 (by decide) ?_
              refine lv_iload_n hx hb d15_60_75 rfl (lv_at hl 1 rfl) ?_
              refine lv_imul hx hb d15_60_76 ?_
              obtain ⟨y26, hr, h⟩ := ob h
              refine lv_topi (fun y9 ey => ?_)
              have e9 := ey.trans (Option.some.inj hr)
              clear ey
              subst y9
              clear hr
              refine lv_iload hx hb d15_60_77 (lv_at hl 6 rfl) ?_
              refine lv_iconst (v := 4) hx hb d15_60_79 (by decide) ?_
              refine lv_irem hx hb d15_60_80 (by decide) ?_
              obtain ⟨y27, hr, h⟩ := ob h
              refine lv_topi (fun y9 ey => ?_)
              have e9 := ey.trans (Option.some.inj hr)
              clear ey
              subst y9
              clear hr
              refine lv_iadd hx hb d15_60_81 ?_
              obtain ⟨y28, hr, h⟩ := ob h
              refine lv_topi (fun y9 ey => ?_)
              have e9 := ey.trans (Option.some.inj hr)
              clear ey
              subst y9
              clear hr
              obtain ⟨st30, hc, h⟩ := ob h
              refine sV_v (As := [.int e13, .int y28]) (rest := []) ⟨hx, hb, hml, hown, hts⟩ (cm_copyRow l G Zd q e13 y28 (v5.1, v5.2.1, va_up v5.2.2.1 14 (upd (v5.2.2.1 14) k21z y22), v5.2.2.2) st30 hc _) (kw_V (n := 2) hts k1420 k1417 k15 k1419 ks63 (by decide +kernel) ⟨Nat.le_of_ble_eq_true rfl, Nat.le_of_ble_eq_true rfl⟩) hP hD hK hS hA hZ (va_recv (ci := 13) (q0 := 0) hK hP rfl rfl) rfl hl.1 rfl (Nat.le_of_ble_eq_true rfl) d15_60_82 ⟨Nat.le_of_ble_eq_true rfl, Nat.le_of_ble_eq_true rfl⟩ (fun u9 H locs hp hP hD hS => ?_)
              clear u9
              clear hp
              clear hc
              refine W.eq (g2 := F0 m 85 ls []) rfl ?_
              have hP : va_P G.1 vwCl (wMs q G.2 st30) H := hP
              have hD : va_D A (wMs q G.2 st30) := hD
              have e9 := Option.some.inj h
              subst e24
              have hl := lv_sub hl (l' := [(0, .ref (q 0)), (1, .int a0), (2, .int a1), (3, .int a2), (4, .int a3), (5, .int a4), (6, .int v4), (7, .int e13)]) [0, 1, 2, 3, 4, 5, 6, 7] rfl
              exact hj _ _ _ hl hP hD hS
          clear h
          refine lv_if_lt (tgt := 64) hx hb d15_60_57 rfl (fun c18 => ?_) (fun c18 => ?_)
          ·
            replace h := (if_pos c18).symm.trans hX
            refine lv_iconst (v := 0) hx hb d15_60_64 (by decide) ?_
            have e9 := Option.some.inj h
            subst e19
            have hl := lv_sub hl (l' := [(0, .ref (q 0)), (1, .int a0), (2, .int a1), (3, .int a2), (4, .int a3), (5, .int a4), (6, .int v4), (7, .int e13)]) [1, 2, 3, 4, 5, 6, 7, 0] rfl
            exact hj _ _ _ hl hP hD hS
          ·
            replace h := (if_neg c18).symm.trans hX
            refine lv_iconst (v := 1) hx hb d15_60_60 (by decide) ?_
            refine lv_goto (tgt := 65) hx hb d15_60_61 rfl ?_
            have e9 := Option.some.inj h
            subst e19
            have hl := lv_sub hl (l' := [(0, .ref (q 0)), (1, .int a0), (2, .int a1), (3, .int a2), (4, .int a3), (5, .int a4), (6, .int v4), (7, .int e13)]) [1, 2, 3, 4, 5, 6, 7, 0] rfl
            exact hj _ _ _ hl hP hD hS
        clear h
        refine lv_icmp_ne (tgt := 34) hx hb d15_60_26 rfl (fun c12 => ?_) (fun c12 => ?_)
        ·
          replace h := (if_neg c12).symm.trans hX
          refine lv_aload_n hx hb d15_60_34 rfl (lv_at hl 0 rfl) ?_
          refine lv_iload_n hx hb d15_60_35 rfl (lv_at hl 2 rfl) ?_
          refine lv_iload hx hb d15_60_36 (lv_at hl 6 rfl) ?_
          obtain ⟨x32, hc, h⟩ := ob h
          refine sV_i (As := [.int a1, .int v4]) (rest := []) ⟨hx, hb, hml, hown, hts⟩ (cm_rowOf l G Zd q a1 v4 v5 x32 hc _) (kw_V (n := 2) hts k1400 k1397 k15 k1399 ks58 (by decide +kernel) ⟨Nat.le_of_ble_eq_true rfl, Nat.le_of_ble_eq_true rfl⟩) hP hD hK hS hA hZ (va_recv (ci := 13) (q0 := 0) hK hP rfl rfl) rfl hl.1 rfl (Nat.le_of_ble_eq_true rfl) d15_60_38 ⟨Nat.le_of_ble_eq_true rfl, Nat.le_of_ble_eq_true rfl⟩ (fun rr u9 H locs hp hP hD hS => ?_)
          clear u9
          subst rr
          clear hc
          refine W.eq (g2 := F0 m 41 ls [.int x32]) rfl ?_
          have hP : va_P G.1 vwCl (wMs q G.2 v5) H := hP
          have hD : va_D A (wMs q G.2 v5) := hD
          have e9 := Option.some.inj h
          subst e13
          have hl := lv_sub hl (l' := [(0, .ref (q 0)), (1, .int a0), (2, .int a1), (3, .int a2), (4, .int a3), (5, .int a4), (6, .int v4)]) [0, 1, 2, 3, 4, 5, 6] rfl
          exact hj _ _ _ hl hP hD hS
        ·
          replace h := (if_pos c12).symm.trans hX
          refine lv_iload hx hb d15_60_29 (lv_at hl 5 rfl) ?_
          refine lv_goto (tgt := 41) hx hb d15_60_31 rfl ?_
          have e9 := Option.some.inj h
          subst e13
          have hl := lv_sub hl (l' := [(0, .ref (q 0)), (1, .int a0), (2, .int a1), (3, .int a2), (4, .int a3), (5, .int a4), (6, .int v4)]) [0, 1, 2, 3, 4, 5, 6] rfl
          exact hj _ _ _ hl hP hD hS
  have hl := lv_sub hl (l' := [(0, .ref (q 0)), (1, .int a0), (2, .int a1), (3, .int a2), (4, .int a3), (5, .int a4), (6, .int y2)]) [1, 2, 3, 4, 5, 6, 0] rfl
  exact hloop _ _ _ hX _ _ _ hl hP hD hS
def m_change_l1 (a0 : Int32) (a1 : Int32) (st : MS) (x4 : Int32) (y5 : Int32) : Nat → (Int32 × Int32 × Int32) → Option (Int32 × Int32 × Int32)
  | 0, _ => none
  | n9 + 1, e9 => if (8 : Int32) ≤ e9.2.2 then (some (e9.1, e9.2.1, e9.2.2)) else ((if e9.2.2 = a0 then (if a1 < (0 : Int32) then (some (0 : Int32)) else (some (1 : Int32))) else ((m_rowOf x4 e9.2.2 st).bind fun x483 => if x483 < (0 : Int32) then (some (0 : Int32)) else (some (1 : Int32)))).bind fun e469 => (if e469 = (0 : Int32) then (some e9.1) else ((some (e9.2.2 / 4)).bind fun y480 => if y480 = y5 then ((some (e9.1 + 1)).bind fun y482 => some y482) else (some e9.1))).bind fun e472 => (if e469 = (0 : Int32) then (some e9.2.1) else ((some (e9.2.2 / 4)).bind fun y477 => if y477 = y5 then (some e9.2.1) else ((some (e9.2.1 + 1)).bind fun y479 => some y479))).bind fun e475 => m_change_l1 a0 a1 st x4 y5 n9 (e472, e475, e9.2.2 + 1))
theorem m_change_l1_s (a0 : Int32) (a1 : Int32) (st : MS) (x4 : Int32) (y5 : Int32) (n9 : Nat) (e9 : Int32 × Int32 × Int32) : m_change_l1 a0 a1 st x4 y5 (n9 + 1) e9 = (if (8 : Int32) ≤ e9.2.2 then (some (e9.1, e9.2.1, e9.2.2)) else ((if e9.2.2 = a0 then (if a1 < (0 : Int32) then (some (0 : Int32)) else (some (1 : Int32))) else ((m_rowOf x4 e9.2.2 st).bind fun x483 => if x483 < (0 : Int32) then (some (0 : Int32)) else (some (1 : Int32)))).bind fun e469 => (if e469 = (0 : Int32) then (some e9.1) else ((some (e9.2.2 / 4)).bind fun y480 => if y480 = y5 then ((some (e9.1 + 1)).bind fun y482 => some y482) else (some e9.1))).bind fun e472 => (if e469 = (0 : Int32) then (some e9.2.1) else ((some (e9.2.2 / 4)).bind fun y477 => if y477 = y5 then (some e9.2.1) else ((some (e9.2.1 + 1)).bind fun y479 => some y479))).bind fun e475 => m_change_l1 a0 a1 st x4 y5 n9 (e472, e475, e9.2.2 + 1))) := rfl
def m_change (a0 : Int32) (a1 : Int32) (st : MS) : Option (Int32 × MS) := (m_current st).bind fun x1 => (rd (st.2.2.1 15) 2 x1).bind fun x4 => (some (a0 / 4)).bind fun y5 => (m_change_l1 a0 a1 st x4 y5 4096 ((0 : Int32), (0 : Int32), (0 : Int32))).bind fun e6 => (if e6.1 ≤ (0 : Int32) then (some ((-1) : Int32)) else ((m_freePage ((-1) : Int32) st).bind fun x464 => some x464)).bind fun e15 => (some (e6.1 + e6.2.1)).bind fun y17 => (if y17 ≤ (0 : Int32) then (some ((-1) : Int32)) else ((m_freePage e15 st).bind fun x461 => some x461)).bind fun e19 => if e6.1 ≤ (0 : Int32) then ((some (e6.1 + e6.2.1)).bind fun y22 => if y22 ≤ (0 : Int32) then (if e6.1 ≤ (0 : Int32) then (if e19 < (0 : Int32) then ((m_current st).bind fun x26 => (some (1 - x26)).bind fun y29 => (some (1 - y29)).bind fun y30 => (rd (st.2.2.1 16) 2 y30).bind fun x31 => (some (x31 + 1)).bind fun y32 => (ix 2 y29).bind fun k33z => (ix 2 y29).bind fun k34z => (m_block (st.1, st.2.1, va_up (va_up st.2.2.1 16 (upd (st.2.2.1 16) k33z y32)) 15 (upd (st.2.2.1 15) k34z e19), st.2.2.2)).bind fun r37 => (if r37.1 = (0 : Int32) then (some ((-9) : Int32)) else (some (0 : Int32))).bind fun e39 => some (e39, r37.2)) else ((ix 12 e19).bind fun k41z => (some (2 * e19)).bind fun y42 => (some (y42 + y5)).bind fun y43 => (ix 24 y43).bind fun k44z => (some (2 * e19)).bind fun y45 => (some (y45 + 1)).bind fun y46 => (some (y46 - y5)).bind fun y47 => (if (0 : Int32) ≤ x4 then ((some (2 * x4)).bind fun y71 => (some (y71 + 1)).bind fun y72 => (some (y72 - y5)).bind fun y73 => (rd (upd (st.2.2.1 13) k44z e15) 24 y73).bind fun x74 => some x74) else (some ((-1) : Int32))).bind fun e49 => (ix 24 y47).bind fun k51z => (m_block (st.1, st.2.1, va_up (va_up st.2.2.1 12 (upd (st.2.2.1 12) k41z (1 : Int32))) 13 (upd (upd (st.2.2.1 13) k44z e15) k51z e49), st.2.2.2)).bind fun r54 => if r54.1 = (0 : Int32) then (some (((-9) : Int32), r54.2)) else ((m_current r54.2).bind fun x56 => (some (1 - x56)).bind fun y59 => (some (1 - y59)).bind fun y60 => (rd (r54.2.2.2.1 16) 2 y60).bind fun x61 => (some (x61 + 1)).bind fun y62 => (ix 2 y59).bind fun k63z => (ix 2 y59).bind fun k64z => (m_block (r54.2.1, r54.2.2.1, va_up (va_up r54.2.2.2.1 16 (upd (r54.2.2.2.1 16) k63z y62)) 15 (upd (r54.2.2.2.1 15) k64z e19), r54.2.2.2.2)).bind fun r67 => (if r67.1 = (0 : Int32) then (some ((-9) : Int32)) else (some (0 : Int32))).bind fun e69 => some (e69, r67.2)))) else ((m_writeLeaf e15 x4 y5 a0 a1 st).bind fun st76 => (m_block st76).bind fun r80 => if r80.1 = (0 : Int32) then (some (((-9) : Int32), r80.2)) else (if e19 < (0 : Int32) then ((m_current r80.2).bind fun x83 => (some (1 - x83)).bind fun y86 => (some (1 - y86)).bind fun y87 => (rd (r80.2.2.2.1 16) 2 y87).bind fun x88 => (some (x88 + 1)).bind fun y89 => (ix 2 y86).bind fun k90z => (ix 2 y86).bind fun k91z => (m_block (r80.2.1, r80.2.2.1, va_up (va_up r80.2.2.2.1 16 (upd (r80.2.2.2.1 16) k90z y89)) 15 (upd (r80.2.2.2.1 15) k91z e19), r80.2.2.2.2)).bind fun r94 => (if r94.1 = (0 : Int32) then (some ((-9) : Int32)) else (some (0 : Int32))).bind fun e96 => some (e96, r94.2)) else ((ix 12 e19).bind fun k98z => (some (2 * e19)).bind fun y99 => (some (y99 + y5)).bind fun y100 => (ix 24 y100).bind fun k101z => (some (2 * e19)).bind fun y102 => (some (y102 + 1)).bind fun y103 => (some (y103 - y5)).bind fun y104 => (if (0 : Int32) ≤ x4 then ((some (2 * x4)).bind fun y128 => (some (y128 + 1)).bind fun y129 => (some (y129 - y5)).bind fun y130 => (rd (upd (r80.2.2.2.1 13) k101z e15) 24 y130).bind fun x131 => some x131) else (some ((-1) : Int32))).bind fun e106 => (ix 24 y104).bind fun k108z => (m_block (r80.2.1, r80.2.2.1, va_up (va_up r80.2.2.2.1 12 (upd (r80.2.2.2.1 12) k98z (1 : Int32))) 13 (upd (upd (r80.2.2.2.1 13) k101z e15) k108z e106), r80.2.2.2.2)).bind fun r111 => if r111.1 = (0 : Int32) then (some (((-9) : Int32), r111.2)) else ((m_current r111.2).bind fun x113 => (some (1 - x113)).bind fun y116 => (some (1 - y116)).bind fun y117 => (rd (r111.2.2.2.1 16) 2 y117).bind fun x118 => (some (x118 + 1)).bind fun y119 => (ix 2 y116).bind fun k120z => (ix 2 y116).bind fun k121z => (m_block (r111.2.1, r111.2.2.1, va_up (va_up r111.2.2.2.1 16 (upd (r111.2.2.2.1 16) k120z y119)) 15 (upd (r111.2.2.2.1 15) k121z e19), r111.2.2.2.2)).bind fun r124 => (if r124.1 = (0 : Int32) then (some ((-9) : Int32)) else (some (0 : Int32))).bind fun e126 => some (e126, r124.2)))))) else (if (0 : Int32) ≤ e19 then (if e6.1 ≤ (0 : Int32) then (if e19 < (0 : Int32) then ((m_current st).bind fun x135 => (some (1 - x135)).bind fun y138 => (some (1 - y138)).bind fun y139 => (rd (st.2.2.1 16) 2 y139).bind fun x140 => (some (x140 + 1)).bind fun y141 => (ix 2 y138).bind fun k142z => (ix 2 y138).bind fun k143z => (m_block (st.1, st.2.1, va_up (va_up st.2.2.1 16 (upd (st.2.2.1 16) k142z y141)) 15 (upd (st.2.2.1 15) k143z e19), st.2.2.2)).bind fun r146 => (if r146.1 = (0 : Int32) then (some ((-9) : Int32)) else (some (0 : Int32))).bind fun e148 => some (e148, r146.2)) else ((ix 12 e19).bind fun k150z => (some (2 * e19)).bind fun y151 => (some (y151 + y5)).bind fun y152 => (ix 24 y152).bind fun k153z => (some (2 * e19)).bind fun y154 => (some (y154 + 1)).bind fun y155 => (some (y155 - y5)).bind fun y156 => (if (0 : Int32) ≤ x4 then ((some (2 * x4)).bind fun y180 => (some (y180 + 1)).bind fun y181 => (some (y181 - y5)).bind fun y182 => (rd (upd (st.2.2.1 13) k153z e15) 24 y182).bind fun x183 => some x183) else (some ((-1) : Int32))).bind fun e158 => (ix 24 y156).bind fun k160z => (m_block (st.1, st.2.1, va_up (va_up st.2.2.1 12 (upd (st.2.2.1 12) k150z (1 : Int32))) 13 (upd (upd (st.2.2.1 13) k153z e15) k160z e158), st.2.2.2)).bind fun r163 => if r163.1 = (0 : Int32) then (some (((-9) : Int32), r163.2)) else ((m_current r163.2).bind fun x165 => (some (1 - x165)).bind fun y168 => (some (1 - y168)).bind fun y169 => (rd (r163.2.2.2.1 16) 2 y169).bind fun x170 => (some (x170 + 1)).bind fun y171 => (ix 2 y168).bind fun k172z => (ix 2 y168).bind fun k173z => (m_block (r163.2.1, r163.2.2.1, va_up (va_up r163.2.2.2.1 16 (upd (r163.2.2.2.1 16) k172z y171)) 15 (upd (r163.2.2.2.1 15) k173z e19), r163.2.2.2.2)).bind fun r176 => (if r176.1 = (0 : Int32) then (some ((-9) : Int32)) else (some (0 : Int32))).bind fun e178 => some (e178, r176.2)))) else ((m_writeLeaf e15 x4 y5 a0 a1 st).bind fun st185 => (m_block st185).bind fun r189 => if r189.1 = (0 : Int32) then (some (((-9) : Int32), r189.2)) else (if e19 < (0 : Int32) then ((m_current r189.2).bind fun x192 => (some (1 - x192)).bind fun y195 => (some (1 - y195)).bind fun y196 => (rd (r189.2.2.2.1 16) 2 y196).bind fun x197 => (some (x197 + 1)).bind fun y198 => (ix 2 y195).bind fun k199z => (ix 2 y195).bind fun k200z => (m_block (r189.2.1, r189.2.2.1, va_up (va_up r189.2.2.2.1 16 (upd (r189.2.2.2.1 16) k199z y198)) 15 (upd (r189.2.2.2.1 15) k200z e19), r189.2.2.2.2)).bind fun r203 => (if r203.1 = (0 : Int32) then (some ((-9) : Int32)) else (some (0 : Int32))).bind fun e205 => some (e205, r203.2)) else ((ix 12 e19).bind fun k207z => (some (2 * e19)).bind fun y208 => (some (y208 + y5)).bind fun y209 => (ix 24 y209).bind fun k210z => (some (2 * e19)).bind fun y211 => (some (y211 + 1)).bind fun y212 => (some (y212 - y5)).bind fun y213 => (if (0 : Int32) ≤ x4 then ((some (2 * x4)).bind fun y237 => (some (y237 + 1)).bind fun y238 => (some (y238 - y5)).bind fun y239 => (rd (upd (r189.2.2.2.1 13) k210z e15) 24 y239).bind fun x240 => some x240) else (some ((-1) : Int32))).bind fun e215 => (ix 24 y213).bind fun k217z => (m_block (r189.2.1, r189.2.2.1, va_up (va_up r189.2.2.2.1 12 (upd (r189.2.2.2.1 12) k207z (1 : Int32))) 13 (upd (upd (r189.2.2.2.1 13) k210z e15) k217z e215), r189.2.2.2.2)).bind fun r220 => if r220.1 = (0 : Int32) then (some (((-9) : Int32), r220.2)) else ((m_current r220.2).bind fun x222 => (some (1 - x222)).bind fun y225 => (some (1 - y225)).bind fun y226 => (rd (r220.2.2.2.1 16) 2 y226).bind fun x227 => (some (x227 + 1)).bind fun y228 => (ix 2 y225).bind fun k229z => (ix 2 y225).bind fun k230z => (m_block (r220.2.1, r220.2.2.1, va_up (va_up r220.2.2.2.1 16 (upd (r220.2.2.2.1 16) k229z y228)) 15 (upd (r220.2.2.2.1 15) k230z e19), r220.2.2.2.2)).bind fun r233 => (if r233.1 = (0 : Int32) then (some ((-9) : Int32)) else (some (0 : Int32))).bind fun e235 => some (e235, r233.2)))))) else (some (((-2) : Int32), st)))) else (if e15 < (0 : Int32) then (some (((-2) : Int32), st)) else ((some (e6.1 + e6.2.1)).bind fun y242 => if y242 ≤ (0 : Int32) then (if e6.1 ≤ (0 : Int32) then (if e19 < (0 : Int32) then ((m_current st).bind fun x246 => (some (1 - x246)).bind fun y249 => (some (1 - y249)).bind fun y250 => (rd (st.2.2.1 16) 2 y250).bind fun x251 => (some (x251 + 1)).bind fun y252 => (ix 2 y249).bind fun k253z => (ix 2 y249).bind fun k254z => (m_block (st.1, st.2.1, va_up (va_up st.2.2.1 16 (upd (st.2.2.1 16) k253z y252)) 15 (upd (st.2.2.1 15) k254z e19), st.2.2.2)).bind fun r257 => (if r257.1 = (0 : Int32) then (some ((-9) : Int32)) else (some (0 : Int32))).bind fun e259 => some (e259, r257.2)) else ((ix 12 e19).bind fun k261z => (some (2 * e19)).bind fun y262 => (some (y262 + y5)).bind fun y263 => (ix 24 y263).bind fun k264z => (some (2 * e19)).bind fun y265 => (some (y265 + 1)).bind fun y266 => (some (y266 - y5)).bind fun y267 => (if (0 : Int32) ≤ x4 then ((some (2 * x4)).bind fun y291 => (some (y291 + 1)).bind fun y292 => (some (y292 - y5)).bind fun y293 => (rd (upd (st.2.2.1 13) k264z e15) 24 y293).bind fun x294 => some x294) else (some ((-1) : Int32))).bind fun e269 => (ix 24 y267).bind fun k271z => (m_block (st.1, st.2.1, va_up (va_up st.2.2.1 12 (upd (st.2.2.1 12) k261z (1 : Int32))) 13 (upd (upd (st.2.2.1 13) k264z e15) k271z e269), st.2.2.2)).bind fun r274 => if r274.1 = (0 : Int32) then (some (((-9) : Int32), r274.2)) else ((m_current r274.2).bind fun x276 => (some (1 - x276)).bind fun y279 => (some (1 - y279)).bind fun y280 => (rd (r274.2.2.2.1 16) 2 y280).bind fun x281 => (some (x281 + 1)).bind fun y282 => (ix 2 y279).bind fun k283z => (ix 2 y279).bind fun k284z => (m_block (r274.2.1, r274.2.2.1, va_up (va_up r274.2.2.2.1 16 (upd (r274.2.2.2.1 16) k283z y282)) 15 (upd (r274.2.2.2.1 15) k284z e19), r274.2.2.2.2)).bind fun r287 => (if r287.1 = (0 : Int32) then (some ((-9) : Int32)) else (some (0 : Int32))).bind fun e289 => some (e289, r287.2)))) else ((m_writeLeaf e15 x4 y5 a0 a1 st).bind fun st296 => (m_block st296).bind fun r300 => if r300.1 = (0 : Int32) then (some (((-9) : Int32), r300.2)) else (if e19 < (0 : Int32) then ((m_current r300.2).bind fun x303 => (some (1 - x303)).bind fun y306 => (some (1 - y306)).bind fun y307 => (rd (r300.2.2.2.1 16) 2 y307).bind fun x308 => (some (x308 + 1)).bind fun y309 => (ix 2 y306).bind fun k310z => (ix 2 y306).bind fun k311z => (m_block (r300.2.1, r300.2.2.1, va_up (va_up r300.2.2.2.1 16 (upd (r300.2.2.2.1 16) k310z y309)) 15 (upd (r300.2.2.2.1 15) k311z e19), r300.2.2.2.2)).bind fun r314 => (if r314.1 = (0 : Int32) then (some ((-9) : Int32)) else (some (0 : Int32))).bind fun e316 => some (e316, r314.2)) else ((ix 12 e19).bind fun k318z => (some (2 * e19)).bind fun y319 => (some (y319 + y5)).bind fun y320 => (ix 24 y320).bind fun k321z => (some (2 * e19)).bind fun y322 => (some (y322 + 1)).bind fun y323 => (some (y323 - y5)).bind fun y324 => (if (0 : Int32) ≤ x4 then ((some (2 * x4)).bind fun y348 => (some (y348 + 1)).bind fun y349 => (some (y349 - y5)).bind fun y350 => (rd (upd (r300.2.2.2.1 13) k321z e15) 24 y350).bind fun x351 => some x351) else (some ((-1) : Int32))).bind fun e326 => (ix 24 y324).bind fun k328z => (m_block (r300.2.1, r300.2.2.1, va_up (va_up r300.2.2.2.1 12 (upd (r300.2.2.2.1 12) k318z (1 : Int32))) 13 (upd (upd (r300.2.2.2.1 13) k321z e15) k328z e326), r300.2.2.2.2)).bind fun r331 => if r331.1 = (0 : Int32) then (some (((-9) : Int32), r331.2)) else ((m_current r331.2).bind fun x333 => (some (1 - x333)).bind fun y336 => (some (1 - y336)).bind fun y337 => (rd (r331.2.2.2.1 16) 2 y337).bind fun x338 => (some (x338 + 1)).bind fun y339 => (ix 2 y336).bind fun k340z => (ix 2 y336).bind fun k341z => (m_block (r331.2.1, r331.2.2.1, va_up (va_up r331.2.2.2.1 16 (upd (r331.2.2.2.1 16) k340z y339)) 15 (upd (r331.2.2.2.1 15) k341z e19), r331.2.2.2.2)).bind fun r344 => (if r344.1 = (0 : Int32) then (some ((-9) : Int32)) else (some (0 : Int32))).bind fun e346 => some (e346, r344.2)))))) else (if (0 : Int32) ≤ e19 then (if e6.1 ≤ (0 : Int32) then (if e19 < (0 : Int32) then ((m_current st).bind fun x355 => (some (1 - x355)).bind fun y358 => (some (1 - y358)).bind fun y359 => (rd (st.2.2.1 16) 2 y359).bind fun x360 => (some (x360 + 1)).bind fun y361 => (ix 2 y358).bind fun k362z => (ix 2 y358).bind fun k363z => (m_block (st.1, st.2.1, va_up (va_up st.2.2.1 16 (upd (st.2.2.1 16) k362z y361)) 15 (upd (st.2.2.1 15) k363z e19), st.2.2.2)).bind fun r366 => (if r366.1 = (0 : Int32) then (some ((-9) : Int32)) else (some (0 : Int32))).bind fun e368 => some (e368, r366.2)) else ((ix 12 e19).bind fun k370z => (some (2 * e19)).bind fun y371 => (some (y371 + y5)).bind fun y372 => (ix 24 y372).bind fun k373z => (some (2 * e19)).bind fun y374 => (some (y374 + 1)).bind fun y375 => (some (y375 - y5)).bind fun y376 => (if (0 : Int32) ≤ x4 then ((some (2 * x4)).bind fun y400 => (some (y400 + 1)).bind fun y401 => (some (y401 - y5)).bind fun y402 => (rd (upd (st.2.2.1 13) k373z e15) 24 y402).bind fun x403 => some x403) else (some ((-1) : Int32))).bind fun e378 => (ix 24 y376).bind fun k380z => (m_block (st.1, st.2.1, va_up (va_up st.2.2.1 12 (upd (st.2.2.1 12) k370z (1 : Int32))) 13 (upd (upd (st.2.2.1 13) k373z e15) k380z e378), st.2.2.2)).bind fun r383 => if r383.1 = (0 : Int32) then (some (((-9) : Int32), r383.2)) else ((m_current r383.2).bind fun x385 => (some (1 - x385)).bind fun y388 => (some (1 - y388)).bind fun y389 => (rd (r383.2.2.2.1 16) 2 y389).bind fun x390 => (some (x390 + 1)).bind fun y391 => (ix 2 y388).bind fun k392z => (ix 2 y388).bind fun k393z => (m_block (r383.2.1, r383.2.2.1, va_up (va_up r383.2.2.2.1 16 (upd (r383.2.2.2.1 16) k392z y391)) 15 (upd (r383.2.2.2.1 15) k393z e19), r383.2.2.2.2)).bind fun r396 => (if r396.1 = (0 : Int32) then (some ((-9) : Int32)) else (some (0 : Int32))).bind fun e398 => some (e398, r396.2)))) else ((m_writeLeaf e15 x4 y5 a0 a1 st).bind fun st405 => (m_block st405).bind fun r409 => if r409.1 = (0 : Int32) then (some (((-9) : Int32), r409.2)) else (if e19 < (0 : Int32) then ((m_current r409.2).bind fun x412 => (some (1 - x412)).bind fun y415 => (some (1 - y415)).bind fun y416 => (rd (r409.2.2.2.1 16) 2 y416).bind fun x417 => (some (x417 + 1)).bind fun y418 => (ix 2 y415).bind fun k419z => (ix 2 y415).bind fun k420z => (m_block (r409.2.1, r409.2.2.1, va_up (va_up r409.2.2.2.1 16 (upd (r409.2.2.2.1 16) k419z y418)) 15 (upd (r409.2.2.2.1 15) k420z e19), r409.2.2.2.2)).bind fun r423 => (if r423.1 = (0 : Int32) then (some ((-9) : Int32)) else (some (0 : Int32))).bind fun e425 => some (e425, r423.2)) else ((ix 12 e19).bind fun k427z => (some (2 * e19)).bind fun y428 => (some (y428 + y5)).bind fun y429 => (ix 24 y429).bind fun k430z => (some (2 * e19)).bind fun y431 => (some (y431 + 1)).bind fun y432 => (some (y432 - y5)).bind fun y433 => (if (0 : Int32) ≤ x4 then ((some (2 * x4)).bind fun y457 => (some (y457 + 1)).bind fun y458 => (some (y458 - y5)).bind fun y459 => (rd (upd (r409.2.2.2.1 13) k430z e15) 24 y459).bind fun x460 => some x460) else (some ((-1) : Int32))).bind fun e435 => (ix 24 y433).bind fun k437z => (m_block (r409.2.1, r409.2.2.1, va_up (va_up r409.2.2.2.1 12 (upd (r409.2.2.2.1 12) k427z (1 : Int32))) 13 (upd (upd (r409.2.2.2.1 13) k430z e15) k437z e435), r409.2.2.2.2)).bind fun r440 => if r440.1 = (0 : Int32) then (some (((-9) : Int32), r440.2)) else ((m_current r440.2).bind fun x442 => (some (1 - x442)).bind fun y445 => (some (1 - y445)).bind fun y446 => (rd (r440.2.2.2.1 16) 2 y446).bind fun x447 => (some (x447 + 1)).bind fun y448 => (ix 2 y445).bind fun k449z => (ix 2 y445).bind fun k450z => (m_block (r440.2.1, r440.2.2.1, va_up (va_up r440.2.2.2.1 16 (upd (r440.2.2.2.1 16) k449z y448)) 15 (upd (r440.2.2.2.1 15) k450z e19), r440.2.2.2.2)).bind fun r453 => (if r453.1 = (0 : Int32) then (some ((-9) : Int32)) else (some (0 : Int32))).bind fun e455 => some (e455, r453.2)))))) else (some (((-2) : Int32), st)))))
set_option maxHeartbeats 4000000 in
set_option maxRecDepth 100000 in
theorem cm_change (l : Launch) (G : Gk) (Zd : Nat → Nat) (q : Nat → Nat) (a0 : Int32) (a1 : Int32) (st : MS) (r0 : Int32) (st0 : MS) (hm : m_change a0 a1 st = some (r0, st0)) (sz : Nat) : Met l y15_59 (Cond.code y15_59 prog_15_method_59_code 10 (some .int) :: TB) (rmD 3 0 0) (va_Pc [.ref (q 0), .int a0, .int a1] (pcW G Zd (wMs q G.2 st) sz)) (qI G (fun rr (_ : Unit) => rr = r0) (fun _ => (wMs q G.2 st0)) (va_A (wMs q G.2 st) sz)) 0 0 (va_A (wMs q G.2 st) sz) := by
  refine go (y := y15_59) (cc := prog_15_method_59_code) (maxL := 10) (ret := (some .int)) (av := [.ref (q 0), .int a0, .int a1]) (Qc := qI G (fun rr (_ : Unit) => rr = r0) (fun _ => (wMs q G.2 st0))) "PagedValuesModel" rfl (by decide) (Nat.le_of_ble_eq_true rfl) ?_
  intro p e s m below meth c ls A hx hb hr hlk hml hown hts hin hl hP hD hK hS hA hZ
  have hl : lv_has ls 10 [(0, .ref (q 0)), (1, .int a0), (2, .int a1)] := hl
  have h := hm
  clear hm
  refine lv_aload_n hx hb d15_59_0 rfl (lv_at hl 0 rfl) ?_
  refine va_get (D := G.1) (ci := 13) (v := .ref (q 22)) (C := r_13) (T := f_13) (N := 42) (ref := "PagedValuesModel") hx hb hts (fun w h => List.mem_cons_of_mem _ (ly_13 w h)) hown hK hP 0 rfl rfl 35 (by decide) (hts _ (List.mem_cons_of_mem _ k1186)) (fun _ h9 => h9) rfl d15_59_1 ?_
  refine lv_aload_n hx hb d15_59_4 rfl (lv_at hl 0 rfl) ?_
  obtain ⟨x1, hc, h⟩ := ob h
  refine sV_i (As := []) (rest := [.ref (q 22)]) ⟨hx, hb, hml, hown, hts⟩ (cm_current l G Zd q st x1 hc _) (kw_V (n := 0) hts k1396 k1393 k15 k1395 ks57 (by decide +kernel) ⟨Nat.le_of_ble_eq_true rfl, Nat.le_of_ble_eq_true rfl⟩) hP hD hK hS hA hZ (va_recv (ci := 13) (q0 := 0) hK hP rfl rfl) rfl hl.1 rfl (Nat.le_of_ble_eq_true rfl) d15_59_5 ⟨Nat.le_of_ble_eq_true rfl, Nat.le_of_ble_eq_true rfl⟩ (fun rr u9 H locs hp hP hD hS => ?_)
  clear u9
  subst rr
  clear hc
  refine W.eq (g2 := F0 m 8 ls [.int x1, .ref (q 22)]) rfl ?_
  have hP : va_P G.1 vwCl (wMs q G.2 st) H := hP
  have hD : va_D A (wMs q G.2 st) := hD
  obtain ⟨x4, hr, h⟩ := ob h
  obtain ⟨hi, hv⟩ := rd_some hr
  refine va_iald (D := G.1) hx hb hK hP 22 1 rfl rfl (i := x1) hi d15_59_8 ?_
  refine lv_topi (fun y9 ey => ?_)
  have e9 := ey.trans hv
  clear ey
  subst y9
  clear hv hi hr
  refine lv_istore_n (lv' := [(3, .int x4), (0, .ref (q 0)), (1, .int a0), (2, .int a1)]) hx hb d15_59_9 rfl hl (by decide) rfl (fun ls hl => ?_)
  refine lv_iload_n hx hb d15_59_10 rfl (lv_at hl 2 rfl) ?_
  refine lv_iconst (v := 4) hx hb d15_59_11 (by decide) ?_
  refine lv_idiv hx hb d15_59_12 (by decide) ?_
  obtain ⟨y5, hr, h⟩ := ob h
  refine lv_topi (fun y9 ey => ?_)
  have e9 := ey.trans (Option.some.inj hr)
  clear ey
  subst y9
  clear hr
  refine lv_istore (lv' := [(4, .int y5), (3, .int x4), (0, .ref (q 0)), (1, .int a0), (2, .int a1)]) hx hb d15_59_13 hl (by decide) rfl (fun ls hl => ?_)
  refine lv_iconst (v := 0) hx hb d15_59_15 (by decide) ?_
  refine lv_istore (lv' := [(5, .int 0), (4, .int y5), (3, .int x4), (0, .ref (q 0)), (1, .int a0), (2, .int a1)]) hx hb d15_59_16 hl (by decide) rfl (fun ls hl => ?_)
  refine lv_iconst (v := 0) hx hb d15_59_18 (by decide) ?_
  refine lv_istore (lv' := [(6, .int 0), (5, .int 0), (4, .int y5), (3, .int x4), (0, .ref (q 0)), (1, .int a0), (2, .int a1)]) hx hb d15_59_19 hl (by decide) rfl (fun ls hl => ?_)
  refine lv_iconst (v := 0) hx hb d15_59_21 (by decide) ?_
  refine lv_istore (lv' := [(7, .int 0), (6, .int 0), (5, .int 0), (4, .int y5), (3, .int x4), (0, .ref (q 0)), (1, .int a0), (2, .int a1)]) hx hb d15_59_22 hl (by decide) rfl (fun ls hl => ?_)
  obtain ⟨e6, hX, hrest⟩ := ob h
  clear h
  have hj : ∀ (v11 : Int32) (v12 : Int32) (v13 : Int32), e6 = (v11, v12, v13) → ∀ (H : Heap) (locs : List Loc) (ls : Array Slot), lv_has ls 10 [(0, .ref (q 0)), (1, .int a0), (2, .int a1), (3, .int x4), (4, .int y5), (5, .int v11), (6, .int v12), (7, .int v13)] → va_P G.1 vwCl (wMs q G.2 st) H → va_D A (wMs q G.2 st) → va_S A s.heap H locs → W p l e (rmD 3 0 0) s m ([.ref (q 0), .int a0, .int a1] : List Value).toArray below meth c H locs 0 0 (MQ below (qI G (fun rr (_ : Unit) => rr = r0) (fun _ => (wMs q G.2 st0)) A) ([.ref (q 0), .int a0, .int a1] : List Value).toArray s 0 0 A) (F0 m 122 ls []) := by
    intro v11 v12 v13 he H locs ls hl hP hD hS
    subst e6
    have h := hrest
    refine lv_iload hx hb d15_59_122 (lv_at hl 5 rfl) ?_
    obtain ⟨e15, hX, h⟩ := ob h
    have hj : ∀ (H : Heap) (locs : List Loc) (ls : Array Slot), lv_has ls 10 [(0, .ref (q 0)), (1, .int a0), (2, .int a1), (3, .int x4), (4, .int y5), (5, .int v11), (6, .int v12), (7, .int v13)] → va_P G.1 vwCl (wMs q G.2 st) H → va_D A (wMs q G.2 st) → va_S A s.heap H locs → W p l e (rmD 3 0 0) s m ([.ref (q 0), .int a0, .int a1] : List Value).toArray below meth c H locs 0 0 (MQ below (qI G (fun rr (_ : Unit) => rr = r0) (fun _ => (wMs q G.2 st0)) A) ([.ref (q 0), .int a0, .int a1] : List Value).toArray s 0 0 A) (F0 m 136 ls [.int e15]) := by
      intro H locs ls hl hP hD hS
      refine lv_istore (lv' := [(7, .int e15), (0, .ref (q 0)), (1, .int a0), (2, .int a1), (3, .int x4), (4, .int y5), (5, .int v11), (6, .int v12)]) hx hb d15_59_136 hl (by decide) rfl (fun ls hl => ?_)
      refine lv_iload hx hb d15_59_138 (lv_at hl 6 rfl) ?_
      refine lv_iload hx hb d15_59_140 (lv_at hl 7 rfl) ?_
      refine lv_iadd hx hb d15_59_142 ?_
      obtain ⟨y17, hr, h⟩ := ob h
      refine lv_topi (fun y9 ey => ?_)
      have e9 := ey.trans (Option.some.inj hr)
      clear ey
      subst y9
      clear hr
      obtain ⟨e19, hX, h⟩ := ob h
      have hj : ∀ (H : Heap) (locs : List Loc) (ls : Array Slot), lv_has ls 10 [(0, .ref (q 0)), (1, .int a0), (2, .int a1), (3, .int x4), (4, .int y5), (5, .int v11), (6, .int v12), (7, .int e15)] → va_P G.1 vwCl (wMs q G.2 st) H → va_D A (wMs q G.2 st) → va_S A s.heap H locs → W p l e (rmD 3 0 0) s m ([.ref (q 0), .int a0, .int a1] : List Value).toArray below meth c H locs 0 0 (MQ below (qI G (fun rr (_ : Unit) => rr = r0) (fun _ => (wMs q G.2 st0)) A) ([.ref (q 0), .int a0, .int a1] : List Value).toArray s 0 0 A) (F0 m 156 ls [.int e19]) := by
        intro H locs ls hl hP hD hS
        refine lv_istore (lv' := [(8, .int e19), (0, .ref (q 0)), (1, .int a0), (2, .int a1), (3, .int x4), (4, .int y5), (5, .int v11), (6, .int v12), (7, .int e15)]) hx hb d15_59_156 hl (by decide) rfl (fun ls hl => ?_)
        refine lv_iload hx hb d15_59_158 (lv_at hl 6 rfl) ?_
        refine lv_if_le (tgt := 168) hx hb d15_59_160 rfl (fun c21 => ?_) (fun c21 => ?_)
        ·
          replace h := (if_pos c21).symm.trans h
          refine lv_iload hx hb d15_59_168 (lv_at hl 6 rfl) ?_
          refine lv_iload hx hb d15_59_170 (lv_at hl 7 rfl) ?_
          refine lv_iadd hx hb d15_59_172 ?_
          obtain ⟨y22, hr, h⟩ := ob h
          refine lv_topi (fun y9 ey => ?_)
          have e9 := ey.trans (Option.some.inj hr)
          clear ey
          subst y9
          clear hr
          refine lv_if_le (tgt := 184) hx hb d15_59_173 rfl (fun c23 => ?_) (fun c23 => ?_)
          ·
            replace h := (if_pos c23).symm.trans h
            refine lv_iload hx hb d15_59_184 (lv_at hl 6 rfl) ?_
            refine lv_if_le (tgt := 210) hx hb d15_59_186 rfl (fun c24 => ?_) (fun c24 => ?_)
            ·
              replace h := (if_pos c24).symm.trans h
              refine lv_iload hx hb d15_59_210 (lv_at hl 0 rfl) ?_
              refine lv_if_lt (tgt := 282) hx hb d15_59_212 rfl (fun c25 => ?_) (fun c25 => ?_)
              ·
                replace h := (if_pos c25).symm.trans h
                refine lv_iconst (v := 1) hx hb d15_59_282 (by decide) ?_
                refine lv_aload_n hx hb d15_59_283 rfl (lv_at hl 1 rfl) ?_
                obtain ⟨x26, hc, h⟩ := ob h
                refine sV_i (As := []) (rest := [.int 1]) ⟨hx, hb, hml, hown, hts⟩ (cm_current l G Zd q st x26 hc _) (kw_V (n := 0) hts k1396 k1393 k15 k1395 ks57 (by decide +kernel) ⟨Nat.le_of_ble_eq_true rfl, Nat.le_of_ble_eq_true rfl⟩) hP hD hK hS hA hZ (va_recv (ci := 13) (q0 := 0) hK hP rfl rfl) rfl hl.1 rfl (Nat.le_of_ble_eq_true rfl) d15_59_284 ⟨Nat.le_of_ble_eq_true rfl, Nat.le_of_ble_eq_true rfl⟩ (fun rr u9 H locs hp hP hD hS => ?_)
                clear u9
                subst rr
                clear hc
                refine W.eq (g2 := F0 m 287 ls [.int x26, .int 1]) rfl ?_
                have hP : va_P G.1 vwCl (wMs q G.2 st) H := hP
                have hD : va_D A (wMs q G.2 st) := hD
                refine lv_isub hx hb d15_59_287 ?_
                obtain ⟨y29, hr, h⟩ := ob h
                refine lv_topi (fun y9 ey => ?_)
                have e9 := ey.trans (Option.some.inj hr)
                clear ey
                subst y9
                clear hr
                refine lv_istore (lv' := [(9, .int y29), (8, .int e19), (0, .ref (q 0)), (1, .int a0), (2, .int a1), (3, .int x4), (4, .int y5), (5, .int v11), (6, .int v12), (7, .int e15)]) hx hb d15_59_288 hl (by decide) rfl (fun ls hl => ?_)
                refine lv_aload_n hx hb d15_59_290 rfl (lv_at hl 2 rfl) ?_
                refine va_get (D := G.1) (ci := 13) (v := .ref (q 23)) (C := r_13) (T := f_13) (N := 42) (ref := "PagedValuesModel") hx hb hts (fun w h => List.mem_cons_of_mem _ (ly_13 w h)) hown hK hP 0 rfl rfl 36 (by decide) (hts _ (List.mem_cons_of_mem _ k1187)) (fun _ h9 => h9) rfl d15_59_291 ?_
                refine lv_iload hx hb d15_59_294 (lv_at hl 0 rfl) ?_
                refine lv_aload_n hx hb d15_59_296 rfl (lv_at hl 2 rfl) ?_
                refine va_get (D := G.1) (ci := 13) (v := .ref (q 23)) (C := r_13) (T := f_13) (N := 42) (ref := "PagedValuesModel") hx hb hts (fun w h => List.mem_cons_of_mem _ (ly_13 w h)) hown hK hP 0 rfl rfl 36 (by decide) (hts _ (List.mem_cons_of_mem _ k1187)) (fun _ h9 => h9) rfl d15_59_297 ?_
                refine lv_iconst (v := 1) hx hb d15_59_300 (by decide) ?_
                refine lv_iload hx hb d15_59_301 (lv_at hl 0 rfl) ?_
                refine lv_isub hx hb d15_59_303 ?_
                obtain ⟨y30, hr, h⟩ := ob h
                refine lv_topi (fun y9 ey => ?_)
                have e9 := ey.trans (Option.some.inj hr)
                clear ey
                subst y9
                clear hr
                obtain ⟨x31, hr, h⟩ := ob h
                obtain ⟨hi, hv⟩ := rd_some hr
                refine va_iald (D := G.1) hx hb hK hP 23 1 rfl rfl (i := y30) hi d15_59_304 ?_
                refine lv_topi (fun y9 ey => ?_)
                have e9 := ey.trans hv
                clear ey
                subst y9
                clear hv hi hr
                refine lv_iconst (v := 1) hx hb d15_59_305 (by decide) ?_
                refine lv_iadd hx hb d15_59_306 ?_
                obtain ⟨y32, hr, h⟩ := ob h
                refine lv_topi (fun y9 ey => ?_)
                have e9 := ey.trans (Option.some.inj hr)
                clear ey
                subst y9
                clear hr
                obtain ⟨k33z, hr, h⟩ := ob h
                obtain ⟨hi, hk⟩ := ix_some hr
                clear hr
                refine va_iast (D := G.1) hx hb hK hP hD hS 23 1 rfl rfl (i := y29) (x := y32) hi d15_59_307 (fun H locs hP hD hS => ?_)
                rw [hk] at hP hD
                clear hk hi
                have hP : va_P G.1 vwCl (wMs q G.2 (st.1, st.2.1, va_up st.2.2.1 16 (upd (st.2.2.1 16) k33z y32), st.2.2.2)) H := hP
                have hD : va_D A (wMs q G.2 (st.1, st.2.1, va_up st.2.2.1 16 (upd (st.2.2.1 16) k33z y32), st.2.2.2)) := hD
                refine lv_aload_n hx hb d15_59_308 rfl (lv_at hl 2 rfl) ?_
                refine va_get (D := G.1) (ci := 13) (v := .ref (q 22)) (C := r_13) (T := f_13) (N := 42) (ref := "PagedValuesModel") hx hb hts (fun w h => List.mem_cons_of_mem _ (ly_13 w h)) hown hK hP 0 rfl rfl 35 (by decide) (hts _ (List.mem_cons_of_mem _ k1186)) (fun _ h9 => h9) rfl d15_59_309 ?_
                refine lv_iload hx hb d15_59_312 (lv_at hl 0 rfl) ?_
                refine lv_iload hx hb d15_59_314 (lv_at hl 1 rfl) ?_
                obtain ⟨k34z, hr, h⟩ := ob h
                obtain ⟨hi, hk⟩ := ix_some hr
                clear hr
                refine va_iast (D := G.1) hx hb hK hP hD hS 22 1 rfl rfl (i := y29) (x := e19) hi d15_59_316 (fun H locs hP hD hS => ?_)
                rw [hk] at hP hD
                clear hk hi
                have hP : va_P G.1 vwCl (wMs q G.2 (st.1, st.2.1, va_up (va_up st.2.2.1 16 (upd (st.2.2.1 16) k33z y32)) 15 (upd (st.2.2.1 15) k34z e19), st.2.2.2)) H := hP
                have hD : va_D A (wMs q G.2 (st.1, st.2.1, va_up (va_up st.2.2.1 16 (upd (st.2.2.1 16) k33z y32)) 15 (upd (st.2.2.1 15) k34z e19), st.2.2.2)) := hD
                refine lv_aload_n hx hb d15_59_317 rfl (lv_at hl 2 rfl) ?_
                obtain ⟨⟨x35, st36⟩, hc, h⟩ := ob h
                refine sV_i (As := []) (rest := []) ⟨hx, hb, hml, hown, hts⟩ (cm_block l G Zd q (st.1, st.2.1, va_up (va_up st.2.2.1 16 (upd (st.2.2.1 16) k33z y32)) 15 (upd (st.2.2.1 15) k34z e19), st.2.2.2) x35 st36 hc _) (kw_V (n := 0) hts k1428 k1425 k15 k1427 ks65 (by decide +kernel) ⟨Nat.le_of_ble_eq_true rfl, Nat.le_of_ble_eq_true rfl⟩) hP hD hK hS hA hZ (va_recv (ci := 13) (q0 := 0) hK hP rfl rfl) rfl hl.1 rfl (Nat.le_of_ble_eq_true rfl) d15_59_318 ⟨Nat.le_of_ble_eq_true rfl, Nat.le_of_ble_eq_true rfl⟩ (fun rr u9 H locs hp hP hD hS => ?_)
                clear u9
                subst rr
                clear hc
                refine W.eq (g2 := F0 m 321 ls [.int x35]) rfl ?_
                have hP : va_P G.1 vwCl (wMs q G.2 st36) H := hP
                have hD : va_D A (wMs q G.2 st36) := hD
                obtain ⟨e39, hX, h⟩ := ob h
                have hj : ∀ (H : Heap) (locs : List Loc) (ls : Array Slot), lv_has ls 10 [(0, .ref (q 0)), (1, .int a0), (2, .int a1), (3, .int x4), (4, .int y5), (5, .int v11), (6, .int v12), (7, .int e15), (8, .int e19), (9, .int y29)] → va_P G.1 vwCl (wMs q G.2 st36) H → va_D A (wMs q G.2 st36) → va_S A s.heap H locs → W p l e (rmD 3 0 0) s m ([.ref (q 0), .int a0, .int a1] : List Value).toArray below meth c H locs 0 0 (MQ below (qI G (fun rr (_ : Unit) => rr = r0) (fun _ => (wMs q G.2 st0)) A) ([.ref (q 0), .int a0, .int a1] : List Value).toArray s 0 0 A) (F0 m 330 ls [.int e39]) := by
                  intro H locs ls hl hP hD hS
                  cases h
                  exact fin_i hx hb hr hlk hS () rfl hP hD (Nat.le_of_ble_eq_true rfl) (Nat.le_of_ble_eq_true rfl) d15_59_330
                clear h
                refine lv_if_eq (tgt := 328) hx hb d15_59_321 rfl (fun c38 => ?_) (fun c38 => ?_)
                ·
                  replace h := (if_pos c38).symm.trans hX
                  refine lv_bipush (v := (-9)) hx hb d15_59_328 (by decide) ?_
                  have e9 := Option.some.inj h
                  subst e39
                  have hl := lv_sub hl (l' := [(0, .ref (q 0)), (1, .int a0), (2, .int a1), (3, .int x4), (4, .int y5), (5, .int v11), (6, .int v12), (7, .int e15), (8, .int e19), (9, .int y29)]) [2, 3, 4, 5, 6, 7, 8, 9, 1, 0] rfl
                  exact hj _ _ _ hl hP hD hS
                ·
                  replace h := (if_neg c38).symm.trans hX
                  refine lv_iconst (v := 0) hx hb d15_59_324 (by decide) ?_
                  refine lv_goto (tgt := 330) hx hb d15_59_325 rfl ?_
                  have e9 := Option.some.inj h
                  subst e39
                  have hl := lv_sub hl (l' := [(0, .ref (q 0)), (1, .int a0), (2, .int a1), (3, .int x4), (4, .int y5), (5, .int v11), (6, .int v12), (7, .int e15), (8, .int e19), (9, .int y29)]) [2, 3, 4, 5, 6, 7, 8, 9, 1, 0] rfl
                  exact hj _ _ _ hl hP hD hS
              ·
                replace h := (if_neg c25).symm.trans h
                refine lv_aload_n hx hb d15_59_215 rfl (lv_at hl 1 rfl) ?_
                refine va_get (D := G.1) (ci := 13) (v := .ref (q 19)) (C := r_13) (T := f_13) (N := 42) (ref := "PagedValuesModel") hx hb hts (fun w h => List.mem_cons_of_mem _ (ly_13 w h)) hown hK hP 0 rfl rfl 32 (by decide) (hts _ (List.mem_cons_of_mem _ k1183)) (fun _ h9 => h9) rfl d15_59_216 ?_
                refine lv_iload hx hb d15_59_219 (lv_at hl 0 rfl) ?_
                refine lv_iconst (v := 1) hx hb d15_59_221 (by decide) ?_
                obtain ⟨k41z, hr, h⟩ := ob h
                obtain ⟨hi, hk⟩ := ix_some hr
                clear hr
                refine va_iast (D := G.1) hx hb hK hP hD hS 19 1 rfl rfl (i := e19) (x := (1 : Int32)) hi d15_59_222 (fun H locs hP hD hS => ?_)
                rw [hk] at hP hD
                clear hk hi
                have hP : va_P G.1 vwCl (wMs q G.2 (st.1, st.2.1, va_up st.2.2.1 12 (upd (st.2.2.1 12) k41z (1 : Int32)), st.2.2.2)) H := hP
                have hD : va_D A (wMs q G.2 (st.1, st.2.1, va_up st.2.2.1 12 (upd (st.2.2.1 12) k41z (1 : Int32)), st.2.2.2)) := hD
                refine lv_aload_n hx hb d15_59_223 rfl (lv_at hl 1 rfl) ?_
                refine va_get (D := G.1) (ci := 13) (v := .ref (q 20)) (C := r_13) (T := f_13) (N := 42) (ref := "PagedValuesModel") hx hb hts (fun w h => List.mem_cons_of_mem _ (ly_13 w h)) hown hK hP 0 rfl rfl 33 (by decide) (hts _ (List.mem_cons_of_mem _ k1184)) (fun _ h9 => h9) rfl d15_59_224 ?_
                refine lv_iconst (v := 2) hx hb d15_59_227 (by decide) ?_
                refine lv_iload hx hb d15_59_228 (lv_at hl 0 rfl) ?_
                refine lv_imul hx hb d15_59_230 ?_
                obtain ⟨y42, hr, h⟩ := ob h
                refine lv_topi (fun y9 ey => ?_)
                have e9 := ey.trans (Option.some.inj hr)
                clear ey
                subst y9
                clear hr
                refine lv_iload hx hb d15_59_231 (lv_at hl 5 rfl) ?_
                refine lv_iadd hx hb d15_59_233 ?_
                obtain ⟨y43, hr, h⟩ := ob h
                refine lv_topi (fun y9 ey => ?_)
                have e9 := ey.trans (Option.some.inj hr)
                clear ey
                subst y9
                clear hr
                refine lv_iload hx hb d15_59_234 (lv_at hl 8 rfl) ?_
                obtain ⟨k44z, hr, h⟩ := ob h
                obtain ⟨hi, hk⟩ := ix_some hr
                clear hr
                refine va_iast (D := G.1) hx hb hK hP hD hS 20 1 rfl rfl (i := y43) (x := e15) hi d15_59_236 (fun H locs hP hD hS => ?_)
                rw [hk] at hP hD
                clear hk hi
                have hP : va_P G.1 vwCl (wMs q G.2 (st.1, st.2.1, va_up (va_up st.2.2.1 12 (upd (st.2.2.1 12) k41z (1 : Int32))) 13 (upd (st.2.2.1 13) k44z e15), st.2.2.2)) H := hP
                have hD : va_D A (wMs q G.2 (st.1, st.2.1, va_up (va_up st.2.2.1 12 (upd (st.2.2.1 12) k41z (1 : Int32))) 13 (upd (st.2.2.1 13) k44z e15), st.2.2.2)) := hD
                refine lv_aload_n hx hb d15_59_237 rfl (lv_at hl 1 rfl) ?_
                refine va_get (D := G.1) (ci := 13) (v := .ref (q 20)) (C := r_13) (T := f_13) (N := 42) (ref := "PagedValuesModel") hx hb hts (fun w h => List.mem_cons_of_mem _ (ly_13 w h)) hown hK hP 0 rfl rfl 33 (by decide) (hts _ (List.mem_cons_of_mem _ k1184)) (fun _ h9 => h9) rfl d15_59_238 ?_
                refine lv_iconst (v := 2) hx hb d15_59_241 (by decide) ?_
                refine lv_iload hx hb d15_59_242 (lv_at hl 0 rfl) ?_
                refine lv_imul hx hb d15_59_244 ?_
                obtain ⟨y45, hr, h⟩ := ob h
                refine lv_topi (fun y9 ey => ?_)
                have e9 := ey.trans (Option.some.inj hr)
                clear ey
                subst y9
                clear hr
                refine lv_iconst (v := 1) hx hb d15_59_245 (by decide) ?_
                refine lv_iadd hx hb d15_59_246 ?_
                obtain ⟨y46, hr, h⟩ := ob h
                refine lv_topi (fun y9 ey => ?_)
                have e9 := ey.trans (Option.some.inj hr)
                clear ey
                subst y9
                clear hr
                refine lv_iload hx hb d15_59_247 (lv_at hl 5 rfl) ?_
                refine lv_isub hx hb d15_59_249 ?_
                obtain ⟨y47, hr, h⟩ := ob h
                refine lv_topi (fun y9 ey => ?_)
                have e9 := ey.trans (Option.some.inj hr)
                clear ey
                subst y9
                clear hr
                refine lv_iload_n hx hb d15_59_250 rfl (lv_at hl 4 rfl) ?_
                obtain ⟨e49, hX, h⟩ := ob h
                have hj : ∀ (H : Heap) (locs : List Loc) (ls : Array Slot), lv_has ls 10 [(0, .ref (q 0)), (1, .int a0), (2, .int a1), (3, .int x4), (4, .int y5), (5, .int v11), (6, .int v12), (7, .int e15), (8, .int e19)] → va_P G.1 vwCl (wMs q G.2 (st.1, st.2.1, va_up (va_up st.2.2.1 12 (upd (st.2.2.1 12) k41z (1 : Int32))) 13 (upd (st.2.2.1 13) k44z e15), st.2.2.2)) H → va_D A (wMs q G.2 (st.1, st.2.1, va_up (va_up st.2.2.1 12 (upd (st.2.2.1 12) k41z (1 : Int32))) 13 (upd (st.2.2.1 13) k44z e15), st.2.2.2)) → va_S A s.heap H locs → W p l e (rmD 3 0 0) s m ([.ref (q 0), .int a0, .int a1] : List Value).toArray below meth c H locs 0 0 (MQ below (qI G (fun rr (_ : Unit) => rr = r0) (fun _ => (wMs q G.2 st0)) A) ([.ref (q 0), .int a0, .int a1] : List Value).toArray s 0 0 A) (F0 m 271 ls [.int e49, .int y47, .ref (q 20)]) := by
                  intro H locs ls hl hP hD hS
                  obtain ⟨k51z, hr, h⟩ := ob h
                  obtain ⟨hi, hk⟩ := ix_some hr
                  clear hr
                  refine va_iast (D := G.1) hx hb hK hP hD hS 20 1 rfl rfl (i := y47) (x := e49) hi d15_59_271 (fun H locs hP hD hS => ?_)
                  rw [hk] at hP hD
                  clear hk hi
                  have hP : va_P G.1 vwCl (wMs q G.2 (st.1, st.2.1, va_up (va_up st.2.2.1 12 (upd (st.2.2.1 12) k41z (1 : Int32))) 13 (upd (upd (st.2.2.1 13) k44z e15) k51z e49), st.2.2.2)) H := hP
                  have hD : va_D A (wMs q G.2 (st.1, st.2.1, va_up (va_up st.2.2.1 12 (upd (st.2.2.1 12) k41z (1 : Int32))) 13 (upd (upd (st.2.2.1 13) k44z e15) k51z e49), st.2.2.2)) := hD
                  refine lv_aload_n hx hb d15_59_272 rfl (lv_at hl 0 rfl) ?_
                  obtain ⟨⟨x52, st53⟩, hc, h⟩ := ob h
                  refine sV_i (As := []) (rest := []) ⟨hx, hb, hml, hown, hts⟩ (cm_block l G Zd q (st.1, st.2.1, va_up (va_up st.2.2.1 12 (upd (st.2.2.1 12) k41z (1 : Int32))) 13 (upd (upd (st.2.2.1 13) k44z e15) k51z e49), st.2.2.2) x52 st53 hc _) (kw_V (n := 0) hts k1428 k1425 k15 k1427 ks65 (by decide +kernel) ⟨Nat.le_of_ble_eq_true rfl, Nat.le_of_ble_eq_true rfl⟩) hP hD hK hS hA hZ (va_recv (ci := 13) (q0 := 0) hK hP rfl rfl) rfl hl.1 rfl (Nat.le_of_ble_eq_true rfl) d15_59_273 ⟨Nat.le_of_ble_eq_true rfl, Nat.le_of_ble_eq_true rfl⟩ (fun rr u9 H locs hp hP hD hS => ?_)
                  clear u9
                  subst rr
                  clear hc
                  refine W.eq (g2 := F0 m 276 ls [.int x52]) rfl ?_
                  have hP : va_P G.1 vwCl (wMs q G.2 st53) H := hP
                  have hD : va_D A (wMs q G.2 st53) := hD
                  refine lv_if_ne (tgt := 282) hx hb d15_59_276 rfl (fun c55 => ?_) (fun c55 => ?_)
                  ·
                    replace h := (if_neg c55).symm.trans h
                    refine lv_iconst (v := 1) hx hb d15_59_282 (by decide) ?_
                    refine lv_aload_n hx hb d15_59_283 rfl (lv_at hl 0 rfl) ?_
                    obtain ⟨x56, hc, h⟩ := ob h
                    refine sV_i (As := []) (rest := [.int 1]) ⟨hx, hb, hml, hown, hts⟩ (cm_current l G Zd q st53 x56 hc _) (kw_V (n := 0) hts k1396 k1393 k15 k1395 ks57 (by decide +kernel) ⟨Nat.le_of_ble_eq_true rfl, Nat.le_of_ble_eq_true rfl⟩) hP hD hK hS hA hZ (va_recv (ci := 13) (q0 := 0) hK hP rfl rfl) rfl hl.1 rfl (Nat.le_of_ble_eq_true rfl) d15_59_284 ⟨Nat.le_of_ble_eq_true rfl, Nat.le_of_ble_eq_true rfl⟩ (fun rr u9 H locs hp hP hD hS => ?_)
                    clear u9
                    subst rr
                    clear hc
                    refine W.eq (g2 := F0 m 287 ls [.int x56, .int 1]) rfl ?_
                    have hP : va_P G.1 vwCl (wMs q G.2 st53) H := hP
                    have hD : va_D A (wMs q G.2 st53) := hD
                    refine lv_isub hx hb d15_59_287 ?_
                    obtain ⟨y59, hr, h⟩ := ob h
                    refine lv_topi (fun y9 ey => ?_)
                    have e9 := ey.trans (Option.some.inj hr)
                    clear ey
                    subst y9
                    clear hr
                    refine lv_istore (lv' := [(9, .int y59), (0, .ref (q 0)), (1, .int a0), (2, .int a1), (3, .int x4), (4, .int y5), (5, .int v11), (6, .int v12), (7, .int e15), (8, .int e19)]) hx hb d15_59_288 hl (by decide) rfl (fun ls hl => ?_)
                    refine lv_aload_n hx hb d15_59_290 rfl (lv_at hl 1 rfl) ?_
                    refine va_get (D := G.1) (ci := 13) (v := .ref (q 23)) (C := r_13) (T := f_13) (N := 42) (ref := "PagedValuesModel") hx hb hts (fun w h => List.mem_cons_of_mem _ (ly_13 w h)) hown hK hP 0 rfl rfl 36 (by decide) (hts _ (List.mem_cons_of_mem _ k1187)) (fun _ h9 => h9) rfl d15_59_291 ?_
                    refine lv_iload hx hb d15_59_294 (lv_at hl 0 rfl) ?_
                    refine lv_aload_n hx hb d15_59_296 rfl (lv_at hl 1 rfl) ?_
                    refine va_get (D := G.1) (ci := 13) (v := .ref (q 23)) (C := r_13) (T := f_13) (N := 42) (ref := "PagedValuesModel") hx hb hts (fun w h => List.mem_cons_of_mem _ (ly_13 w h)) hown hK hP 0 rfl rfl 36 (by decide) (hts _ (List.mem_cons_of_mem _ k1187)) (fun _ h9 => h9) rfl d15_59_297 ?_
                    refine lv_iconst (v := 1) hx hb d15_59_300 (by decide) ?_
                    refine lv_iload hx hb d15_59_301 (lv_at hl 0 rfl) ?_
                    refine lv_isub hx hb d15_59_303 ?_
                    obtain ⟨y60, hr, h⟩ := ob h
                    refine lv_topi (fun y9 ey => ?_)
                    have e9 := ey.trans (Option.some.inj hr)
                    clear ey
                    subst y9
                    clear hr
                    obtain ⟨x61, hr, h⟩ := ob h
                    obtain ⟨hi, hv⟩ := rd_some hr
                    refine va_iald (D := G.1) hx hb hK hP 23 1 rfl rfl (i := y60) hi d15_59_304 ?_
                    refine lv_topi (fun y9 ey => ?_)
                    have e9 := ey.trans hv
                    clear ey
                    subst y9
                    clear hv hi hr
                    refine lv_iconst (v := 1) hx hb d15_59_305 (by decide) ?_
                    refine lv_iadd hx hb d15_59_306 ?_
                    obtain ⟨y62, hr, h⟩ := ob h
                    refine lv_topi (fun y9 ey => ?_)
                    have e9 := ey.trans (Option.some.inj hr)
                    clear ey
                    subst y9
                    clear hr
                    obtain ⟨k63z, hr, h⟩ := ob h
                    obtain ⟨hi, hk⟩ := ix_some hr
                    clear hr
                    refine va_iast (D := G.1) hx hb hK hP hD hS 23 1 rfl rfl (i := y59) (x := y62) hi d15_59_307 (fun H locs hP hD hS => ?_)
                    rw [hk] at hP hD
                    clear hk hi
                    have hP : va_P G.1 vwCl (wMs q G.2 (st53.1, st53.2.1, va_up st53.2.2.1 16 (upd (st53.2.2.1 16) k63z y62), st53.2.2.2)) H := hP
                    have hD : va_D A (wMs q G.2 (st53.1, st53.2.1, va_up st53.2.2.1 16 (upd (st53.2.2.1 16) k63z y62), st53.2.2.2)) := hD
                    refine lv_aload_n hx hb d15_59_308 rfl (lv_at hl 1 rfl) ?_
                    refine va_get (D := G.1) (ci := 13) (v := .ref (q 22)) (C := r_13) (T := f_13) (N := 42) (ref := "PagedValuesModel") hx hb hts (fun w h => List.mem_cons_of_mem _ (ly_13 w h)) hown hK hP 0 rfl rfl 35 (by decide) (hts _ (List.mem_cons_of_mem _ k1186)) (fun _ h9 => h9) rfl d15_59_309 ?_
                    refine lv_iload hx hb d15_59_312 (lv_at hl 0 rfl) ?_
                    refine lv_iload hx hb d15_59_314 (lv_at hl 9 rfl) ?_
                    obtain ⟨k64z, hr, h⟩ := ob h
                    obtain ⟨hi, hk⟩ := ix_some hr
                    clear hr
                    refine va_iast (D := G.1) hx hb hK hP hD hS 22 1 rfl rfl (i := y59) (x := e19) hi d15_59_316 (fun H locs hP hD hS => ?_)
                    rw [hk] at hP hD
                    clear hk hi
                    have hP : va_P G.1 vwCl (wMs q G.2 (st53.1, st53.2.1, va_up (va_up st53.2.2.1 16 (upd (st53.2.2.1 16) k63z y62)) 15 (upd (st53.2.2.1 15) k64z e19), st53.2.2.2)) H := hP
                    have hD : va_D A (wMs q G.2 (st53.1, st53.2.1, va_up (va_up st53.2.2.1 16 (upd (st53.2.2.1 16) k63z y62)) 15 (upd (st53.2.2.1 15) k64z e19), st53.2.2.2)) := hD
                    refine lv_aload_n hx hb d15_59_317 rfl (lv_at hl 1 rfl) ?_
                    obtain ⟨⟨x65, st66⟩, hc, h⟩ := ob h
                    refine sV_i (As := []) (rest := []) ⟨hx, hb, hml, hown, hts⟩ (cm_block l G Zd q (st53.1, st53.2.1, va_up (va_up st53.2.2.1 16 (upd (st53.2.2.1 16) k63z y62)) 15 (upd (st53.2.2.1 15) k64z e19), st53.2.2.2) x65 st66 hc _) (kw_V (n := 0) hts k1428 k1425 k15 k1427 ks65 (by decide +kernel) ⟨Nat.le_of_ble_eq_true rfl, Nat.le_of_ble_eq_true rfl⟩) hP hD hK hS hA hZ (va_recv (ci := 13) (q0 := 0) hK hP rfl rfl) rfl hl.1 rfl (Nat.le_of_ble_eq_true rfl) d15_59_318 ⟨Nat.le_of_ble_eq_true rfl, Nat.le_of_ble_eq_true rfl⟩ (fun rr u9 H locs hp hP hD hS => ?_)
                    clear u9
                    subst rr
                    clear hc
                    refine W.eq (g2 := F0 m 321 ls [.int x65]) rfl ?_
                    have hP : va_P G.1 vwCl (wMs q G.2 st66) H := hP
                    have hD : va_D A (wMs q G.2 st66) := hD
                    obtain ⟨e69, hX, h⟩ := ob h
                    have hj : ∀ (H : Heap) (locs : List Loc) (ls : Array Slot), lv_has ls 10 [(0, .ref (q 0)), (1, .int a0), (2, .int a1), (3, .int x4), (4, .int y5), (5, .int v11), (6, .int v12), (7, .int e15), (8, .int e19), (9, .int y59)] → va_P G.1 vwCl (wMs q G.2 st66) H → va_D A (wMs q G.2 st66) → va_S A s.heap H locs → W p l e (rmD 3 0 0) s m ([.ref (q 0), .int a0, .int a1] : List Value).toArray below meth c H locs 0 0 (MQ below (qI G (fun rr (_ : Unit) => rr = r0) (fun _ => (wMs q G.2 st0)) A) ([.ref (q 0), .int a0, .int a1] : List Value).toArray s 0 0 A) (F0 m 330 ls [.int e69]) := by
                      intro H locs ls hl hP hD hS
                      cases h
                      exact fin_i hx hb hr hlk hS () rfl hP hD (Nat.le_of_ble_eq_true rfl) (Nat.le_of_ble_eq_true rfl) d15_59_330
                    clear h
                    refine lv_if_eq (tgt := 328) hx hb d15_59_321 rfl (fun c68 => ?_) (fun c68 => ?_)
                    ·
                      replace h := (if_pos c68).symm.trans hX
                      refine lv_bipush (v := (-9)) hx hb d15_59_328 (by decide) ?_
                      have e9 := Option.some.inj h
                      subst e69
                      have hl := lv_sub hl (l' := [(0, .ref (q 0)), (1, .int a0), (2, .int a1), (3, .int x4), (4, .int y5), (5, .int v11), (6, .int v12), (7, .int e15), (8, .int e19), (9, .int y59)]) [1, 2, 3, 4, 5, 6, 7, 8, 9, 0] rfl
                      exact hj _ _ _ hl hP hD hS
                    ·
                      replace h := (if_neg c68).symm.trans hX
                      refine lv_iconst (v := 0) hx hb d15_59_324 (by decide) ?_
                      refine lv_goto (tgt := 330) hx hb d15_59_325 rfl ?_
                      have e9 := Option.some.inj h
                      subst e69
                      have hl := lv_sub hl (l' := [(0, .ref (q 0)), (1, .int a0), (2, .int a1), (3, .int x4), (4, .int y5), (5, .int v11), (6, .int v12), (7, .int e15), (8, .int e19), (9, .int y59)]) [1, 2, 3, 4, 5, 6, 7, 8, 9, 0] rfl
                      exact hj _ _ _ hl hP hD hS
                  ·
                    replace h := (if_pos c55).symm.trans h
                    refine lv_bipush (v := (-9)) hx hb d15_59_279 (by decide) ?_
                    cases h
                    exact fin_i hx hb hr hlk hS () rfl hP hD (Nat.le_of_ble_eq_true rfl) (Nat.le_of_ble_eq_true rfl) d15_59_281
                clear h
                refine lv_if_ge (tgt := 258) hx hb d15_59_251 rfl (fun c48 => ?_) (fun c48 => ?_)
                ·
                  replace h := (if_pos c48).symm.trans hX
                  refine lv_aload_n hx hb d15_59_258 rfl (lv_at hl 1 rfl) ?_
                  refine va_get (D := G.1) (ci := 13) (v := .ref (q 20)) (C := r_13) (T := f_13) (N := 42) (ref := "PagedValuesModel") hx hb hts (fun w h => List.mem_cons_of_mem _ (ly_13 w h)) hown hK hP 0 rfl rfl 33 (by decide) (hts _ (List.mem_cons_of_mem _ k1184)) (fun _ h9 => h9) rfl d15_59_259 ?_
                  refine lv_iconst (v := 2) hx hb d15_59_262 (by decide) ?_
                  refine lv_iload_n hx hb d15_59_263 rfl (lv_at hl 4 rfl) ?_
                  refine lv_imul hx hb d15_59_264 ?_
                  obtain ⟨y71, hr, h⟩ := ob h
                  refine lv_topi (fun y9 ey => ?_)
                  have e9 := ey.trans (Option.some.inj hr)
                  clear ey
                  subst y9
                  clear hr
                  refine lv_iconst (v := 1) hx hb d15_59_265 (by decide) ?_
                  refine lv_iadd hx hb d15_59_266 ?_
                  obtain ⟨y72, hr, h⟩ := ob h
                  refine lv_topi (fun y9 ey => ?_)
                  have e9 := ey.trans (Option.some.inj hr)
                  clear ey
                  subst y9
                  clear hr
                  refine lv_iload hx hb d15_59_267 (lv_at hl 5 rfl) ?_
                  refine lv_isub hx hb d15_59_269 ?_
                  obtain ⟨y73, hr, h⟩ := ob h
                  refine lv_topi (fun y9 ey => ?_)
                  have e9 := ey.trans (Option.some.inj hr)
                  clear ey
                  subst y9
                  clear hr
                  obtain ⟨x74, hr, h⟩ := ob h
                  obtain ⟨hi, hv⟩ := rd_some hr
                  refine va_iald (D := G.1) hx hb hK hP 20 1 rfl rfl (i := y73) hi d15_59_270 ?_
                  refine lv_topi (fun y9 ey => ?_)
                  have e9 := ey.trans hv
                  clear ey
                  subst y9
                  clear hv hi hr
                  have e9 := Option.some.inj h
                  subst e49
                  have hl := lv_sub hl (l' := [(0, .ref (q 0)), (1, .int a0), (2, .int a1), (3, .int x4), (4, .int y5), (5, .int v11), (6, .int v12), (7, .int e15), (8, .int e19)]) [1, 2, 3, 4, 5, 6, 7, 8, 0] rfl
                  exact hj _ _ _ hl hP hD hS
                ·
                  replace h := (if_neg c48).symm.trans hX
                  refine lv_iconst (v := (-1)) hx hb d15_59_254 (by decide) ?_
                  refine lv_goto (tgt := 271) hx hb d15_59_255 rfl ?_
                  have e9 := Option.some.inj h
                  subst e49
                  have hl := lv_sub hl (l' := [(0, .ref (q 0)), (1, .int a0), (2, .int a1), (3, .int x4), (4, .int y5), (5, .int v11), (6, .int v12), (7, .int e15), (8, .int e19)]) [1, 2, 3, 4, 5, 6, 7, 8, 0] rfl
                  exact hj _ _ _ hl hP hD hS
            ·
              replace h := (if_neg c24).symm.trans h
              refine lv_aload_n hx hb d15_59_189 rfl (lv_at hl 1 rfl) ?_
              refine lv_iload hx hb d15_59_190 (lv_at hl 8 rfl) ?_
              refine lv_iload_n hx hb d15_59_192 rfl (lv_at hl 4 rfl) ?_
              refine lv_iload hx hb d15_59_193 (lv_at hl 5 rfl) ?_
              refine lv_iload_n hx hb d15_59_195 rfl (lv_at hl 2 rfl) ?_
              refine lv_iload_n hx hb d15_59_196 rfl (lv_at hl 3 rfl) ?_
              obtain ⟨st76, hc, h⟩ := ob h
              refine sV_v (As := [.int e15, .int x4, .int y5, .int a0, .int a1]) (rest := []) ⟨hx, hb, hml, hown, hts⟩ (cm_writeLeaf l G Zd q e15 x4 y5 a0 a1 st st76 hc _) (kw_V (n := 5) hts k1416 k1413 k15 k1415 ks62 (by decide +kernel) ⟨Nat.le_of_ble_eq_true rfl, Nat.le_of_ble_eq_true rfl⟩) hP hD hK hS hA hZ (va_recv (ci := 13) (q0 := 0) hK hP rfl rfl) rfl hl.1 rfl (Nat.le_of_ble_eq_true rfl) d15_59_197 ⟨Nat.le_of_ble_eq_true rfl, Nat.le_of_ble_eq_true rfl⟩ (fun u9 H locs hp hP hD hS => ?_)
              clear u9
              clear hp
              clear hc
              refine W.eq (g2 := F0 m 200 ls []) rfl ?_
              have hP : va_P G.1 vwCl (wMs q G.2 st76) H := hP
              have hD : va_D A (wMs q G.2 st76) := hD
              refine lv_aload_n hx hb d15_59_200 rfl (lv_at hl 1 rfl) ?_
              obtain ⟨⟨x78, st79⟩, hc, h⟩ := ob h
              refine sV_i (As := []) (rest := []) ⟨hx, hb, hml, hown, hts⟩ (cm_block l G Zd q st76 x78 st79 hc _) (kw_V (n := 0) hts k1428 k1425 k15 k1427 ks65 (by decide +kernel) ⟨Nat.le_of_ble_eq_true rfl, Nat.le_of_ble_eq_true rfl⟩) hP hD hK hS hA hZ (va_recv (ci := 13) (q0 := 0) hK hP rfl rfl) rfl hl.1 rfl (Nat.le_of_ble_eq_true rfl) d15_59_201 ⟨Nat.le_of_ble_eq_true rfl, Nat.le_of_ble_eq_true rfl⟩ (fun rr u9 H locs hp hP hD hS => ?_)
              clear u9
              subst rr
              clear hc
              refine W.eq (g2 := F0 m 204 ls [.int x78]) rfl ?_
              have hP : va_P G.1 vwCl (wMs q G.2 st79) H := hP
              have hD : va_D A (wMs q G.2 st79) := hD
              refine lv_if_ne (tgt := 210) hx hb d15_59_204 rfl (fun c81 => ?_) (fun c81 => ?_)
              ·
                replace h := (if_neg c81).symm.trans h
                refine lv_iload hx hb d15_59_210 (lv_at hl 0 rfl) ?_
                refine lv_if_lt (tgt := 282) hx hb d15_59_212 rfl (fun c82 => ?_) (fun c82 => ?_)
                ·
                  replace h := (if_pos c82).symm.trans h
                  refine lv_iconst (v := 1) hx hb d15_59_282 (by decide) ?_
                  refine lv_aload_n hx hb d15_59_283 rfl (lv_at hl 1 rfl) ?_
                  obtain ⟨x83, hc, h⟩ := ob h
                  refine sV_i (As := []) (rest := [.int 1]) ⟨hx, hb, hml, hown, hts⟩ (cm_current l G Zd q st79 x83 hc _) (kw_V (n := 0) hts k1396 k1393 k15 k1395 ks57 (by decide +kernel) ⟨Nat.le_of_ble_eq_true rfl, Nat.le_of_ble_eq_true rfl⟩) hP hD hK hS hA hZ (va_recv (ci := 13) (q0 := 0) hK hP rfl rfl) rfl hl.1 rfl (Nat.le_of_ble_eq_true rfl) d15_59_284 ⟨Nat.le_of_ble_eq_true rfl, Nat.le_of_ble_eq_true rfl⟩ (fun rr u9 H locs hp hP hD hS => ?_)
                  clear u9
                  subst rr
                  clear hc
                  refine W.eq (g2 := F0 m 287 ls [.int x83, .int 1]) rfl ?_
                  have hP : va_P G.1 vwCl (wMs q G.2 st79) H := hP
                  have hD : va_D A (wMs q G.2 st79) := hD
                  refine lv_isub hx hb d15_59_287 ?_
                  obtain ⟨y86, hr, h⟩ := ob h
                  refine lv_topi (fun y9 ey => ?_)
                  have e9 := ey.trans (Option.some.inj hr)
                  clear ey
                  subst y9
                  clear hr
                  refine lv_istore (lv' := [(9, .int y86), (8, .int e19), (0, .ref (q 0)), (1, .int a0), (2, .int a1), (3, .int x4), (4, .int y5), (5, .int v11), (6, .int v12), (7, .int e15)]) hx hb d15_59_288 hl (by decide) rfl (fun ls hl => ?_)
                  refine lv_aload_n hx hb d15_59_290 rfl (lv_at hl 2 rfl) ?_
                  refine va_get (D := G.1) (ci := 13) (v := .ref (q 23)) (C := r_13) (T := f_13) (N := 42) (ref := "PagedValuesModel") hx hb hts (fun w h => List.mem_cons_of_mem _ (ly_13 w h)) hown hK hP 0 rfl rfl 36 (by decide) (hts _ (List.mem_cons_of_mem _ k1187)) (fun _ h9 => h9) rfl d15_59_291 ?_
                  refine lv_iload hx hb d15_59_294 (lv_at hl 0 rfl) ?_
                  refine lv_aload_n hx hb d15_59_296 rfl (lv_at hl 2 rfl) ?_
                  refine va_get (D := G.1) (ci := 13) (v := .ref (q 23)) (C := r_13) (T := f_13) (N := 42) (ref := "PagedValuesModel") hx hb hts (fun w h => List.mem_cons_of_mem _ (ly_13 w h)) hown hK hP 0 rfl rfl 36 (by decide) (hts _ (List.mem_cons_of_mem _ k1187)) (fun _ h9 => h9) rfl d15_59_297 ?_
                  refine lv_iconst (v := 1) hx hb d15_59_300 (by decide) ?_
                  refine lv_iload hx hb d15_59_301 (lv_at hl 0 rfl) ?_
                  refine lv_isub hx hb d15_59_303 ?_
                  obtain ⟨y87, hr, h⟩ := ob h
                  refine lv_topi (fun y9 ey => ?_)
                  have e9 := ey.trans (Option.some.inj hr)
                  clear ey
                  subst y9
                  clear hr
                  obtain ⟨x88, hr, h⟩ := ob h
                  obtain ⟨hi, hv⟩ := rd_some hr
                  refine va_iald (D := G.1) hx hb hK hP 23 1 rfl rfl (i := y87) hi d15_59_304 ?_
                  refine lv_topi (fun y9 ey => ?_)
                  have e9 := ey.trans hv
                  clear ey
                  subst y9
                  clear hv hi hr
                  refine lv_iconst (v := 1) hx hb d15_59_305 (by decide) ?_
                  refine lv_iadd hx hb d15_59_306 ?_
                  obtain ⟨y89, hr, h⟩ := ob h
                  refine lv_topi (fun y9 ey => ?_)
                  have e9 := ey.trans (Option.some.inj hr)
                  clear ey
                  subst y9
                  clear hr
                  obtain ⟨k90z, hr, h⟩ := ob h
                  obtain ⟨hi, hk⟩ := ix_some hr
                  clear hr
                  refine va_iast (D := G.1) hx hb hK hP hD hS 23 1 rfl rfl (i := y86) (x := y89) hi d15_59_307 (fun H locs hP hD hS => ?_)
                  rw [hk] at hP hD
                  clear hk hi
                  have hP : va_P G.1 vwCl (wMs q G.2 (st79.1, st79.2.1, va_up st79.2.2.1 16 (upd (st79.2.2.1 16) k90z y89), st79.2.2.2)) H := hP
                  have hD : va_D A (wMs q G.2 (st79.1, st79.2.1, va_up st79.2.2.1 16 (upd (st79.2.2.1 16) k90z y89), st79.2.2.2)) := hD
                  refine lv_aload_n hx hb d15_59_308 rfl (lv_at hl 2 rfl) ?_
                  refine va_get (D := G.1) (ci := 13) (v := .ref (q 22)) (C := r_13) (T := f_13) (N := 42) (ref := "PagedValuesModel") hx hb hts (fun w h => List.mem_cons_of_mem _ (ly_13 w h)) hown hK hP 0 rfl rfl 35 (by decide) (hts _ (List.mem_cons_of_mem _ k1186)) (fun _ h9 => h9) rfl d15_59_309 ?_
                  refine lv_iload hx hb d15_59_312 (lv_at hl 0 rfl) ?_
                  refine lv_iload hx hb d15_59_314 (lv_at hl 1 rfl) ?_
                  obtain ⟨k91z, hr, h⟩ := ob h
                  obtain ⟨hi, hk⟩ := ix_some hr
                  clear hr
                  refine va_iast (D := G.1) hx hb hK hP hD hS 22 1 rfl rfl (i := y86) (x := e19) hi d15_59_316 (fun H locs hP hD hS => ?_)
                  rw [hk] at hP hD
                  clear hk hi
                  have hP : va_P G.1 vwCl (wMs q G.2 (st79.1, st79.2.1, va_up (va_up st79.2.2.1 16 (upd (st79.2.2.1 16) k90z y89)) 15 (upd (st79.2.2.1 15) k91z e19), st79.2.2.2)) H := hP
                  have hD : va_D A (wMs q G.2 (st79.1, st79.2.1, va_up (va_up st79.2.2.1 16 (upd (st79.2.2.1 16) k90z y89)) 15 (upd (st79.2.2.1 15) k91z e19), st79.2.2.2)) := hD
                  refine lv_aload_n hx hb d15_59_317 rfl (lv_at hl 2 rfl) ?_
                  obtain ⟨⟨x92, st93⟩, hc, h⟩ := ob h
                  refine sV_i (As := []) (rest := []) ⟨hx, hb, hml, hown, hts⟩ (cm_block l G Zd q (st79.1, st79.2.1, va_up (va_up st79.2.2.1 16 (upd (st79.2.2.1 16) k90z y89)) 15 (upd (st79.2.2.1 15) k91z e19), st79.2.2.2) x92 st93 hc _) (kw_V (n := 0) hts k1428 k1425 k15 k1427 ks65 (by decide +kernel) ⟨Nat.le_of_ble_eq_true rfl, Nat.le_of_ble_eq_true rfl⟩) hP hD hK hS hA hZ (va_recv (ci := 13) (q0 := 0) hK hP rfl rfl) rfl hl.1 rfl (Nat.le_of_ble_eq_true rfl) d15_59_318 ⟨Nat.le_of_ble_eq_true rfl, Nat.le_of_ble_eq_true rfl⟩ (fun rr u9 H locs hp hP hD hS => ?_)
                  clear u9
                  subst rr
                  clear hc
                  refine W.eq (g2 := F0 m 321 ls [.int x92]) rfl ?_
                  have hP : va_P G.1 vwCl (wMs q G.2 st93) H := hP
                  have hD : va_D A (wMs q G.2 st93) := hD
                  obtain ⟨e96, hX, h⟩ := ob h
                  have hj : ∀ (H : Heap) (locs : List Loc) (ls : Array Slot), lv_has ls 10 [(0, .ref (q 0)), (1, .int a0), (2, .int a1), (3, .int x4), (4, .int y5), (5, .int v11), (6, .int v12), (7, .int e15), (8, .int e19), (9, .int y86)] → va_P G.1 vwCl (wMs q G.2 st93) H → va_D A (wMs q G.2 st93) → va_S A s.heap H locs → W p l e (rmD 3 0 0) s m ([.ref (q 0), .int a0, .int a1] : List Value).toArray below meth c H locs 0 0 (MQ below (qI G (fun rr (_ : Unit) => rr = r0) (fun _ => (wMs q G.2 st0)) A) ([.ref (q 0), .int a0, .int a1] : List Value).toArray s 0 0 A) (F0 m 330 ls [.int e96]) := by
                    intro H locs ls hl hP hD hS
                    cases h
                    exact fin_i hx hb hr hlk hS () rfl hP hD (Nat.le_of_ble_eq_true rfl) (Nat.le_of_ble_eq_true rfl) d15_59_330
                  clear h
                  refine lv_if_eq (tgt := 328) hx hb d15_59_321 rfl (fun c95 => ?_) (fun c95 => ?_)
                  ·
                    replace h := (if_pos c95).symm.trans hX
                    refine lv_bipush (v := (-9)) hx hb d15_59_328 (by decide) ?_
                    have e9 := Option.some.inj h
                    subst e96
                    have hl := lv_sub hl (l' := [(0, .ref (q 0)), (1, .int a0), (2, .int a1), (3, .int x4), (4, .int y5), (5, .int v11), (6, .int v12), (7, .int e15), (8, .int e19), (9, .int y86)]) [2, 3, 4, 5, 6, 7, 8, 9, 1, 0] rfl
                    exact hj _ _ _ hl hP hD hS
                  ·
                    replace h := (if_neg c95).symm.trans hX
                    refine lv_iconst (v := 0) hx hb d15_59_324 (by decide) ?_
                    refine lv_goto (tgt := 330) hx hb d15_59_325 rfl ?_
                    have e9 := Option.some.inj h
                    subst e96
                    have hl := lv_sub hl (l' := [(0, .ref (q 0)), (1, .int a0), (2, .int a1), (3, .int x4), (4, .int y5), (5, .int v11), (6, .int v12), (7, .int e15), (8, .int e19), (9, .int y86)]) [2, 3, 4, 5, 6, 7, 8, 9, 1, 0] rfl
                    exact hj _ _ _ hl hP hD hS
                ·
                  replace h := (if_neg c82).symm.trans h
                  refine lv_aload_n hx hb d15_59_215 rfl (lv_at hl 1 rfl) ?_
                  refine va_get (D := G.1) (ci := 13) (v := .ref (q 19)) (C := r_13) (T := f_13) (N := 42) (ref := "PagedValuesModel") hx hb hts (fun w h => List.mem_cons_of_mem _ (ly_13 w h)) hown hK hP 0 rfl rfl 32 (by decide) (hts _ (List.mem_cons_of_mem _ k1183)) (fun _ h9 => h9) rfl d15_59_216 ?_
                  refine lv_iload hx hb d15_59_219 (lv_at hl 0 rfl) ?_
                  refine lv_iconst (v := 1) hx hb d15_59_221 (by decide) ?_
                  obtain ⟨k98z, hr, h⟩ := ob h
                  obtain ⟨hi, hk⟩ := ix_some hr
                  clear hr
                  refine va_iast (D := G.1) hx hb hK hP hD hS 19 1 rfl rfl (i := e19) (x := (1 : Int32)) hi d15_59_222 (fun H locs hP hD hS => ?_)
                  rw [hk] at hP hD
                  clear hk hi
                  have hP : va_P G.1 vwCl (wMs q G.2 (st79.1, st79.2.1, va_up st79.2.2.1 12 (upd (st79.2.2.1 12) k98z (1 : Int32)), st79.2.2.2)) H := hP
                  have hD : va_D A (wMs q G.2 (st79.1, st79.2.1, va_up st79.2.2.1 12 (upd (st79.2.2.1 12) k98z (1 : Int32)), st79.2.2.2)) := hD
                  refine lv_aload_n hx hb d15_59_223 rfl (lv_at hl 1 rfl) ?_
                  refine va_get (D := G.1) (ci := 13) (v := .ref (q 20)) (C := r_13) (T := f_13) (N := 42) (ref := "PagedValuesModel") hx hb hts (fun w h => List.mem_cons_of_mem _ (ly_13 w h)) hown hK hP 0 rfl rfl 33 (by decide) (hts _ (List.mem_cons_of_mem _ k1184)) (fun _ h9 => h9) rfl d15_59_224 ?_
                  refine lv_iconst (v := 2) hx hb d15_59_227 (by decide) ?_
                  refine lv_iload hx hb d15_59_228 (lv_at hl 0 rfl) ?_
                  refine lv_imul hx hb d15_59_230 ?_
                  obtain ⟨y99, hr, h⟩ := ob h
                  refine lv_topi (fun y9 ey => ?_)
                  have e9 := ey.trans (Option.some.inj hr)
                  clear ey
                  subst y9
                  clear hr
                  refine lv_iload hx hb d15_59_231 (lv_at hl 5 rfl) ?_
                  refine lv_iadd hx hb d15_59_233 ?_
                  obtain ⟨y100, hr, h⟩ := ob h
                  refine lv_topi (fun y9 ey => ?_)
                  have e9 := ey.trans (Option.some.inj hr)
                  clear ey
                  subst y9
                  clear hr
                  refine lv_iload hx hb d15_59_234 (lv_at hl 8 rfl) ?_
                  obtain ⟨k101z, hr, h⟩ := ob h
                  obtain ⟨hi, hk⟩ := ix_some hr
                  clear hr
                  refine va_iast (D := G.1) hx hb hK hP hD hS 20 1 rfl rfl (i := y100) (x := e15) hi d15_59_236 (fun H locs hP hD hS => ?_)
                  rw [hk] at hP hD
                  clear hk hi
                  have hP : va_P G.1 vwCl (wMs q G.2 (st79.1, st79.2.1, va_up (va_up st79.2.2.1 12 (upd (st79.2.2.1 12) k98z (1 : Int32))) 13 (upd (st79.2.2.1 13) k101z e15), st79.2.2.2)) H := hP
                  have hD : va_D A (wMs q G.2 (st79.1, st79.2.1, va_up (va_up st79.2.2.1 12 (upd (st79.2.2.1 12) k98z (1 : Int32))) 13 (upd (st79.2.2.1 13) k101z e15), st79.2.2.2)) := hD
                  refine lv_aload_n hx hb d15_59_237 rfl (lv_at hl 1 rfl) ?_
                  refine va_get (D := G.1) (ci := 13) (v := .ref (q 20)) (C := r_13) (T := f_13) (N := 42) (ref := "PagedValuesModel") hx hb hts (fun w h => List.mem_cons_of_mem _ (ly_13 w h)) hown hK hP 0 rfl rfl 33 (by decide) (hts _ (List.mem_cons_of_mem _ k1184)) (fun _ h9 => h9) rfl d15_59_238 ?_
                  refine lv_iconst (v := 2) hx hb d15_59_241 (by decide) ?_
                  refine lv_iload hx hb d15_59_242 (lv_at hl 0 rfl) ?_
                  refine lv_imul hx hb d15_59_244 ?_
                  obtain ⟨y102, hr, h⟩ := ob h
                  refine lv_topi (fun y9 ey => ?_)
                  have e9 := ey.trans (Option.some.inj hr)
                  clear ey
                  subst y9
                  clear hr
                  refine lv_iconst (v := 1) hx hb d15_59_245 (by decide) ?_
                  refine lv_iadd hx hb d15_59_246 ?_
                  obtain ⟨y103, hr, h⟩ := ob h
                  refine lv_topi (fun y9 ey => ?_)
                  have e9 := ey.trans (Option.some.inj hr)
                  clear ey
                  subst y9
                  clear hr
                  refine lv_iload hx hb d15_59_247 (lv_at hl 5 rfl) ?_
                  refine lv_isub hx hb d15_59_249 ?_
                  obtain ⟨y104, hr, h⟩ := ob h
                  refine lv_topi (fun y9 ey => ?_)
                  have e9 := ey.trans (Option.some.inj hr)
                  clear ey
                  subst y9
                  clear hr
                  refine lv_iload_n hx hb d15_59_250 rfl (lv_at hl 4 rfl) ?_
                  obtain ⟨e106, hX, h⟩ := ob h
                  have hj : ∀ (H : Heap) (locs : List Loc) (ls : Array Slot), lv_has ls 10 [(0, .ref (q 0)), (1, .int a0), (2, .int a1), (3, .int x4), (4, .int y5), (5, .int v11), (6, .int v12), (7, .int e15), (8, .int e19)] → va_P G.1 vwCl (wMs q G.2 (st79.1, st79.2.1, va_up (va_up st79.2.2.1 12 (upd (st79.2.2.1 12) k98z (1 : Int32))) 13 (upd (st79.2.2.1 13) k101z e15), st79.2.2.2)) H → va_D A (wMs q G.2 (st79.1, st79.2.1, va_up (va_up st79.2.2.1 12 (upd (st79.2.2.1 12) k98z (1 : Int32))) 13 (upd (st79.2.2.1 13) k101z e15), st79.2.2.2)) → va_S A s.heap H locs → W p l e (rmD 3 0 0) s m ([.ref (q 0), .int a0, .int a1] : List Value).toArray below meth c H locs 0 0 (MQ below (qI G (fun rr (_ : Unit) => rr = r0) (fun _ => (wMs q G.2 st0)) A) ([.ref (q 0), .int a0, .int a1] : List Value).toArray s 0 0 A) (F0 m 271 ls [.int e106, .int y104, .ref (q 20)]) := by
                    intro H locs ls hl hP hD hS
                    obtain ⟨k108z, hr, h⟩ := ob h
                    obtain ⟨hi, hk⟩ := ix_some hr
                    clear hr
                    refine va_iast (D := G.1) hx hb hK hP hD hS 20 1 rfl rfl (i := y104) (x := e106) hi d15_59_271 (fun H locs hP hD hS => ?_)
                    rw [hk] at hP hD
                    clear hk hi
                    have hP : va_P G.1 vwCl (wMs q G.2 (st79.1, st79.2.1, va_up (va_up st79.2.2.1 12 (upd (st79.2.2.1 12) k98z (1 : Int32))) 13 (upd (upd (st79.2.2.1 13) k101z e15) k108z e106), st79.2.2.2)) H := hP
                    have hD : va_D A (wMs q G.2 (st79.1, st79.2.1, va_up (va_up st79.2.2.1 12 (upd (st79.2.2.1 12) k98z (1 : Int32))) 13 (upd (upd (st79.2.2.1 13) k101z e15) k108z e106), st79.2.2.2)) := hD
                    refine lv_aload_n hx hb d15_59_272 rfl (lv_at hl 0 rfl) ?_
                    obtain ⟨⟨x109, st110⟩, hc, h⟩ := ob h
                    refine sV_i (As := []) (rest := []) ⟨hx, hb, hml, hown, hts⟩ (cm_block l G Zd q (st79.1, st79.2.1, va_up (va_up st79.2.2.1 12 (upd (st79.2.2.1 12) k98z (1 : Int32))) 13 (upd (upd (st79.2.2.1 13) k101z e15) k108z e106), st79.2.2.2) x109 st110 hc _) (kw_V (n := 0) hts k1428 k1425 k15 k1427 ks65 (by decide +kernel) ⟨Nat.le_of_ble_eq_true rfl, Nat.le_of_ble_eq_true rfl⟩) hP hD hK hS hA hZ (va_recv (ci := 13) (q0 := 0) hK hP rfl rfl) rfl hl.1 rfl (Nat.le_of_ble_eq_true rfl) d15_59_273 ⟨Nat.le_of_ble_eq_true rfl, Nat.le_of_ble_eq_true rfl⟩ (fun rr u9 H locs hp hP hD hS => ?_)
                    clear u9
                    subst rr
                    clear hc
                    refine W.eq (g2 := F0 m 276 ls [.int x109]) rfl ?_
                    have hP : va_P G.1 vwCl (wMs q G.2 st110) H := hP
                    have hD : va_D A (wMs q G.2 st110) := hD
                    refine lv_if_ne (tgt := 282) hx hb d15_59_276 rfl (fun c112 => ?_) (fun c112 => ?_)
                    ·
                      replace h := (if_neg c112).symm.trans h
                      refine lv_iconst (v := 1) hx hb d15_59_282 (by decide) ?_
                      refine lv_aload_n hx hb d15_59_283 rfl (lv_at hl 0 rfl) ?_
                      obtain ⟨x113, hc, h⟩ := ob h
                      refine sV_i (As := []) (rest := [.int 1]) ⟨hx, hb, hml, hown, hts⟩ (cm_current l G Zd q st110 x113 hc _) (kw_V (n := 0) hts k1396 k1393 k15 k1395 ks57 (by decide +kernel) ⟨Nat.le_of_ble_eq_true rfl, Nat.le_of_ble_eq_true rfl⟩) hP hD hK hS hA hZ (va_recv (ci := 13) (q0 := 0) hK hP rfl rfl) rfl hl.1 rfl (Nat.le_of_ble_eq_true rfl) d15_59_284 ⟨Nat.le_of_ble_eq_true rfl, Nat.le_of_ble_eq_true rfl⟩ (fun rr u9 H locs hp hP hD hS => ?_)
                      clear u9
                      subst rr
                      clear hc
                      refine W.eq (g2 := F0 m 287 ls [.int x113, .int 1]) rfl ?_
                      have hP : va_P G.1 vwCl (wMs q G.2 st110) H := hP
                      have hD : va_D A (wMs q G.2 st110) := hD
                      refine lv_isub hx hb d15_59_287 ?_
                      obtain ⟨y116, hr, h⟩ := ob h
                      refine lv_topi (fun y9 ey => ?_)
                      have e9 := ey.trans (Option.some.inj hr)
                      clear ey
                      subst y9
                      clear hr
                      refine lv_istore (lv' := [(9, .int y116), (0, .ref (q 0)), (1, .int a0), (2, .int a1), (3, .int x4), (4, .int y5), (5, .int v11), (6, .int v12), (7, .int e15), (8, .int e19)]) hx hb d15_59_288 hl (by decide) rfl (fun ls hl => ?_)
                      refine lv_aload_n hx hb d15_59_290 rfl (lv_at hl 1 rfl) ?_
                      refine va_get (D := G.1) (ci := 13) (v := .ref (q 23)) (C := r_13) (T := f_13) (N := 42) (ref := "PagedValuesModel") hx hb hts (fun w h => List.mem_cons_of_mem _ (ly_13 w h)) hown hK hP 0 rfl rfl 36 (by decide) (hts _ (List.mem_cons_of_mem _ k1187)) (fun _ h9 => h9) rfl d15_59_291 ?_
                      refine lv_iload hx hb d15_59_294 (lv_at hl 0 rfl) ?_
                      refine lv_aload_n hx hb d15_59_296 rfl (lv_at hl 1 rfl) ?_
                      refine va_get (D := G.1) (ci := 13) (v := .ref (q 23)) (C := r_13) (T := f_13) (N := 42) (ref := "PagedValuesModel") hx hb hts (fun w h => List.mem_cons_of_mem _ (ly_13 w h)) hown hK hP 0 rfl rfl 36 (by decide) (hts _ (List.mem_cons_of_mem _ k1187)) (fun _ h9 => h9) rfl d15_59_297 ?_
                      refine lv_iconst (v := 1) hx hb d15_59_300 (by decide) ?_
                      refine lv_iload hx hb d15_59_301 (lv_at hl 0 rfl) ?_
                      refine lv_isub hx hb d15_59_303 ?_
                      obtain ⟨y117, hr, h⟩ := ob h
                      refine lv_topi (fun y9 ey => ?_)
                      have e9 := ey.trans (Option.some.inj hr)
                      clear ey
                      subst y9
                      clear hr
                      obtain ⟨x118, hr, h⟩ := ob h
                      obtain ⟨hi, hv⟩ := rd_some hr
                      refine va_iald (D := G.1) hx hb hK hP 23 1 rfl rfl (i := y117) hi d15_59_304 ?_
                      refine lv_topi (fun y9 ey => ?_)
                      have e9 := ey.trans hv
                      clear ey
                      subst y9
                      clear hv hi hr
                      refine lv_iconst (v := 1) hx hb d15_59_305 (by decide) ?_
                      refine lv_iadd hx hb d15_59_306 ?_
                      obtain ⟨y119, hr, h⟩ := ob h
                      refine lv_topi (fun y9 ey => ?_)
                      have e9 := ey.trans (Option.some.inj hr)
                      clear ey
                      subst y9
                      clear hr
                      obtain ⟨k120z, hr, h⟩ := ob h
                      obtain ⟨hi, hk⟩ := ix_some hr
                      clear hr
                      refine va_iast (D := G.1) hx hb hK hP hD hS 23 1 rfl rfl (i := y116) (x := y119) hi d15_59_307 (fun H locs hP hD hS => ?_)
                      rw [hk] at hP hD
                      clear hk hi
                      have hP : va_P G.1 vwCl (wMs q G.2 (st110.1, st110.2.1, va_up st110.2.2.1 16 (upd (st110.2.2.1 16) k120z y119), st110.2.2.2)) H := hP
                      have hD : va_D A (wMs q G.2 (st110.1, st110.2.1, va_up st110.2.2.1 16 (upd (st110.2.2.1 16) k120z y119), st110.2.2.2)) := hD
                      refine lv_aload_n hx hb d15_59_308 rfl (lv_at hl 1 rfl) ?_
                      refine va_get (D := G.1) (ci := 13) (v := .ref (q 22)) (C := r_13) (T := f_13) (N := 42) (ref := "PagedValuesModel") hx hb hts (fun w h => List.mem_cons_of_mem _ (ly_13 w h)) hown hK hP 0 rfl rfl 35 (by decide) (hts _ (List.mem_cons_of_mem _ k1186)) (fun _ h9 => h9) rfl d15_59_309 ?_
                      refine lv_iload hx hb d15_59_312 (lv_at hl 0 rfl) ?_
                      refine lv_iload hx hb d15_59_314 (lv_at hl 9 rfl) ?_
                      obtain ⟨k121z, hr, h⟩ := ob h
                      obtain ⟨hi, hk⟩ := ix_some hr
                      clear hr
                      refine va_iast (D := G.1) hx hb hK hP hD hS 22 1 rfl rfl (i := y116) (x := e19) hi d15_59_316 (fun H locs hP hD hS => ?_)
                      rw [hk] at hP hD
                      clear hk hi
                      have hP : va_P G.1 vwCl (wMs q G.2 (st110.1, st110.2.1, va_up (va_up st110.2.2.1 16 (upd (st110.2.2.1 16) k120z y119)) 15 (upd (st110.2.2.1 15) k121z e19), st110.2.2.2)) H := hP
                      have hD : va_D A (wMs q G.2 (st110.1, st110.2.1, va_up (va_up st110.2.2.1 16 (upd (st110.2.2.1 16) k120z y119)) 15 (upd (st110.2.2.1 15) k121z e19), st110.2.2.2)) := hD
                      refine lv_aload_n hx hb d15_59_317 rfl (lv_at hl 1 rfl) ?_
                      obtain ⟨⟨x122, st123⟩, hc, h⟩ := ob h
                      refine sV_i (As := []) (rest := []) ⟨hx, hb, hml, hown, hts⟩ (cm_block l G Zd q (st110.1, st110.2.1, va_up (va_up st110.2.2.1 16 (upd (st110.2.2.1 16) k120z y119)) 15 (upd (st110.2.2.1 15) k121z e19), st110.2.2.2) x122 st123 hc _) (kw_V (n := 0) hts k1428 k1425 k15 k1427 ks65 (by decide +kernel) ⟨Nat.le_of_ble_eq_true rfl, Nat.le_of_ble_eq_true rfl⟩) hP hD hK hS hA hZ (va_recv (ci := 13) (q0 := 0) hK hP rfl rfl) rfl hl.1 rfl (Nat.le_of_ble_eq_true rfl) d15_59_318 ⟨Nat.le_of_ble_eq_true rfl, Nat.le_of_ble_eq_true rfl⟩ (fun rr u9 H locs hp hP hD hS => ?_)
                      clear u9
                      subst rr
                      clear hc
                      refine W.eq (g2 := F0 m 321 ls [.int x122]) rfl ?_
                      have hP : va_P G.1 vwCl (wMs q G.2 st123) H := hP
                      have hD : va_D A (wMs q G.2 st123) := hD
                      obtain ⟨e126, hX, h⟩ := ob h
                      have hj : ∀ (H : Heap) (locs : List Loc) (ls : Array Slot), lv_has ls 10 [(0, .ref (q 0)), (1, .int a0), (2, .int a1), (3, .int x4), (4, .int y5), (5, .int v11), (6, .int v12), (7, .int e15), (8, .int e19), (9, .int y116)] → va_P G.1 vwCl (wMs q G.2 st123) H → va_D A (wMs q G.2 st123) → va_S A s.heap H locs → W p l e (rmD 3 0 0) s m ([.ref (q 0), .int a0, .int a1] : List Value).toArray below meth c H locs 0 0 (MQ below (qI G (fun rr (_ : Unit) => rr = r0) (fun _ => (wMs q G.2 st0)) A) ([.ref (q 0), .int a0, .int a1] : List Value).toArray s 0 0 A) (F0 m 330 ls [.int e126]) := by
                        intro H locs ls hl hP hD hS
                        cases h
                        exact fin_i hx hb hr hlk hS () rfl hP hD (Nat.le_of_ble_eq_true rfl) (Nat.le_of_ble_eq_true rfl) d15_59_330
                      clear h
                      refine lv_if_eq (tgt := 328) hx hb d15_59_321 rfl (fun c125 => ?_) (fun c125 => ?_)
                      ·
                        replace h := (if_pos c125).symm.trans hX
                        refine lv_bipush (v := (-9)) hx hb d15_59_328 (by decide) ?_
                        have e9 := Option.some.inj h
                        subst e126
                        have hl := lv_sub hl (l' := [(0, .ref (q 0)), (1, .int a0), (2, .int a1), (3, .int x4), (4, .int y5), (5, .int v11), (6, .int v12), (7, .int e15), (8, .int e19), (9, .int y116)]) [1, 2, 3, 4, 5, 6, 7, 8, 9, 0] rfl
                        exact hj _ _ _ hl hP hD hS
                      ·
                        replace h := (if_neg c125).symm.trans hX
                        refine lv_iconst (v := 0) hx hb d15_59_324 (by decide) ?_
                        refine lv_goto (tgt := 330) hx hb d15_59_325 rfl ?_
                        have e9 := Option.some.inj h
                        subst e126
                        have hl := lv_sub hl (l' := [(0, .ref (q 0)), (1, .int a0), (2, .int a1), (3, .int x4), (4, .int y5), (5, .int v11), (6, .int v12), (7, .int e15), (8, .int e19), (9, .int y116)]) [1, 2, 3, 4, 5, 6, 7, 8, 9, 0] rfl
                        exact hj _ _ _ hl hP hD hS
                    ·
                      replace h := (if_pos c112).symm.trans h
                      refine lv_bipush (v := (-9)) hx hb d15_59_279 (by decide) ?_
                      cases h
                      exact fin_i hx hb hr hlk hS () rfl hP hD (Nat.le_of_ble_eq_true rfl) (Nat.le_of_ble_eq_true rfl) d15_59_281
                  clear h
                  refine lv_if_ge (tgt := 258) hx hb d15_59_251 rfl (fun c105 => ?_) (fun c105 => ?_)
                  ·
                    replace h := (if_pos c105).symm.trans hX
                    refine lv_aload_n hx hb d15_59_258 rfl (lv_at hl 1 rfl) ?_
                    refine va_get (D := G.1) (ci := 13) (v := .ref (q 20)) (C := r_13) (T := f_13) (N := 42) (ref := "PagedValuesModel") hx hb hts (fun w h => List.mem_cons_of_mem _ (ly_13 w h)) hown hK hP 0 rfl rfl 33 (by decide) (hts _ (List.mem_cons_of_mem _ k1184)) (fun _ h9 => h9) rfl d15_59_259 ?_
                    refine lv_iconst (v := 2) hx hb d15_59_262 (by decide) ?_
                    refine lv_iload_n hx hb d15_59_263 rfl (lv_at hl 4 rfl) ?_
                    refine lv_imul hx hb d15_59_264 ?_
                    obtain ⟨y128, hr, h⟩ := ob h
                    refine lv_topi (fun y9 ey => ?_)
                    have e9 := ey.trans (Option.some.inj hr)
                    clear ey
                    subst y9
                    clear hr
                    refine lv_iconst (v := 1) hx hb d15_59_265 (by decide) ?_
                    refine lv_iadd hx hb d15_59_266 ?_
                    obtain ⟨y129, hr, h⟩ := ob h
                    refine lv_topi (fun y9 ey => ?_)
                    have e9 := ey.trans (Option.some.inj hr)
                    clear ey
                    subst y9
                    clear hr
                    refine lv_iload hx hb d15_59_267 (lv_at hl 5 rfl) ?_
                    refine lv_isub hx hb d15_59_269 ?_
                    obtain ⟨y130, hr, h⟩ := ob h
                    refine lv_topi (fun y9 ey => ?_)
                    have e9 := ey.trans (Option.some.inj hr)
                    clear ey
                    subst y9
                    clear hr
                    obtain ⟨x131, hr, h⟩ := ob h
                    obtain ⟨hi, hv⟩ := rd_some hr
                    refine va_iald (D := G.1) hx hb hK hP 20 1 rfl rfl (i := y130) hi d15_59_270 ?_
                    refine lv_topi (fun y9 ey => ?_)
                    have e9 := ey.trans hv
                    clear ey
                    subst y9
                    clear hv hi hr
                    have e9 := Option.some.inj h
                    subst e106
                    have hl := lv_sub hl (l' := [(0, .ref (q 0)), (1, .int a0), (2, .int a1), (3, .int x4), (4, .int y5), (5, .int v11), (6, .int v12), (7, .int e15), (8, .int e19)]) [1, 2, 3, 4, 5, 6, 7, 8, 0] rfl
                    exact hj _ _ _ hl hP hD hS
                  ·
                    replace h := (if_neg c105).symm.trans hX
                    refine lv_iconst (v := (-1)) hx hb d15_59_254 (by decide) ?_
                    refine lv_goto (tgt := 271) hx hb d15_59_255 rfl ?_
                    have e9 := Option.some.inj h
                    subst e106
                    have hl := lv_sub hl (l' := [(0, .ref (q 0)), (1, .int a0), (2, .int a1), (3, .int x4), (4, .int y5), (5, .int v11), (6, .int v12), (7, .int e15), (8, .int e19)]) [1, 2, 3, 4, 5, 6, 7, 8, 0] rfl
                    exact hj _ _ _ hl hP hD hS
              ·
                replace h := (if_pos c81).symm.trans h
                refine lv_bipush (v := (-9)) hx hb d15_59_207 (by decide) ?_
                cases h
                exact fin_i hx hb hr hlk hS () rfl hP hD (Nat.le_of_ble_eq_true rfl) (Nat.le_of_ble_eq_true rfl) d15_59_209
          ·
            replace h := (if_neg c23).symm.trans h
            refine lv_iload hx hb d15_59_176 (lv_at hl 0 rfl) ?_
            refine lv_if_ge (tgt := 184) hx hb d15_59_178 rfl (fun c132 => ?_) (fun c132 => ?_)
            ·
              replace h := (if_pos c132).symm.trans h
              refine lv_iload hx hb d15_59_184 (lv_at hl 6 rfl) ?_
              refine lv_if_le (tgt := 210) hx hb d15_59_186 rfl (fun c133 => ?_) (fun c133 => ?_)
              ·
                replace h := (if_pos c133).symm.trans h
                refine lv_iload hx hb d15_59_210 (lv_at hl 0 rfl) ?_
                refine lv_if_lt (tgt := 282) hx hb d15_59_212 rfl (fun c134 => ?_) (fun c134 => ?_)
                ·
                  replace h := (if_pos c134).symm.trans h
                  refine lv_iconst (v := 1) hx hb d15_59_282 (by decide) ?_
                  refine lv_aload_n hx hb d15_59_283 rfl (lv_at hl 1 rfl) ?_
                  obtain ⟨x135, hc, h⟩ := ob h
                  refine sV_i (As := []) (rest := [.int 1]) ⟨hx, hb, hml, hown, hts⟩ (cm_current l G Zd q st x135 hc _) (kw_V (n := 0) hts k1396 k1393 k15 k1395 ks57 (by decide +kernel) ⟨Nat.le_of_ble_eq_true rfl, Nat.le_of_ble_eq_true rfl⟩) hP hD hK hS hA hZ (va_recv (ci := 13) (q0 := 0) hK hP rfl rfl) rfl hl.1 rfl (Nat.le_of_ble_eq_true rfl) d15_59_284 ⟨Nat.le_of_ble_eq_true rfl, Nat.le_of_ble_eq_true rfl⟩ (fun rr u9 H locs hp hP hD hS => ?_)
                  clear u9
                  subst rr
                  clear hc
                  refine W.eq (g2 := F0 m 287 ls [.int x135, .int 1]) rfl ?_
                  have hP : va_P G.1 vwCl (wMs q G.2 st) H := hP
                  have hD : va_D A (wMs q G.2 st) := hD
                  refine lv_isub hx hb d15_59_287 ?_
                  obtain ⟨y138, hr, h⟩ := ob h
                  refine lv_topi (fun y9 ey => ?_)
                  have e9 := ey.trans (Option.some.inj hr)
                  clear ey
                  subst y9
                  clear hr
                  refine lv_istore (lv' := [(9, .int y138), (8, .int e19), (0, .ref (q 0)), (1, .int a0), (2, .int a1), (3, .int x4), (4, .int y5), (5, .int v11), (6, .int v12), (7, .int e15)]) hx hb d15_59_288 hl (by decide) rfl (fun ls hl => ?_)
                  refine lv_aload_n hx hb d15_59_290 rfl (lv_at hl 2 rfl) ?_
                  refine va_get (D := G.1) (ci := 13) (v := .ref (q 23)) (C := r_13) (T := f_13) (N := 42) (ref := "PagedValuesModel") hx hb hts (fun w h => List.mem_cons_of_mem _ (ly_13 w h)) hown hK hP 0 rfl rfl 36 (by decide) (hts _ (List.mem_cons_of_mem _ k1187)) (fun _ h9 => h9) rfl d15_59_291 ?_
                  refine lv_iload hx hb d15_59_294 (lv_at hl 0 rfl) ?_
                  refine lv_aload_n hx hb d15_59_296 rfl (lv_at hl 2 rfl) ?_
                  refine va_get (D := G.1) (ci := 13) (v := .ref (q 23)) (C := r_13) (T := f_13) (N := 42) (ref := "PagedValuesModel") hx hb hts (fun w h => List.mem_cons_of_mem _ (ly_13 w h)) hown hK hP 0 rfl rfl 36 (by decide) (hts _ (List.mem_cons_of_mem _ k1187)) (fun _ h9 => h9) rfl d15_59_297 ?_
                  refine lv_iconst (v := 1) hx hb d15_59_300 (by decide) ?_
                  refine lv_iload hx hb d15_59_301 (lv_at hl 0 rfl) ?_
                  refine lv_isub hx hb d15_59_303 ?_
                  obtain ⟨y139, hr, h⟩ := ob h
                  refine lv_topi (fun y9 ey => ?_)
                  have e9 := ey.trans (Option.some.inj hr)
                  clear ey
                  subst y9
                  clear hr
                  obtain ⟨x140, hr, h⟩ := ob h
                  obtain ⟨hi, hv⟩ := rd_some hr
                  refine va_iald (D := G.1) hx hb hK hP 23 1 rfl rfl (i := y139) hi d15_59_304 ?_
                  refine lv_topi (fun y9 ey => ?_)
                  have e9 := ey.trans hv
                  clear ey
                  subst y9
                  clear hv hi hr
                  refine lv_iconst (v := 1) hx hb d15_59_305 (by decide) ?_
                  refine lv_iadd hx hb d15_59_306 ?_
                  obtain ⟨y141, hr, h⟩ := ob h
                  refine lv_topi (fun y9 ey => ?_)
                  have e9 := ey.trans (Option.some.inj hr)
                  clear ey
                  subst y9
                  clear hr
                  obtain ⟨k142z, hr, h⟩ := ob h
                  obtain ⟨hi, hk⟩ := ix_some hr
                  clear hr
                  refine va_iast (D := G.1) hx hb hK hP hD hS 23 1 rfl rfl (i := y138) (x := y141) hi d15_59_307 (fun H locs hP hD hS => ?_)
                  rw [hk] at hP hD
                  clear hk hi
                  have hP : va_P G.1 vwCl (wMs q G.2 (st.1, st.2.1, va_up st.2.2.1 16 (upd (st.2.2.1 16) k142z y141), st.2.2.2)) H := hP
                  have hD : va_D A (wMs q G.2 (st.1, st.2.1, va_up st.2.2.1 16 (upd (st.2.2.1 16) k142z y141), st.2.2.2)) := hD
                  refine lv_aload_n hx hb d15_59_308 rfl (lv_at hl 2 rfl) ?_
                  refine va_get (D := G.1) (ci := 13) (v := .ref (q 22)) (C := r_13) (T := f_13) (N := 42) (ref := "PagedValuesModel") hx hb hts (fun w h => List.mem_cons_of_mem _ (ly_13 w h)) hown hK hP 0 rfl rfl 35 (by decide) (hts _ (List.mem_cons_of_mem _ k1186)) (fun _ h9 => h9) rfl d15_59_309 ?_
                  refine lv_iload hx hb d15_59_312 (lv_at hl 0 rfl) ?_
                  refine lv_iload hx hb d15_59_314 (lv_at hl 1 rfl) ?_
                  obtain ⟨k143z, hr, h⟩ := ob h
                  obtain ⟨hi, hk⟩ := ix_some hr
                  clear hr
                  refine va_iast (D := G.1) hx hb hK hP hD hS 22 1 rfl rfl (i := y138) (x := e19) hi d15_59_316 (fun H locs hP hD hS => ?_)
                  rw [hk] at hP hD
                  clear hk hi
                  have hP : va_P G.1 vwCl (wMs q G.2 (st.1, st.2.1, va_up (va_up st.2.2.1 16 (upd (st.2.2.1 16) k142z y141)) 15 (upd (st.2.2.1 15) k143z e19), st.2.2.2)) H := hP
                  have hD : va_D A (wMs q G.2 (st.1, st.2.1, va_up (va_up st.2.2.1 16 (upd (st.2.2.1 16) k142z y141)) 15 (upd (st.2.2.1 15) k143z e19), st.2.2.2)) := hD
                  refine lv_aload_n hx hb d15_59_317 rfl (lv_at hl 2 rfl) ?_
                  obtain ⟨⟨x144, st145⟩, hc, h⟩ := ob h
                  refine sV_i (As := []) (rest := []) ⟨hx, hb, hml, hown, hts⟩ (cm_block l G Zd q (st.1, st.2.1, va_up (va_up st.2.2.1 16 (upd (st.2.2.1 16) k142z y141)) 15 (upd (st.2.2.1 15) k143z e19), st.2.2.2) x144 st145 hc _) (kw_V (n := 0) hts k1428 k1425 k15 k1427 ks65 (by decide +kernel) ⟨Nat.le_of_ble_eq_true rfl, Nat.le_of_ble_eq_true rfl⟩) hP hD hK hS hA hZ (va_recv (ci := 13) (q0 := 0) hK hP rfl rfl) rfl hl.1 rfl (Nat.le_of_ble_eq_true rfl) d15_59_318 ⟨Nat.le_of_ble_eq_true rfl, Nat.le_of_ble_eq_true rfl⟩ (fun rr u9 H locs hp hP hD hS => ?_)
                  clear u9
                  subst rr
                  clear hc
                  refine W.eq (g2 := F0 m 321 ls [.int x144]) rfl ?_
                  have hP : va_P G.1 vwCl (wMs q G.2 st145) H := hP
                  have hD : va_D A (wMs q G.2 st145) := hD
                  obtain ⟨e148, hX, h⟩ := ob h
                  have hj : ∀ (H : Heap) (locs : List Loc) (ls : Array Slot), lv_has ls 10 [(0, .ref (q 0)), (1, .int a0), (2, .int a1), (3, .int x4), (4, .int y5), (5, .int v11), (6, .int v12), (7, .int e15), (8, .int e19), (9, .int y138)] → va_P G.1 vwCl (wMs q G.2 st145) H → va_D A (wMs q G.2 st145) → va_S A s.heap H locs → W p l e (rmD 3 0 0) s m ([.ref (q 0), .int a0, .int a1] : List Value).toArray below meth c H locs 0 0 (MQ below (qI G (fun rr (_ : Unit) => rr = r0) (fun _ => (wMs q G.2 st0)) A) ([.ref (q 0), .int a0, .int a1] : List Value).toArray s 0 0 A) (F0 m 330 ls [.int e148]) := by
                    intro H locs ls hl hP hD hS
                    cases h
                    exact fin_i hx hb hr hlk hS () rfl hP hD (Nat.le_of_ble_eq_true rfl) (Nat.le_of_ble_eq_true rfl) d15_59_330
                  clear h
                  refine lv_if_eq (tgt := 328) hx hb d15_59_321 rfl (fun c147 => ?_) (fun c147 => ?_)
                  ·
                    replace h := (if_pos c147).symm.trans hX
                    refine lv_bipush (v := (-9)) hx hb d15_59_328 (by decide) ?_
                    have e9 := Option.some.inj h
                    subst e148
                    have hl := lv_sub hl (l' := [(0, .ref (q 0)), (1, .int a0), (2, .int a1), (3, .int x4), (4, .int y5), (5, .int v11), (6, .int v12), (7, .int e15), (8, .int e19), (9, .int y138)]) [2, 3, 4, 5, 6, 7, 8, 9, 1, 0] rfl
                    exact hj _ _ _ hl hP hD hS
                  ·
                    replace h := (if_neg c147).symm.trans hX
                    refine lv_iconst (v := 0) hx hb d15_59_324 (by decide) ?_
                    refine lv_goto (tgt := 330) hx hb d15_59_325 rfl ?_
                    have e9 := Option.some.inj h
                    subst e148
                    have hl := lv_sub hl (l' := [(0, .ref (q 0)), (1, .int a0), (2, .int a1), (3, .int x4), (4, .int y5), (5, .int v11), (6, .int v12), (7, .int e15), (8, .int e19), (9, .int y138)]) [2, 3, 4, 5, 6, 7, 8, 9, 1, 0] rfl
                    exact hj _ _ _ hl hP hD hS
                ·
                  replace h := (if_neg c134).symm.trans h
                  refine lv_aload_n hx hb d15_59_215 rfl (lv_at hl 1 rfl) ?_
                  refine va_get (D := G.1) (ci := 13) (v := .ref (q 19)) (C := r_13) (T := f_13) (N := 42) (ref := "PagedValuesModel") hx hb hts (fun w h => List.mem_cons_of_mem _ (ly_13 w h)) hown hK hP 0 rfl rfl 32 (by decide) (hts _ (List.mem_cons_of_mem _ k1183)) (fun _ h9 => h9) rfl d15_59_216 ?_
                  refine lv_iload hx hb d15_59_219 (lv_at hl 0 rfl) ?_
                  refine lv_iconst (v := 1) hx hb d15_59_221 (by decide) ?_
                  obtain ⟨k150z, hr, h⟩ := ob h
                  obtain ⟨hi, hk⟩ := ix_some hr
                  clear hr
                  refine va_iast (D := G.1) hx hb hK hP hD hS 19 1 rfl rfl (i := e19) (x := (1 : Int32)) hi d15_59_222 (fun H locs hP hD hS => ?_)
                  rw [hk] at hP hD
                  clear hk hi
                  have hP : va_P G.1 vwCl (wMs q G.2 (st.1, st.2.1, va_up st.2.2.1 12 (upd (st.2.2.1 12) k150z (1 : Int32)), st.2.2.2)) H := hP
                  have hD : va_D A (wMs q G.2 (st.1, st.2.1, va_up st.2.2.1 12 (upd (st.2.2.1 12) k150z (1 : Int32)), st.2.2.2)) := hD
                  refine lv_aload_n hx hb d15_59_223 rfl (lv_at hl 1 rfl) ?_
                  refine va_get (D := G.1) (ci := 13) (v := .ref (q 20)) (C := r_13) (T := f_13) (N := 42) (ref := "PagedValuesModel") hx hb hts (fun w h => List.mem_cons_of_mem _ (ly_13 w h)) hown hK hP 0 rfl rfl 33 (by decide) (hts _ (List.mem_cons_of_mem _ k1184)) (fun _ h9 => h9) rfl d15_59_224 ?_
                  refine lv_iconst (v := 2) hx hb d15_59_227 (by decide) ?_
                  refine lv_iload hx hb d15_59_228 (lv_at hl 0 rfl) ?_
                  refine lv_imul hx hb d15_59_230 ?_
                  obtain ⟨y151, hr, h⟩ := ob h
                  refine lv_topi (fun y9 ey => ?_)
                  have e9 := ey.trans (Option.some.inj hr)
                  clear ey
                  subst y9
                  clear hr
                  refine lv_iload hx hb d15_59_231 (lv_at hl 5 rfl) ?_
                  refine lv_iadd hx hb d15_59_233 ?_
                  obtain ⟨y152, hr, h⟩ := ob h
                  refine lv_topi (fun y9 ey => ?_)
                  have e9 := ey.trans (Option.some.inj hr)
                  clear ey
                  subst y9
                  clear hr
                  refine lv_iload hx hb d15_59_234 (lv_at hl 8 rfl) ?_
                  obtain ⟨k153z, hr, h⟩ := ob h
                  obtain ⟨hi, hk⟩ := ix_some hr
                  clear hr
                  refine va_iast (D := G.1) hx hb hK hP hD hS 20 1 rfl rfl (i := y152) (x := e15) hi d15_59_236 (fun H locs hP hD hS => ?_)
                  rw [hk] at hP hD
                  clear hk hi
                  have hP : va_P G.1 vwCl (wMs q G.2 (st.1, st.2.1, va_up (va_up st.2.2.1 12 (upd (st.2.2.1 12) k150z (1 : Int32))) 13 (upd (st.2.2.1 13) k153z e15), st.2.2.2)) H := hP
                  have hD : va_D A (wMs q G.2 (st.1, st.2.1, va_up (va_up st.2.2.1 12 (upd (st.2.2.1 12) k150z (1 : Int32))) 13 (upd (st.2.2.1 13) k153z e15), st.2.2.2)) := hD
                  refine lv_aload_n hx hb d15_59_237 rfl (lv_at hl 1 rfl) ?_
                  refine va_get (D := G.1) (ci := 13) (v := .ref (q 20)) (C := r_13) (T := f_13) (N := 42) (ref := "PagedValuesModel") hx hb hts (fun w h => List.mem_cons_of_mem _ (ly_13 w h)) hown hK hP 0 rfl rfl 33 (by decide) (hts _ (List.mem_cons_of_mem _ k1184)) (fun _ h9 => h9) rfl d15_59_238 ?_
                  refine lv_iconst (v := 2) hx hb d15_59_241 (by decide) ?_
                  refine lv_iload hx hb d15_59_242 (lv_at hl 0 rfl) ?_
                  refine lv_imul hx hb d15_59_244 ?_
                  obtain ⟨y154, hr, h⟩ := ob h
                  refine lv_topi (fun y9 ey => ?_)
                  have e9 := ey.trans (Option.some.inj hr)
                  clear ey
                  subst y9
                  clear hr
                  refine lv_iconst (v := 1) hx hb d15_59_245 (by decide) ?_
                  refine lv_iadd hx hb d15_59_246 ?_
                  obtain ⟨y155, hr, h⟩ := ob h
                  refine lv_topi (fun y9 ey => ?_)
                  have e9 := ey.trans (Option.some.inj hr)
                  clear ey
                  subst y9
                  clear hr
                  refine lv_iload hx hb d15_59_247 (lv_at hl 5 rfl) ?_
                  refine lv_isub hx hb d15_59_249 ?_
                  obtain ⟨y156, hr, h⟩ := ob h
                  refine lv_topi (fun y9 ey => ?_)
                  have e9 := ey.trans (Option.some.inj hr)
                  clear ey
                  subst y9
                  clear hr
                  refine lv_iload_n hx hb d15_59_250 rfl (lv_at hl 4 rfl) ?_
                  obtain ⟨e158, hX, h⟩ := ob h
                  have hj : ∀ (H : Heap) (locs : List Loc) (ls : Array Slot), lv_has ls 10 [(0, .ref (q 0)), (1, .int a0), (2, .int a1), (3, .int x4), (4, .int y5), (5, .int v11), (6, .int v12), (7, .int e15), (8, .int e19)] → va_P G.1 vwCl (wMs q G.2 (st.1, st.2.1, va_up (va_up st.2.2.1 12 (upd (st.2.2.1 12) k150z (1 : Int32))) 13 (upd (st.2.2.1 13) k153z e15), st.2.2.2)) H → va_D A (wMs q G.2 (st.1, st.2.1, va_up (va_up st.2.2.1 12 (upd (st.2.2.1 12) k150z (1 : Int32))) 13 (upd (st.2.2.1 13) k153z e15), st.2.2.2)) → va_S A s.heap H locs → W p l e (rmD 3 0 0) s m ([.ref (q 0), .int a0, .int a1] : List Value).toArray below meth c H locs 0 0 (MQ below (qI G (fun rr (_ : Unit) => rr = r0) (fun _ => (wMs q G.2 st0)) A) ([.ref (q 0), .int a0, .int a1] : List Value).toArray s 0 0 A) (F0 m 271 ls [.int e158, .int y156, .ref (q 20)]) := by
                    intro H locs ls hl hP hD hS
                    obtain ⟨k160z, hr, h⟩ := ob h
                    obtain ⟨hi, hk⟩ := ix_some hr
                    clear hr
                    refine va_iast (D := G.1) hx hb hK hP hD hS 20 1 rfl rfl (i := y156) (x := e158) hi d15_59_271 (fun H locs hP hD hS => ?_)
                    rw [hk] at hP hD
                    clear hk hi
                    have hP : va_P G.1 vwCl (wMs q G.2 (st.1, st.2.1, va_up (va_up st.2.2.1 12 (upd (st.2.2.1 12) k150z (1 : Int32))) 13 (upd (upd (st.2.2.1 13) k153z e15) k160z e158), st.2.2.2)) H := hP
                    have hD : va_D A (wMs q G.2 (st.1, st.2.1, va_up (va_up st.2.2.1 12 (upd (st.2.2.1 12) k150z (1 : Int32))) 13 (upd (upd (st.2.2.1 13) k153z e15) k160z e158), st.2.2.2)) := hD
                    refine lv_aload_n hx hb d15_59_272 rfl (lv_at hl 0 rfl) ?_
                    obtain ⟨⟨x161, st162⟩, hc, h⟩ := ob h
                    refine sV_i (As := []) (rest := []) ⟨hx, hb, hml, hown, hts⟩ (cm_block l G Zd q (st.1, st.2.1, va_up (va_up st.2.2.1 12 (upd (st.2.2.1 12) k150z (1 : Int32))) 13 (upd (upd (st.2.2.1 13) k153z e15) k160z e158), st.2.2.2) x161 st162 hc _) (kw_V (n := 0) hts k1428 k1425 k15 k1427 ks65 (by decide +kernel) ⟨Nat.le_of_ble_eq_true rfl, Nat.le_of_ble_eq_true rfl⟩) hP hD hK hS hA hZ (va_recv (ci := 13) (q0 := 0) hK hP rfl rfl) rfl hl.1 rfl (Nat.le_of_ble_eq_true rfl) d15_59_273 ⟨Nat.le_of_ble_eq_true rfl, Nat.le_of_ble_eq_true rfl⟩ (fun rr u9 H locs hp hP hD hS => ?_)
                    clear u9
                    subst rr
                    clear hc
                    refine W.eq (g2 := F0 m 276 ls [.int x161]) rfl ?_
                    have hP : va_P G.1 vwCl (wMs q G.2 st162) H := hP
                    have hD : va_D A (wMs q G.2 st162) := hD
                    refine lv_if_ne (tgt := 282) hx hb d15_59_276 rfl (fun c164 => ?_) (fun c164 => ?_)
                    ·
                      replace h := (if_neg c164).symm.trans h
                      refine lv_iconst (v := 1) hx hb d15_59_282 (by decide) ?_
                      refine lv_aload_n hx hb d15_59_283 rfl (lv_at hl 0 rfl) ?_
                      obtain ⟨x165, hc, h⟩ := ob h
                      refine sV_i (As := []) (rest := [.int 1]) ⟨hx, hb, hml, hown, hts⟩ (cm_current l G Zd q st162 x165 hc _) (kw_V (n := 0) hts k1396 k1393 k15 k1395 ks57 (by decide +kernel) ⟨Nat.le_of_ble_eq_true rfl, Nat.le_of_ble_eq_true rfl⟩) hP hD hK hS hA hZ (va_recv (ci := 13) (q0 := 0) hK hP rfl rfl) rfl hl.1 rfl (Nat.le_of_ble_eq_true rfl) d15_59_284 ⟨Nat.le_of_ble_eq_true rfl, Nat.le_of_ble_eq_true rfl⟩ (fun rr u9 H locs hp hP hD hS => ?_)
                      clear u9
                      subst rr
                      clear hc
                      refine W.eq (g2 := F0 m 287 ls [.int x165, .int 1]) rfl ?_
                      have hP : va_P G.1 vwCl (wMs q G.2 st162) H := hP
                      have hD : va_D A (wMs q G.2 st162) := hD
                      refine lv_isub hx hb d15_59_287 ?_
                      obtain ⟨y168, hr, h⟩ := ob h
                      refine lv_topi (fun y9 ey => ?_)
                      have e9 := ey.trans (Option.some.inj hr)
                      clear ey
                      subst y9
                      clear hr
                      refine lv_istore (lv' := [(9, .int y168), (0, .ref (q 0)), (1, .int a0), (2, .int a1), (3, .int x4), (4, .int y5), (5, .int v11), (6, .int v12), (7, .int e15), (8, .int e19)]) hx hb d15_59_288 hl (by decide) rfl (fun ls hl => ?_)
                      refine lv_aload_n hx hb d15_59_290 rfl (lv_at hl 1 rfl) ?_
                      refine va_get (D := G.1) (ci := 13) (v := .ref (q 23)) (C := r_13) (T := f_13) (N := 42) (ref := "PagedValuesModel") hx hb hts (fun w h => List.mem_cons_of_mem _ (ly_13 w h)) hown hK hP 0 rfl rfl 36 (by decide) (hts _ (List.mem_cons_of_mem _ k1187)) (fun _ h9 => h9) rfl d15_59_291 ?_
                      refine lv_iload hx hb d15_59_294 (lv_at hl 0 rfl) ?_
                      refine lv_aload_n hx hb d15_59_296 rfl (lv_at hl 1 rfl) ?_
                      refine va_get (D := G.1) (ci := 13) (v := .ref (q 23)) (C := r_13) (T := f_13) (N := 42) (ref := "PagedValuesModel") hx hb hts (fun w h => List.mem_cons_of_mem _ (ly_13 w h)) hown hK hP 0 rfl rfl 36 (by decide) (hts _ (List.mem_cons_of_mem _ k1187)) (fun _ h9 => h9) rfl d15_59_297 ?_
                      refine lv_iconst (v := 1) hx hb d15_59_300 (by decide) ?_
                      refine lv_iload hx hb d15_59_301 (lv_at hl 0 rfl) ?_
                      refine lv_isub hx hb d15_59_303 ?_
                      obtain ⟨y169, hr, h⟩ := ob h
                      refine lv_topi (fun y9 ey => ?_)
                      have e9 := ey.trans (Option.some.inj hr)
                      clear ey
                      subst y9
                      clear hr
                      obtain ⟨x170, hr, h⟩ := ob h
                      obtain ⟨hi, hv⟩ := rd_some hr
                      refine va_iald (D := G.1) hx hb hK hP 23 1 rfl rfl (i := y169) hi d15_59_304 ?_
                      refine lv_topi (fun y9 ey => ?_)
                      have e9 := ey.trans hv
                      clear ey
                      subst y9
                      clear hv hi hr
                      refine lv_iconst (v := 1) hx hb d15_59_305 (by decide) ?_
                      refine lv_iadd hx hb d15_59_306 ?_
                      obtain ⟨y171, hr, h⟩ := ob h
                      refine lv_topi (fun y9 ey => ?_)
                      have e9 := ey.trans (Option.some.inj hr)
                      clear ey
                      subst y9
                      clear hr
                      obtain ⟨k172z, hr, h⟩ := ob h
                      obtain ⟨hi, hk⟩ := ix_some hr
                      clear hr
                      refine va_iast (D := G.1) hx hb hK hP hD hS 23 1 rfl rfl (i := y168) (x := y171) hi d15_59_307 (fun H locs hP hD hS => ?_)
                      rw [hk] at hP hD
                      clear hk hi
                      have hP : va_P G.1 vwCl (wMs q G.2 (st162.1, st162.2.1, va_up st162.2.2.1 16 (upd (st162.2.2.1 16) k172z y171), st162.2.2.2)) H := hP
                      have hD : va_D A (wMs q G.2 (st162.1, st162.2.1, va_up st162.2.2.1 16 (upd (st162.2.2.1 16) k172z y171), st162.2.2.2)) := hD
                      refine lv_aload_n hx hb d15_59_308 rfl (lv_at hl 1 rfl) ?_
                      refine va_get (D := G.1) (ci := 13) (v := .ref (q 22)) (C := r_13) (T := f_13) (N := 42) (ref := "PagedValuesModel") hx hb hts (fun w h => List.mem_cons_of_mem _ (ly_13 w h)) hown hK hP 0 rfl rfl 35 (by decide) (hts _ (List.mem_cons_of_mem _ k1186)) (fun _ h9 => h9) rfl d15_59_309 ?_
                      refine lv_iload hx hb d15_59_312 (lv_at hl 0 rfl) ?_
                      refine lv_iload hx hb d15_59_314 (lv_at hl 9 rfl) ?_
                      obtain ⟨k173z, hr, h⟩ := ob h
                      obtain ⟨hi, hk⟩ := ix_some hr
                      clear hr
                      refine va_iast (D := G.1) hx hb hK hP hD hS 22 1 rfl rfl (i := y168) (x := e19) hi d15_59_316 (fun H locs hP hD hS => ?_)
                      rw [hk] at hP hD
                      clear hk hi
                      have hP : va_P G.1 vwCl (wMs q G.2 (st162.1, st162.2.1, va_up (va_up st162.2.2.1 16 (upd (st162.2.2.1 16) k172z y171)) 15 (upd (st162.2.2.1 15) k173z e19), st162.2.2.2)) H := hP
                      have hD : va_D A (wMs q G.2 (st162.1, st162.2.1, va_up (va_up st162.2.2.1 16 (upd (st162.2.2.1 16) k172z y171)) 15 (upd (st162.2.2.1 15) k173z e19), st162.2.2.2)) := hD
                      refine lv_aload_n hx hb d15_59_317 rfl (lv_at hl 1 rfl) ?_
                      obtain ⟨⟨x174, st175⟩, hc, h⟩ := ob h
                      refine sV_i (As := []) (rest := []) ⟨hx, hb, hml, hown, hts⟩ (cm_block l G Zd q (st162.1, st162.2.1, va_up (va_up st162.2.2.1 16 (upd (st162.2.2.1 16) k172z y171)) 15 (upd (st162.2.2.1 15) k173z e19), st162.2.2.2) x174 st175 hc _) (kw_V (n := 0) hts k1428 k1425 k15 k1427 ks65 (by decide +kernel) ⟨Nat.le_of_ble_eq_true rfl, Nat.le_of_ble_eq_true rfl⟩) hP hD hK hS hA hZ (va_recv (ci := 13) (q0 := 0) hK hP rfl rfl) rfl hl.1 rfl (Nat.le_of_ble_eq_true rfl) d15_59_318 ⟨Nat.le_of_ble_eq_true rfl, Nat.le_of_ble_eq_true rfl⟩ (fun rr u9 H locs hp hP hD hS => ?_)
                      clear u9
                      subst rr
                      clear hc
                      refine W.eq (g2 := F0 m 321 ls [.int x174]) rfl ?_
                      have hP : va_P G.1 vwCl (wMs q G.2 st175) H := hP
                      have hD : va_D A (wMs q G.2 st175) := hD
                      obtain ⟨e178, hX, h⟩ := ob h
                      have hj : ∀ (H : Heap) (locs : List Loc) (ls : Array Slot), lv_has ls 10 [(0, .ref (q 0)), (1, .int a0), (2, .int a1), (3, .int x4), (4, .int y5), (5, .int v11), (6, .int v12), (7, .int e15), (8, .int e19), (9, .int y168)] → va_P G.1 vwCl (wMs q G.2 st175) H → va_D A (wMs q G.2 st175) → va_S A s.heap H locs → W p l e (rmD 3 0 0) s m ([.ref (q 0), .int a0, .int a1] : List Value).toArray below meth c H locs 0 0 (MQ below (qI G (fun rr (_ : Unit) => rr = r0) (fun _ => (wMs q G.2 st0)) A) ([.ref (q 0), .int a0, .int a1] : List Value).toArray s 0 0 A) (F0 m 330 ls [.int e178]) := by
                        intro H locs ls hl hP hD hS
                        cases h
                        exact fin_i hx hb hr hlk hS () rfl hP hD (Nat.le_of_ble_eq_true rfl) (Nat.le_of_ble_eq_true rfl) d15_59_330
                      clear h
                      refine lv_if_eq (tgt := 328) hx hb d15_59_321 rfl (fun c177 => ?_) (fun c177 => ?_)
                      ·
                        replace h := (if_pos c177).symm.trans hX
                        refine lv_bipush (v := (-9)) hx hb d15_59_328 (by decide) ?_
                        have e9 := Option.some.inj h
                        subst e178
                        have hl := lv_sub hl (l' := [(0, .ref (q 0)), (1, .int a0), (2, .int a1), (3, .int x4), (4, .int y5), (5, .int v11), (6, .int v12), (7, .int e15), (8, .int e19), (9, .int y168)]) [1, 2, 3, 4, 5, 6, 7, 8, 9, 0] rfl
                        exact hj _ _ _ hl hP hD hS
                      ·
                        replace h := (if_neg c177).symm.trans hX
                        refine lv_iconst (v := 0) hx hb d15_59_324 (by decide) ?_
                        refine lv_goto (tgt := 330) hx hb d15_59_325 rfl ?_
                        have e9 := Option.some.inj h
                        subst e178
                        have hl := lv_sub hl (l' := [(0, .ref (q 0)), (1, .int a0), (2, .int a1), (3, .int x4), (4, .int y5), (5, .int v11), (6, .int v12), (7, .int e15), (8, .int e19), (9, .int y168)]) [1, 2, 3, 4, 5, 6, 7, 8, 9, 0] rfl
                        exact hj _ _ _ hl hP hD hS
                    ·
                      replace h := (if_pos c164).symm.trans h
                      refine lv_bipush (v := (-9)) hx hb d15_59_279 (by decide) ?_
                      cases h
                      exact fin_i hx hb hr hlk hS () rfl hP hD (Nat.le_of_ble_eq_true rfl) (Nat.le_of_ble_eq_true rfl) d15_59_281
                  clear h
                  refine lv_if_ge (tgt := 258) hx hb d15_59_251 rfl (fun c157 => ?_) (fun c157 => ?_)
                  ·
                    replace h := (if_pos c157).symm.trans hX
                    refine lv_aload_n hx hb d15_59_258 rfl (lv_at hl 1 rfl) ?_
                    refine va_get (D := G.1) (ci := 13) (v := .ref (q 20)) (C := r_13) (T := f_13) (N := 42) (ref := "PagedValuesModel") hx hb hts (fun w h => List.mem_cons_of_mem _ (ly_13 w h)) hown hK hP 0 rfl rfl 33 (by decide) (hts _ (List.mem_cons_of_mem _ k1184)) (fun _ h9 => h9) rfl d15_59_259 ?_
                    refine lv_iconst (v := 2) hx hb d15_59_262 (by decide) ?_
                    refine lv_iload_n hx hb d15_59_263 rfl (lv_at hl 4 rfl) ?_
                    refine lv_imul hx hb d15_59_264 ?_
                    obtain ⟨y180, hr, h⟩ := ob h
                    refine lv_topi (fun y9 ey => ?_)
                    have e9 := ey.trans (Option.some.inj hr)
                    clear ey
                    subst y9
                    clear hr
                    refine lv_iconst (v := 1) hx hb d15_59_265 (by decide) ?_
                    refine lv_iadd hx hb d15_59_266 ?_
                    obtain ⟨y181, hr, h⟩ := ob h
                    refine lv_topi (fun y9 ey => ?_)
                    have e9 := ey.trans (Option.some.inj hr)
                    clear ey
                    subst y9
                    clear hr
                    refine lv_iload hx hb d15_59_267 (lv_at hl 5 rfl) ?_
                    refine lv_isub hx hb d15_59_269 ?_
                    obtain ⟨y182, hr, h⟩ := ob h
                    refine lv_topi (fun y9 ey => ?_)
                    have e9 := ey.trans (Option.some.inj hr)
                    clear ey
                    subst y9
                    clear hr
                    obtain ⟨x183, hr, h⟩ := ob h
                    obtain ⟨hi, hv⟩ := rd_some hr
                    refine va_iald (D := G.1) hx hb hK hP 20 1 rfl rfl (i := y182) hi d15_59_270 ?_
                    refine lv_topi (fun y9 ey => ?_)
                    have e9 := ey.trans hv
                    clear ey
                    subst y9
                    clear hv hi hr
                    have e9 := Option.some.inj h
                    subst e158
                    have hl := lv_sub hl (l' := [(0, .ref (q 0)), (1, .int a0), (2, .int a1), (3, .int x4), (4, .int y5), (5, .int v11), (6, .int v12), (7, .int e15), (8, .int e19)]) [1, 2, 3, 4, 5, 6, 7, 8, 0] rfl
                    exact hj _ _ _ hl hP hD hS
                  ·
                    replace h := (if_neg c157).symm.trans hX
                    refine lv_iconst (v := (-1)) hx hb d15_59_254 (by decide) ?_
                    refine lv_goto (tgt := 271) hx hb d15_59_255 rfl ?_
                    have e9 := Option.some.inj h
                    subst e158
                    have hl := lv_sub hl (l' := [(0, .ref (q 0)), (1, .int a0), (2, .int a1), (3, .int x4), (4, .int y5), (5, .int v11), (6, .int v12), (7, .int e15), (8, .int e19)]) [1, 2, 3, 4, 5, 6, 7, 8, 0] rfl
                    exact hj _ _ _ hl hP hD hS
              ·
                replace h := (if_neg c133).symm.trans h
                refine lv_aload_n hx hb d15_59_189 rfl (lv_at hl 1 rfl) ?_
                refine lv_iload hx hb d15_59_190 (lv_at hl 8 rfl) ?_
                refine lv_iload_n hx hb d15_59_192 rfl (lv_at hl 4 rfl) ?_
                refine lv_iload hx hb d15_59_193 (lv_at hl 5 rfl) ?_
                refine lv_iload_n hx hb d15_59_195 rfl (lv_at hl 2 rfl) ?_
                refine lv_iload_n hx hb d15_59_196 rfl (lv_at hl 3 rfl) ?_
                obtain ⟨st185, hc, h⟩ := ob h
                refine sV_v (As := [.int e15, .int x4, .int y5, .int a0, .int a1]) (rest := []) ⟨hx, hb, hml, hown, hts⟩ (cm_writeLeaf l G Zd q e15 x4 y5 a0 a1 st st185 hc _) (kw_V (n := 5) hts k1416 k1413 k15 k1415 ks62 (by decide +kernel) ⟨Nat.le_of_ble_eq_true rfl, Nat.le_of_ble_eq_true rfl⟩) hP hD hK hS hA hZ (va_recv (ci := 13) (q0 := 0) hK hP rfl rfl) rfl hl.1 rfl (Nat.le_of_ble_eq_true rfl) d15_59_197 ⟨Nat.le_of_ble_eq_true rfl, Nat.le_of_ble_eq_true rfl⟩ (fun u9 H locs hp hP hD hS => ?_)
                clear u9
                clear hp
                clear hc
                refine W.eq (g2 := F0 m 200 ls []) rfl ?_
                have hP : va_P G.1 vwCl (wMs q G.2 st185) H := hP
                have hD : va_D A (wMs q G.2 st185) := hD
                refine lv_aload_n hx hb d15_59_200 rfl (lv_at hl 1 rfl) ?_
                obtain ⟨⟨x187, st188⟩, hc, h⟩ := ob h
                refine sV_i (As := []) (rest := []) ⟨hx, hb, hml, hown, hts⟩ (cm_block l G Zd q st185 x187 st188 hc _) (kw_V (n := 0) hts k1428 k1425 k15 k1427 ks65 (by decide +kernel) ⟨Nat.le_of_ble_eq_true rfl, Nat.le_of_ble_eq_true rfl⟩) hP hD hK hS hA hZ (va_recv (ci := 13) (q0 := 0) hK hP rfl rfl) rfl hl.1 rfl (Nat.le_of_ble_eq_true rfl) d15_59_201 ⟨Nat.le_of_ble_eq_true rfl, Nat.le_of_ble_eq_true rfl⟩ (fun rr u9 H locs hp hP hD hS => ?_)
                clear u9
                subst rr
                clear hc
                refine W.eq (g2 := F0 m 204 ls [.int x187]) rfl ?_
                have hP : va_P G.1 vwCl (wMs q G.2 st188) H := hP
                have hD : va_D A (wMs q G.2 st188) := hD
                refine lv_if_ne (tgt := 210) hx hb d15_59_204 rfl (fun c190 => ?_) (fun c190 => ?_)
                ·
                  replace h := (if_neg c190).symm.trans h
                  refine lv_iload hx hb d15_59_210 (lv_at hl 0 rfl) ?_
                  refine lv_if_lt (tgt := 282) hx hb d15_59_212 rfl (fun c191 => ?_) (fun c191 => ?_)
                  ·
                    replace h := (if_pos c191).symm.trans h
                    refine lv_iconst (v := 1) hx hb d15_59_282 (by decide) ?_
                    refine lv_aload_n hx hb d15_59_283 rfl (lv_at hl 1 rfl) ?_
                    obtain ⟨x192, hc, h⟩ := ob h
                    refine sV_i (As := []) (rest := [.int 1]) ⟨hx, hb, hml, hown, hts⟩ (cm_current l G Zd q st188 x192 hc _) (kw_V (n := 0) hts k1396 k1393 k15 k1395 ks57 (by decide +kernel) ⟨Nat.le_of_ble_eq_true rfl, Nat.le_of_ble_eq_true rfl⟩) hP hD hK hS hA hZ (va_recv (ci := 13) (q0 := 0) hK hP rfl rfl) rfl hl.1 rfl (Nat.le_of_ble_eq_true rfl) d15_59_284 ⟨Nat.le_of_ble_eq_true rfl, Nat.le_of_ble_eq_true rfl⟩ (fun rr u9 H locs hp hP hD hS => ?_)
                    clear u9
                    subst rr
                    clear hc
                    refine W.eq (g2 := F0 m 287 ls [.int x192, .int 1]) rfl ?_
                    have hP : va_P G.1 vwCl (wMs q G.2 st188) H := hP
                    have hD : va_D A (wMs q G.2 st188) := hD
                    refine lv_isub hx hb d15_59_287 ?_
                    obtain ⟨y195, hr, h⟩ := ob h
                    refine lv_topi (fun y9 ey => ?_)
                    have e9 := ey.trans (Option.some.inj hr)
                    clear ey
                    subst y9
                    clear hr
                    refine lv_istore (lv' := [(9, .int y195), (8, .int e19), (0, .ref (q 0)), (1, .int a0), (2, .int a1), (3, .int x4), (4, .int y5), (5, .int v11), (6, .int v12), (7, .int e15)]) hx hb d15_59_288 hl (by decide) rfl (fun ls hl => ?_)
                    refine lv_aload_n hx hb d15_59_290 rfl (lv_at hl 2 rfl) ?_
                    refine va_get (D := G.1) (ci := 13) (v := .ref (q 23)) (C := r_13) (T := f_13) (N := 42) (ref := "PagedValuesModel") hx hb hts (fun w h => List.mem_cons_of_mem _ (ly_13 w h)) hown hK hP 0 rfl rfl 36 (by decide) (hts _ (List.mem_cons_of_mem _ k1187)) (fun _ h9 => h9) rfl d15_59_291 ?_
                    refine lv_iload hx hb d15_59_294 (lv_at hl 0 rfl) ?_
                    refine lv_aload_n hx hb d15_59_296 rfl (lv_at hl 2 rfl) ?_
                    refine va_get (D := G.1) (ci := 13) (v := .ref (q 23)) (C := r_13) (T := f_13) (N := 42) (ref := "PagedValuesModel") hx hb hts (fun w h => List.mem_cons_of_mem _ (ly_13 w h)) hown hK hP 0 rfl rfl 36 (by decide) (hts _ (List.mem_cons_of_mem _ k1187)) (fun _ h9 => h9) rfl d15_59_297 ?_
                    refine lv_iconst (v := 1) hx hb d15_59_300 (by decide) ?_
                    refine lv_iload hx hb d15_59_301 (lv_at hl 0 rfl) ?_
                    refine lv_isub hx hb d15_59_303 ?_
                    obtain ⟨y196, hr, h⟩ := ob h
                    refine lv_topi (fun y9 ey => ?_)
                    have e9 := ey.trans (Option.some.inj hr)
                    clear ey
                    subst y9
                    clear hr
                    obtain ⟨x197, hr, h⟩ := ob h
                    obtain ⟨hi, hv⟩ := rd_some hr
                    refine va_iald (D := G.1) hx hb hK hP 23 1 rfl rfl (i := y196) hi d15_59_304 ?_
                    refine lv_topi (fun y9 ey => ?_)
                    have e9 := ey.trans hv
                    clear ey
                    subst y9
                    clear hv hi hr
                    refine lv_iconst (v := 1) hx hb d15_59_305 (by decide) ?_
                    refine lv_iadd hx hb d15_59_306 ?_
                    obtain ⟨y198, hr, h⟩ := ob h
                    refine lv_topi (fun y9 ey => ?_)
                    have e9 := ey.trans (Option.some.inj hr)
                    clear ey
                    subst y9
                    clear hr
                    obtain ⟨k199z, hr, h⟩ := ob h
                    obtain ⟨hi, hk⟩ := ix_some hr
                    clear hr
                    refine va_iast (D := G.1) hx hb hK hP hD hS 23 1 rfl rfl (i := y195) (x := y198) hi d15_59_307 (fun H locs hP hD hS => ?_)
                    rw [hk] at hP hD
                    clear hk hi
                    have hP : va_P G.1 vwCl (wMs q G.2 (st188.1, st188.2.1, va_up st188.2.2.1 16 (upd (st188.2.2.1 16) k199z y198), st188.2.2.2)) H := hP
                    have hD : va_D A (wMs q G.2 (st188.1, st188.2.1, va_up st188.2.2.1 16 (upd (st188.2.2.1 16) k199z y198), st188.2.2.2)) := hD
                    refine lv_aload_n hx hb d15_59_308 rfl (lv_at hl 2 rfl) ?_
                    refine va_get (D := G.1) (ci := 13) (v := .ref (q 22)) (C := r_13) (T := f_13) (N := 42) (ref := "PagedValuesModel") hx hb hts (fun w h => List.mem_cons_of_mem _ (ly_13 w h)) hown hK hP 0 rfl rfl 35 (by decide) (hts _ (List.mem_cons_of_mem _ k1186)) (fun _ h9 => h9) rfl d15_59_309 ?_
                    refine lv_iload hx hb d15_59_312 (lv_at hl 0 rfl) ?_
                    refine lv_iload hx hb d15_59_314 (lv_at hl 1 rfl) ?_
                    obtain ⟨k200z, hr, h⟩ := ob h
                    obtain ⟨hi, hk⟩ := ix_some hr
                    clear hr
                    refine va_iast (D := G.1) hx hb hK hP hD hS 22 1 rfl rfl (i := y195) (x := e19) hi d15_59_316 (fun H locs hP hD hS => ?_)
                    rw [hk] at hP hD
                    clear hk hi
                    have hP : va_P G.1 vwCl (wMs q G.2 (st188.1, st188.2.1, va_up (va_up st188.2.2.1 16 (upd (st188.2.2.1 16) k199z y198)) 15 (upd (st188.2.2.1 15) k200z e19), st188.2.2.2)) H := hP
                    have hD : va_D A (wMs q G.2 (st188.1, st188.2.1, va_up (va_up st188.2.2.1 16 (upd (st188.2.2.1 16) k199z y198)) 15 (upd (st188.2.2.1 15) k200z e19), st188.2.2.2)) := hD
                    refine lv_aload_n hx hb d15_59_317 rfl (lv_at hl 2 rfl) ?_
                    obtain ⟨⟨x201, st202⟩, hc, h⟩ := ob h
                    refine sV_i (As := []) (rest := []) ⟨hx, hb, hml, hown, hts⟩ (cm_block l G Zd q (st188.1, st188.2.1, va_up (va_up st188.2.2.1 16 (upd (st188.2.2.1 16) k199z y198)) 15 (upd (st188.2.2.1 15) k200z e19), st188.2.2.2) x201 st202 hc _) (kw_V (n := 0) hts k1428 k1425 k15 k1427 ks65 (by decide +kernel) ⟨Nat.le_of_ble_eq_true rfl, Nat.le_of_ble_eq_true rfl⟩) hP hD hK hS hA hZ (va_recv (ci := 13) (q0 := 0) hK hP rfl rfl) rfl hl.1 rfl (Nat.le_of_ble_eq_true rfl) d15_59_318 ⟨Nat.le_of_ble_eq_true rfl, Nat.le_of_ble_eq_true rfl⟩ (fun rr u9 H locs hp hP hD hS => ?_)
                    clear u9
                    subst rr
                    clear hc
                    refine W.eq (g2 := F0 m 321 ls [.int x201]) rfl ?_
                    have hP : va_P G.1 vwCl (wMs q G.2 st202) H := hP
                    have hD : va_D A (wMs q G.2 st202) := hD
                    obtain ⟨e205, hX, h⟩ := ob h
                    have hj : ∀ (H : Heap) (locs : List Loc) (ls : Array Slot), lv_has ls 10 [(0, .ref (q 0)), (1, .int a0), (2, .int a1), (3, .int x4), (4, .int y5), (5, .int v11), (6, .int v12), (7, .int e15), (8, .int e19), (9, .int y195)] → va_P G.1 vwCl (wMs q G.2 st202) H → va_D A (wMs q G.2 st202) → va_S A s.heap H locs → W p l e (rmD 3 0 0) s m ([.ref (q 0), .int a0, .int a1] : List Value).toArray below meth c H locs 0 0 (MQ below (qI G (fun rr (_ : Unit) => rr = r0) (fun _ => (wMs q G.2 st0)) A) ([.ref (q 0), .int a0, .int a1] : List Value).toArray s 0 0 A) (F0 m 330 ls [.int e205]) := by
                      intro H locs ls hl hP hD hS
                      cases h
                      exact fin_i hx hb hr hlk hS () rfl hP hD (Nat.le_of_ble_eq_true rfl) (Nat.le_of_ble_eq_true rfl) d15_59_330
                    clear h
                    refine lv_if_eq (tgt := 328) hx hb d15_59_321 rfl (fun c204 => ?_) (fun c204 => ?_)
                    ·
                      replace h := (if_pos c204).symm.trans hX
                      refine lv_bipush (v := (-9)) hx hb d15_59_328 (by decide) ?_
                      have e9 := Option.some.inj h
                      subst e205
                      have hl := lv_sub hl (l' := [(0, .ref (q 0)), (1, .int a0), (2, .int a1), (3, .int x4), (4, .int y5), (5, .int v11), (6, .int v12), (7, .int e15), (8, .int e19), (9, .int y195)]) [2, 3, 4, 5, 6, 7, 8, 9, 1, 0] rfl
                      exact hj _ _ _ hl hP hD hS
                    ·
                      replace h := (if_neg c204).symm.trans hX
                      refine lv_iconst (v := 0) hx hb d15_59_324 (by decide) ?_
                      refine lv_goto (tgt := 330) hx hb d15_59_325 rfl ?_
                      have e9 := Option.some.inj h
                      subst e205
                      have hl := lv_sub hl (l' := [(0, .ref (q 0)), (1, .int a0), (2, .int a1), (3, .int x4), (4, .int y5), (5, .int v11), (6, .int v12), (7, .int e15), (8, .int e19), (9, .int y195)]) [2, 3, 4, 5, 6, 7, 8, 9, 1, 0] rfl
                      exact hj _ _ _ hl hP hD hS
                  ·
                    replace h := (if_neg c191).symm.trans h
                    refine lv_aload_n hx hb d15_59_215 rfl (lv_at hl 1 rfl) ?_
                    refine va_get (D := G.1) (ci := 13) (v := .ref (q 19)) (C := r_13) (T := f_13) (N := 42) (ref := "PagedValuesModel") hx hb hts (fun w h => List.mem_cons_of_mem _ (ly_13 w h)) hown hK hP 0 rfl rfl 32 (by decide) (hts _ (List.mem_cons_of_mem _ k1183)) (fun _ h9 => h9) rfl d15_59_216 ?_
                    refine lv_iload hx hb d15_59_219 (lv_at hl 0 rfl) ?_
                    refine lv_iconst (v := 1) hx hb d15_59_221 (by decide) ?_
                    obtain ⟨k207z, hr, h⟩ := ob h
                    obtain ⟨hi, hk⟩ := ix_some hr
                    clear hr
                    refine va_iast (D := G.1) hx hb hK hP hD hS 19 1 rfl rfl (i := e19) (x := (1 : Int32)) hi d15_59_222 (fun H locs hP hD hS => ?_)
                    rw [hk] at hP hD
                    clear hk hi
                    have hP : va_P G.1 vwCl (wMs q G.2 (st188.1, st188.2.1, va_up st188.2.2.1 12 (upd (st188.2.2.1 12) k207z (1 : Int32)), st188.2.2.2)) H := hP
                    have hD : va_D A (wMs q G.2 (st188.1, st188.2.1, va_up st188.2.2.1 12 (upd (st188.2.2.1 12) k207z (1 : Int32)), st188.2.2.2)) := hD
                    refine lv_aload_n hx hb d15_59_223 rfl (lv_at hl 1 rfl) ?_
                    refine va_get (D := G.1) (ci := 13) (v := .ref (q 20)) (C := r_13) (T := f_13) (N := 42) (ref := "PagedValuesModel") hx hb hts (fun w h => List.mem_cons_of_mem _ (ly_13 w h)) hown hK hP 0 rfl rfl 33 (by decide) (hts _ (List.mem_cons_of_mem _ k1184)) (fun _ h9 => h9) rfl d15_59_224 ?_
                    refine lv_iconst (v := 2) hx hb d15_59_227 (by decide) ?_
                    refine lv_iload hx hb d15_59_228 (lv_at hl 0 rfl) ?_
                    refine lv_imul hx hb d15_59_230 ?_
                    obtain ⟨y208, hr, h⟩ := ob h
                    refine lv_topi (fun y9 ey => ?_)
                    have e9 := ey.trans (Option.some.inj hr)
                    clear ey
                    subst y9
                    clear hr
                    refine lv_iload hx hb d15_59_231 (lv_at hl 5 rfl) ?_
                    refine lv_iadd hx hb d15_59_233 ?_
                    obtain ⟨y209, hr, h⟩ := ob h
                    refine lv_topi (fun y9 ey => ?_)
                    have e9 := ey.trans (Option.some.inj hr)
                    clear ey
                    subst y9
                    clear hr
                    refine lv_iload hx hb d15_59_234 (lv_at hl 8 rfl) ?_
                    obtain ⟨k210z, hr, h⟩ := ob h
                    obtain ⟨hi, hk⟩ := ix_some hr
                    clear hr
                    refine va_iast (D := G.1) hx hb hK hP hD hS 20 1 rfl rfl (i := y209) (x := e15) hi d15_59_236 (fun H locs hP hD hS => ?_)
                    rw [hk] at hP hD
                    clear hk hi
                    have hP : va_P G.1 vwCl (wMs q G.2 (st188.1, st188.2.1, va_up (va_up st188.2.2.1 12 (upd (st188.2.2.1 12) k207z (1 : Int32))) 13 (upd (st188.2.2.1 13) k210z e15), st188.2.2.2)) H := hP
                    have hD : va_D A (wMs q G.2 (st188.1, st188.2.1, va_up (va_up st188.2.2.1 12 (upd (st188.2.2.1 12) k207z (1 : Int32))) 13 (upd (st188.2.2.1 13) k210z e15), st188.2.2.2)) := hD
                    refine lv_aload_n hx hb d15_59_237 rfl (lv_at hl 1 rfl) ?_
                    refine va_get (D := G.1) (ci := 13) (v := .ref (q 20)) (C := r_13) (T := f_13) (N := 42) (ref := "PagedValuesModel") hx hb hts (fun w h => List.mem_cons_of_mem _ (ly_13 w h)) hown hK hP 0 rfl rfl 33 (by decide) (hts _ (List.mem_cons_of_mem _ k1184)) (fun _ h9 => h9) rfl d15_59_238 ?_
                    refine lv_iconst (v := 2) hx hb d15_59_241 (by decide) ?_
                    refine lv_iload hx hb d15_59_242 (lv_at hl 0 rfl) ?_
                    refine lv_imul hx hb d15_59_244 ?_
                    obtain ⟨y211, hr, h⟩ := ob h
                    refine lv_topi (fun y9 ey => ?_)
                    have e9 := ey.trans (Option.some.inj hr)
                    clear ey
                    subst y9
                    clear hr
                    refine lv_iconst (v := 1) hx hb d15_59_245 (by decide) ?_
                    refine lv_iadd hx hb d15_59_246 ?_
                    obtain ⟨y212, hr, h⟩ := ob h
                    refine lv_topi (fun y9 ey => ?_)
                    have e9 := ey.trans (Option.some.inj hr)
                    clear ey
                    subst y9
                    clear hr
                    refine lv_iload hx hb d15_59_247 (lv_at hl 5 rfl) ?_
                    refine lv_isub hx hb d15_59_249 ?_
                    obtain ⟨y213, hr, h⟩ := ob h
                    refine lv_topi (fun y9 ey => ?_)
                    have e9 := ey.trans (Option.some.inj hr)
                    clear ey
                    subst y9
                    clear hr
                    refine lv_iload_n hx hb d15_59_250 rfl (lv_at hl 4 rfl) ?_
                    obtain ⟨e215, hX, h⟩ := ob h
                    have hj : ∀ (H : Heap) (locs : List Loc) (ls : Array Slot), lv_has ls 10 [(0, .ref (q 0)), (1, .int a0), (2, .int a1), (3, .int x4), (4, .int y5), (5, .int v11), (6, .int v12), (7, .int e15), (8, .int e19)] → va_P G.1 vwCl (wMs q G.2 (st188.1, st188.2.1, va_up (va_up st188.2.2.1 12 (upd (st188.2.2.1 12) k207z (1 : Int32))) 13 (upd (st188.2.2.1 13) k210z e15), st188.2.2.2)) H → va_D A (wMs q G.2 (st188.1, st188.2.1, va_up (va_up st188.2.2.1 12 (upd (st188.2.2.1 12) k207z (1 : Int32))) 13 (upd (st188.2.2.1 13) k210z e15), st188.2.2.2)) → va_S A s.heap H locs → W p l e (rmD 3 0 0) s m ([.ref (q 0), .int a0, .int a1] : List Value).toArray below meth c H locs 0 0 (MQ below (qI G (fun rr (_ : Unit) => rr = r0) (fun _ => (wMs q G.2 st0)) A) ([.ref (q 0), .int a0, .int a1] : List Value).toArray s 0 0 A) (F0 m 271 ls [.int e215, .int y213, .ref (q 20)]) := by
                      intro H locs ls hl hP hD hS
                      obtain ⟨k217z, hr, h⟩ := ob h
                      obtain ⟨hi, hk⟩ := ix_some hr
                      clear hr
                      refine va_iast (D := G.1) hx hb hK hP hD hS 20 1 rfl rfl (i := y213) (x := e215) hi d15_59_271 (fun H locs hP hD hS => ?_)
                      rw [hk] at hP hD
                      clear hk hi
                      have hP : va_P G.1 vwCl (wMs q G.2 (st188.1, st188.2.1, va_up (va_up st188.2.2.1 12 (upd (st188.2.2.1 12) k207z (1 : Int32))) 13 (upd (upd (st188.2.2.1 13) k210z e15) k217z e215), st188.2.2.2)) H := hP
                      have hD : va_D A (wMs q G.2 (st188.1, st188.2.1, va_up (va_up st188.2.2.1 12 (upd (st188.2.2.1 12) k207z (1 : Int32))) 13 (upd (upd (st188.2.2.1 13) k210z e15) k217z e215), st188.2.2.2)) := hD
                      refine lv_aload_n hx hb d15_59_272 rfl (lv_at hl 0 rfl) ?_
                      obtain ⟨⟨x218, st219⟩, hc, h⟩ := ob h
                      refine sV_i (As := []) (rest := []) ⟨hx, hb, hml, hown, hts⟩ (cm_block l G Zd q (st188.1, st188.2.1, va_up (va_up st188.2.2.1 12 (upd (st188.2.2.1 12) k207z (1 : Int32))) 13 (upd (upd (st188.2.2.1 13) k210z e15) k217z e215), st188.2.2.2) x218 st219 hc _) (kw_V (n := 0) hts k1428 k1425 k15 k1427 ks65 (by decide +kernel) ⟨Nat.le_of_ble_eq_true rfl, Nat.le_of_ble_eq_true rfl⟩) hP hD hK hS hA hZ (va_recv (ci := 13) (q0 := 0) hK hP rfl rfl) rfl hl.1 rfl (Nat.le_of_ble_eq_true rfl) d15_59_273 ⟨Nat.le_of_ble_eq_true rfl, Nat.le_of_ble_eq_true rfl⟩ (fun rr u9 H locs hp hP hD hS => ?_)
                      clear u9
                      subst rr
                      clear hc
                      refine W.eq (g2 := F0 m 276 ls [.int x218]) rfl ?_
                      have hP : va_P G.1 vwCl (wMs q G.2 st219) H := hP
                      have hD : va_D A (wMs q G.2 st219) := hD
                      refine lv_if_ne (tgt := 282) hx hb d15_59_276 rfl (fun c221 => ?_) (fun c221 => ?_)
                      ·
                        replace h := (if_neg c221).symm.trans h
                        refine lv_iconst (v := 1) hx hb d15_59_282 (by decide) ?_
                        refine lv_aload_n hx hb d15_59_283 rfl (lv_at hl 0 rfl) ?_
                        obtain ⟨x222, hc, h⟩ := ob h
                        refine sV_i (As := []) (rest := [.int 1]) ⟨hx, hb, hml, hown, hts⟩ (cm_current l G Zd q st219 x222 hc _) (kw_V (n := 0) hts k1396 k1393 k15 k1395 ks57 (by decide +kernel) ⟨Nat.le_of_ble_eq_true rfl, Nat.le_of_ble_eq_true rfl⟩) hP hD hK hS hA hZ (va_recv (ci := 13) (q0 := 0) hK hP rfl rfl) rfl hl.1 rfl (Nat.le_of_ble_eq_true rfl) d15_59_284 ⟨Nat.le_of_ble_eq_true rfl, Nat.le_of_ble_eq_true rfl⟩ (fun rr u9 H locs hp hP hD hS => ?_)
                        clear u9
                        subst rr
                        clear hc
                        refine W.eq (g2 := F0 m 287 ls [.int x222, .int 1]) rfl ?_
                        have hP : va_P G.1 vwCl (wMs q G.2 st219) H := hP
                        have hD : va_D A (wMs q G.2 st219) := hD
                        refine lv_isub hx hb d15_59_287 ?_
                        obtain ⟨y225, hr, h⟩ := ob h
                        refine lv_topi (fun y9 ey => ?_)
                        have e9 := ey.trans (Option.some.inj hr)
                        clear ey
                        subst y9
                        clear hr
                        refine lv_istore (lv' := [(9, .int y225), (0, .ref (q 0)), (1, .int a0), (2, .int a1), (3, .int x4), (4, .int y5), (5, .int v11), (6, .int v12), (7, .int e15), (8, .int e19)]) hx hb d15_59_288 hl (by decide) rfl (fun ls hl => ?_)
                        refine lv_aload_n hx hb d15_59_290 rfl (lv_at hl 1 rfl) ?_
                        refine va_get (D := G.1) (ci := 13) (v := .ref (q 23)) (C := r_13) (T := f_13) (N := 42) (ref := "PagedValuesModel") hx hb hts (fun w h => List.mem_cons_of_mem _ (ly_13 w h)) hown hK hP 0 rfl rfl 36 (by decide) (hts _ (List.mem_cons_of_mem _ k1187)) (fun _ h9 => h9) rfl d15_59_291 ?_
                        refine lv_iload hx hb d15_59_294 (lv_at hl 0 rfl) ?_
                        refine lv_aload_n hx hb d15_59_296 rfl (lv_at hl 1 rfl) ?_
                        refine va_get (D := G.1) (ci := 13) (v := .ref (q 23)) (C := r_13) (T := f_13) (N := 42) (ref := "PagedValuesModel") hx hb hts (fun w h => List.mem_cons_of_mem _ (ly_13 w h)) hown hK hP 0 rfl rfl 36 (by decide) (hts _ (List.mem_cons_of_mem _ k1187)) (fun _ h9 => h9) rfl d15_59_297 ?_
                        refine lv_iconst (v := 1) hx hb d15_59_300 (by decide) ?_
                        refine lv_iload hx hb d15_59_301 (lv_at hl 0 rfl) ?_
                        refine lv_isub hx hb d15_59_303 ?_
                        obtain ⟨y226, hr, h⟩ := ob h
                        refine lv_topi (fun y9 ey => ?_)
                        have e9 := ey.trans (Option.some.inj hr)
                        clear ey
                        subst y9
                        clear hr
                        obtain ⟨x227, hr, h⟩ := ob h
                        obtain ⟨hi, hv⟩ := rd_some hr
                        refine va_iald (D := G.1) hx hb hK hP 23 1 rfl rfl (i := y226) hi d15_59_304 ?_
                        refine lv_topi (fun y9 ey => ?_)
                        have e9 := ey.trans hv
                        clear ey
                        subst y9
                        clear hv hi hr
                        refine lv_iconst (v := 1) hx hb d15_59_305 (by decide) ?_
                        refine lv_iadd hx hb d15_59_306 ?_
                        obtain ⟨y228, hr, h⟩ := ob h
                        refine lv_topi (fun y9 ey => ?_)
                        have e9 := ey.trans (Option.some.inj hr)
                        clear ey
                        subst y9
                        clear hr
                        obtain ⟨k229z, hr, h⟩ := ob h
                        obtain ⟨hi, hk⟩ := ix_some hr
                        clear hr
                        refine va_iast (D := G.1) hx hb hK hP hD hS 23 1 rfl rfl (i := y225) (x := y228) hi d15_59_307 (fun H locs hP hD hS => ?_)
                        rw [hk] at hP hD
                        clear hk hi
                        have hP : va_P G.1 vwCl (wMs q G.2 (st219.1, st219.2.1, va_up st219.2.2.1 16 (upd (st219.2.2.1 16) k229z y228), st219.2.2.2)) H := hP
                        have hD : va_D A (wMs q G.2 (st219.1, st219.2.1, va_up st219.2.2.1 16 (upd (st219.2.2.1 16) k229z y228), st219.2.2.2)) := hD
                        refine lv_aload_n hx hb d15_59_308 rfl (lv_at hl 1 rfl) ?_
                        refine va_get (D := G.1) (ci := 13) (v := .ref (q 22)) (C := r_13) (T := f_13) (N := 42) (ref := "PagedValuesModel") hx hb hts (fun w h => List.mem_cons_of_mem _ (ly_13 w h)) hown hK hP 0 rfl rfl 35 (by decide) (hts _ (List.mem_cons_of_mem _ k1186)) (fun _ h9 => h9) rfl d15_59_309 ?_
                        refine lv_iload hx hb d15_59_312 (lv_at hl 0 rfl) ?_
                        refine lv_iload hx hb d15_59_314 (lv_at hl 9 rfl) ?_
                        obtain ⟨k230z, hr, h⟩ := ob h
                        obtain ⟨hi, hk⟩ := ix_some hr
                        clear hr
                        refine va_iast (D := G.1) hx hb hK hP hD hS 22 1 rfl rfl (i := y225) (x := e19) hi d15_59_316 (fun H locs hP hD hS => ?_)
                        rw [hk] at hP hD
                        clear hk hi
                        have hP : va_P G.1 vwCl (wMs q G.2 (st219.1, st219.2.1, va_up (va_up st219.2.2.1 16 (upd (st219.2.2.1 16) k229z y228)) 15 (upd (st219.2.2.1 15) k230z e19), st219.2.2.2)) H := hP
                        have hD : va_D A (wMs q G.2 (st219.1, st219.2.1, va_up (va_up st219.2.2.1 16 (upd (st219.2.2.1 16) k229z y228)) 15 (upd (st219.2.2.1 15) k230z e19), st219.2.2.2)) := hD
                        refine lv_aload_n hx hb d15_59_317 rfl (lv_at hl 1 rfl) ?_
                        obtain ⟨⟨x231, st232⟩, hc, h⟩ := ob h
                        refine sV_i (As := []) (rest := []) ⟨hx, hb, hml, hown, hts⟩ (cm_block l G Zd q (st219.1, st219.2.1, va_up (va_up st219.2.2.1 16 (upd (st219.2.2.1 16) k229z y228)) 15 (upd (st219.2.2.1 15) k230z e19), st219.2.2.2) x231 st232 hc _) (kw_V (n := 0) hts k1428 k1425 k15 k1427 ks65 (by decide +kernel) ⟨Nat.le_of_ble_eq_true rfl, Nat.le_of_ble_eq_true rfl⟩) hP hD hK hS hA hZ (va_recv (ci := 13) (q0 := 0) hK hP rfl rfl) rfl hl.1 rfl (Nat.le_of_ble_eq_true rfl) d15_59_318 ⟨Nat.le_of_ble_eq_true rfl, Nat.le_of_ble_eq_true rfl⟩ (fun rr u9 H locs hp hP hD hS => ?_)
                        clear u9
                        subst rr
                        clear hc
                        refine W.eq (g2 := F0 m 321 ls [.int x231]) rfl ?_
                        have hP : va_P G.1 vwCl (wMs q G.2 st232) H := hP
                        have hD : va_D A (wMs q G.2 st232) := hD
                        obtain ⟨e235, hX, h⟩ := ob h
                        have hj : ∀ (H : Heap) (locs : List Loc) (ls : Array Slot), lv_has ls 10 [(0, .ref (q 0)), (1, .int a0), (2, .int a1), (3, .int x4), (4, .int y5), (5, .int v11), (6, .int v12), (7, .int e15), (8, .int e19), (9, .int y225)] → va_P G.1 vwCl (wMs q G.2 st232) H → va_D A (wMs q G.2 st232) → va_S A s.heap H locs → W p l e (rmD 3 0 0) s m ([.ref (q 0), .int a0, .int a1] : List Value).toArray below meth c H locs 0 0 (MQ below (qI G (fun rr (_ : Unit) => rr = r0) (fun _ => (wMs q G.2 st0)) A) ([.ref (q 0), .int a0, .int a1] : List Value).toArray s 0 0 A) (F0 m 330 ls [.int e235]) := by
                          intro H locs ls hl hP hD hS
                          cases h
                          exact fin_i hx hb hr hlk hS () rfl hP hD (Nat.le_of_ble_eq_true rfl) (Nat.le_of_ble_eq_true rfl) d15_59_330
                        clear h
                        refine lv_if_eq (tgt := 328) hx hb d15_59_321 rfl (fun c234 => ?_) (fun c234 => ?_)
                        ·
                          replace h := (if_pos c234).symm.trans hX
                          refine lv_bipush (v := (-9)) hx hb d15_59_328 (by decide) ?_
                          have e9 := Option.some.inj h
                          subst e235
                          have hl := lv_sub hl (l' := [(0, .ref (q 0)), (1, .int a0), (2, .int a1), (3, .int x4), (4, .int y5), (5, .int v11), (6, .int v12), (7, .int e15), (8, .int e19), (9, .int y225)]) [1, 2, 3, 4, 5, 6, 7, 8, 9, 0] rfl
                          exact hj _ _ _ hl hP hD hS
                        ·
                          replace h := (if_neg c234).symm.trans hX
                          refine lv_iconst (v := 0) hx hb d15_59_324 (by decide) ?_
                          refine lv_goto (tgt := 330) hx hb d15_59_325 rfl ?_
                          have e9 := Option.some.inj h
                          subst e235
                          have hl := lv_sub hl (l' := [(0, .ref (q 0)), (1, .int a0), (2, .int a1), (3, .int x4), (4, .int y5), (5, .int v11), (6, .int v12), (7, .int e15), (8, .int e19), (9, .int y225)]) [1, 2, 3, 4, 5, 6, 7, 8, 9, 0] rfl
                          exact hj _ _ _ hl hP hD hS
                      ·
                        replace h := (if_pos c221).symm.trans h
                        refine lv_bipush (v := (-9)) hx hb d15_59_279 (by decide) ?_
                        cases h
                        exact fin_i hx hb hr hlk hS () rfl hP hD (Nat.le_of_ble_eq_true rfl) (Nat.le_of_ble_eq_true rfl) d15_59_281
                    clear h
                    refine lv_if_ge (tgt := 258) hx hb d15_59_251 rfl (fun c214 => ?_) (fun c214 => ?_)
                    ·
                      replace h := (if_pos c214).symm.trans hX
                      refine lv_aload_n hx hb d15_59_258 rfl (lv_at hl 1 rfl) ?_
                      refine va_get (D := G.1) (ci := 13) (v := .ref (q 20)) (C := r_13) (T := f_13) (N := 42) (ref := "PagedValuesModel") hx hb hts (fun w h => List.mem_cons_of_mem _ (ly_13 w h)) hown hK hP 0 rfl rfl 33 (by decide) (hts _ (List.mem_cons_of_mem _ k1184)) (fun _ h9 => h9) rfl d15_59_259 ?_
                      refine lv_iconst (v := 2) hx hb d15_59_262 (by decide) ?_
                      refine lv_iload_n hx hb d15_59_263 rfl (lv_at hl 4 rfl) ?_
                      refine lv_imul hx hb d15_59_264 ?_
                      obtain ⟨y237, hr, h⟩ := ob h
                      refine lv_topi (fun y9 ey => ?_)
                      have e9 := ey.trans (Option.some.inj hr)
                      clear ey
                      subst y9
                      clear hr
                      refine lv_iconst (v := 1) hx hb d15_59_265 (by decide) ?_
                      refine lv_iadd hx hb d15_59_266 ?_
                      obtain ⟨y238, hr, h⟩ := ob h
                      refine lv_topi (fun y9 ey => ?_)
                      have e9 := ey.trans (Option.some.inj hr)
                      clear ey
                      subst y9
                      clear hr
                      refine lv_iload hx hb d15_59_267 (lv_at hl 5 rfl) ?_
                      refine lv_isub hx hb d15_59_269 ?_
                      obtain ⟨y239, hr, h⟩ := ob h
                      refine lv_topi (fun y9 ey => ?_)
                      have e9 := ey.trans (Option.some.inj hr)
                      clear ey
                      subst y9
                      clear hr
                      obtain ⟨x240, hr, h⟩ := ob h
                      obtain ⟨hi, hv⟩ := rd_some hr
                      refine va_iald (D := G.1) hx hb hK hP 20 1 rfl rfl (i := y239) hi d15_59_270 ?_
                      refine lv_topi (fun y9 ey => ?_)
                      have e9 := ey.trans hv
                      clear ey
                      subst y9
                      clear hv hi hr
                      have e9 := Option.some.inj h
                      subst e215
                      have hl := lv_sub hl (l' := [(0, .ref (q 0)), (1, .int a0), (2, .int a1), (3, .int x4), (4, .int y5), (5, .int v11), (6, .int v12), (7, .int e15), (8, .int e19)]) [1, 2, 3, 4, 5, 6, 7, 8, 0] rfl
                      exact hj _ _ _ hl hP hD hS
                    ·
                      replace h := (if_neg c214).symm.trans hX
                      refine lv_iconst (v := (-1)) hx hb d15_59_254 (by decide) ?_
                      refine lv_goto (tgt := 271) hx hb d15_59_255 rfl ?_
                      have e9 := Option.some.inj h
                      subst e215
                      have hl := lv_sub hl (l' := [(0, .ref (q 0)), (1, .int a0), (2, .int a1), (3, .int x4), (4, .int y5), (5, .int v11), (6, .int v12), (7, .int e15), (8, .int e19)]) [1, 2, 3, 4, 5, 6, 7, 8, 0] rfl
                      exact hj _ _ _ hl hP hD hS
                ·
                  replace h := (if_pos c190).symm.trans h
                  refine lv_bipush (v := (-9)) hx hb d15_59_207 (by decide) ?_
                  cases h
                  exact fin_i hx hb hr hlk hS () rfl hP hD (Nat.le_of_ble_eq_true rfl) (Nat.le_of_ble_eq_true rfl) d15_59_209
            ·
              replace h := (if_neg c132).symm.trans h
              refine lv_bipush (v := (-2)) hx hb d15_59_181 (by decide) ?_
              cases h
              exact fin_i hx hb hr hlk hS () rfl hP hD (Nat.le_of_ble_eq_true rfl) (Nat.le_of_ble_eq_true rfl) d15_59_183
        ·
          replace h := (if_neg c21).symm.trans h
          refine lv_iload hx hb d15_59_163 (lv_at hl 8 rfl) ?_
          refine lv_if_lt (tgt := 181) hx hb d15_59_165 rfl (fun c241 => ?_) (fun c241 => ?_)
          ·
            replace h := (if_pos c241).symm.trans h
            refine lv_bipush (v := (-2)) hx hb d15_59_181 (by decide) ?_
            cases h
            exact fin_i hx hb hr hlk hS () rfl hP hD (Nat.le_of_ble_eq_true rfl) (Nat.le_of_ble_eq_true rfl) d15_59_183
          ·
            replace h := (if_neg c241).symm.trans h
            refine lv_iload hx hb d15_59_168 (lv_at hl 6 rfl) ?_
            refine lv_iload hx hb d15_59_170 (lv_at hl 7 rfl) ?_
            refine lv_iadd hx hb d15_59_172 ?_
            obtain ⟨y242, hr, h⟩ := ob h
            refine lv_topi (fun y9 ey => ?_)
            have e9 := ey.trans (Option.some.inj hr)
            clear ey
            subst y9
            clear hr
            refine lv_if_le (tgt := 184) hx hb d15_59_173 rfl (fun c243 => ?_) (fun c243 => ?_)
            ·
              replace h := (if_pos c243).symm.trans h
              refine lv_iload hx hb d15_59_184 (lv_at hl 6 rfl) ?_
              refine lv_if_le (tgt := 210) hx hb d15_59_186 rfl (fun c244 => ?_) (fun c244 => ?_)
              ·
                replace h := (if_pos c244).symm.trans h
                refine lv_iload hx hb d15_59_210 (lv_at hl 0 rfl) ?_
                refine lv_if_lt (tgt := 282) hx hb d15_59_212 rfl (fun c245 => ?_) (fun c245 => ?_)
                ·
                  replace h := (if_pos c245).symm.trans h
                  refine lv_iconst (v := 1) hx hb d15_59_282 (by decide) ?_
                  refine lv_aload_n hx hb d15_59_283 rfl (lv_at hl 1 rfl) ?_
                  obtain ⟨x246, hc, h⟩ := ob h
                  refine sV_i (As := []) (rest := [.int 1]) ⟨hx, hb, hml, hown, hts⟩ (cm_current l G Zd q st x246 hc _) (kw_V (n := 0) hts k1396 k1393 k15 k1395 ks57 (by decide +kernel) ⟨Nat.le_of_ble_eq_true rfl, Nat.le_of_ble_eq_true rfl⟩) hP hD hK hS hA hZ (va_recv (ci := 13) (q0 := 0) hK hP rfl rfl) rfl hl.1 rfl (Nat.le_of_ble_eq_true rfl) d15_59_284 ⟨Nat.le_of_ble_eq_true rfl, Nat.le_of_ble_eq_true rfl⟩ (fun rr u9 H locs hp hP hD hS => ?_)
                  clear u9
                  subst rr
                  clear hc
                  refine W.eq (g2 := F0 m 287 ls [.int x246, .int 1]) rfl ?_
                  have hP : va_P G.1 vwCl (wMs q G.2 st) H := hP
                  have hD : va_D A (wMs q G.2 st) := hD
                  refine lv_isub hx hb d15_59_287 ?_
                  obtain ⟨y249, hr, h⟩ := ob h
                  refine lv_topi (fun y9 ey => ?_)
                  have e9 := ey.trans (Option.some.inj hr)
                  clear ey
                  subst y9
                  clear hr
                  refine lv_istore (lv' := [(9, .int y249), (8, .int e19), (0, .ref (q 0)), (1, .int a0), (2, .int a1), (3, .int x4), (4, .int y5), (5, .int v11), (6, .int v12), (7, .int e15)]) hx hb d15_59_288 hl (by decide) rfl (fun ls hl => ?_)
                  refine lv_aload_n hx hb d15_59_290 rfl (lv_at hl 2 rfl) ?_
                  refine va_get (D := G.1) (ci := 13) (v := .ref (q 23)) (C := r_13) (T := f_13) (N := 42) (ref := "PagedValuesModel") hx hb hts (fun w h => List.mem_cons_of_mem _ (ly_13 w h)) hown hK hP 0 rfl rfl 36 (by decide) (hts _ (List.mem_cons_of_mem _ k1187)) (fun _ h9 => h9) rfl d15_59_291 ?_
                  refine lv_iload hx hb d15_59_294 (lv_at hl 0 rfl) ?_
                  refine lv_aload_n hx hb d15_59_296 rfl (lv_at hl 2 rfl) ?_
                  refine va_get (D := G.1) (ci := 13) (v := .ref (q 23)) (C := r_13) (T := f_13) (N := 42) (ref := "PagedValuesModel") hx hb hts (fun w h => List.mem_cons_of_mem _ (ly_13 w h)) hown hK hP 0 rfl rfl 36 (by decide) (hts _ (List.mem_cons_of_mem _ k1187)) (fun _ h9 => h9) rfl d15_59_297 ?_
                  refine lv_iconst (v := 1) hx hb d15_59_300 (by decide) ?_
                  refine lv_iload hx hb d15_59_301 (lv_at hl 0 rfl) ?_
                  refine lv_isub hx hb d15_59_303 ?_
                  obtain ⟨y250, hr, h⟩ := ob h
                  refine lv_topi (fun y9 ey => ?_)
                  have e9 := ey.trans (Option.some.inj hr)
                  clear ey
                  subst y9
                  clear hr
                  obtain ⟨x251, hr, h⟩ := ob h
                  obtain ⟨hi, hv⟩ := rd_some hr
                  refine va_iald (D := G.1) hx hb hK hP 23 1 rfl rfl (i := y250) hi d15_59_304 ?_
                  refine lv_topi (fun y9 ey => ?_)
                  have e9 := ey.trans hv
                  clear ey
                  subst y9
                  clear hv hi hr
                  refine lv_iconst (v := 1) hx hb d15_59_305 (by decide) ?_
                  refine lv_iadd hx hb d15_59_306 ?_
                  obtain ⟨y252, hr, h⟩ := ob h
                  refine lv_topi (fun y9 ey => ?_)
                  have e9 := ey.trans (Option.some.inj hr)
                  clear ey
                  subst y9
                  clear hr
                  obtain ⟨k253z, hr, h⟩ := ob h
                  obtain ⟨hi, hk⟩ := ix_some hr
                  clear hr
                  refine va_iast (D := G.1) hx hb hK hP hD hS 23 1 rfl rfl (i := y249) (x := y252) hi d15_59_307 (fun H locs hP hD hS => ?_)
                  rw [hk] at hP hD
                  clear hk hi
                  have hP : va_P G.1 vwCl (wMs q G.2 (st.1, st.2.1, va_up st.2.2.1 16 (upd (st.2.2.1 16) k253z y252), st.2.2.2)) H := hP
                  have hD : va_D A (wMs q G.2 (st.1, st.2.1, va_up st.2.2.1 16 (upd (st.2.2.1 16) k253z y252), st.2.2.2)) := hD
                  refine lv_aload_n hx hb d15_59_308 rfl (lv_at hl 2 rfl) ?_
                  refine va_get (D := G.1) (ci := 13) (v := .ref (q 22)) (C := r_13) (T := f_13) (N := 42) (ref := "PagedValuesModel") hx hb hts (fun w h => List.mem_cons_of_mem _ (ly_13 w h)) hown hK hP 0 rfl rfl 35 (by decide) (hts _ (List.mem_cons_of_mem _ k1186)) (fun _ h9 => h9) rfl d15_59_309 ?_
                  refine lv_iload hx hb d15_59_312 (lv_at hl 0 rfl) ?_
                  refine lv_iload hx hb d15_59_314 (lv_at hl 1 rfl) ?_
                  obtain ⟨k254z, hr, h⟩ := ob h
                  obtain ⟨hi, hk⟩ := ix_some hr
                  clear hr
                  refine va_iast (D := G.1) hx hb hK hP hD hS 22 1 rfl rfl (i := y249) (x := e19) hi d15_59_316 (fun H locs hP hD hS => ?_)
                  rw [hk] at hP hD
                  clear hk hi
                  have hP : va_P G.1 vwCl (wMs q G.2 (st.1, st.2.1, va_up (va_up st.2.2.1 16 (upd (st.2.2.1 16) k253z y252)) 15 (upd (st.2.2.1 15) k254z e19), st.2.2.2)) H := hP
                  have hD : va_D A (wMs q G.2 (st.1, st.2.1, va_up (va_up st.2.2.1 16 (upd (st.2.2.1 16) k253z y252)) 15 (upd (st.2.2.1 15) k254z e19), st.2.2.2)) := hD
                  refine lv_aload_n hx hb d15_59_317 rfl (lv_at hl 2 rfl) ?_
                  obtain ⟨⟨x255, st256⟩, hc, h⟩ := ob h
                  refine sV_i (As := []) (rest := []) ⟨hx, hb, hml, hown, hts⟩ (cm_block l G Zd q (st.1, st.2.1, va_up (va_up st.2.2.1 16 (upd (st.2.2.1 16) k253z y252)) 15 (upd (st.2.2.1 15) k254z e19), st.2.2.2) x255 st256 hc _) (kw_V (n := 0) hts k1428 k1425 k15 k1427 ks65 (by decide +kernel) ⟨Nat.le_of_ble_eq_true rfl, Nat.le_of_ble_eq_true rfl⟩) hP hD hK hS hA hZ (va_recv (ci := 13) (q0 := 0) hK hP rfl rfl) rfl hl.1 rfl (Nat.le_of_ble_eq_true rfl) d15_59_318 ⟨Nat.le_of_ble_eq_true rfl, Nat.le_of_ble_eq_true rfl⟩ (fun rr u9 H locs hp hP hD hS => ?_)
                  clear u9
                  subst rr
                  clear hc
                  refine W.eq (g2 := F0 m 321 ls [.int x255]) rfl ?_
                  have hP : va_P G.1 vwCl (wMs q G.2 st256) H := hP
                  have hD : va_D A (wMs q G.2 st256) := hD
                  obtain ⟨e259, hX, h⟩ := ob h
                  have hj : ∀ (H : Heap) (locs : List Loc) (ls : Array Slot), lv_has ls 10 [(0, .ref (q 0)), (1, .int a0), (2, .int a1), (3, .int x4), (4, .int y5), (5, .int v11), (6, .int v12), (7, .int e15), (8, .int e19), (9, .int y249)] → va_P G.1 vwCl (wMs q G.2 st256) H → va_D A (wMs q G.2 st256) → va_S A s.heap H locs → W p l e (rmD 3 0 0) s m ([.ref (q 0), .int a0, .int a1] : List Value).toArray below meth c H locs 0 0 (MQ below (qI G (fun rr (_ : Unit) => rr = r0) (fun _ => (wMs q G.2 st0)) A) ([.ref (q 0), .int a0, .int a1] : List Value).toArray s 0 0 A) (F0 m 330 ls [.int e259]) := by
                    intro H locs ls hl hP hD hS
                    cases h
                    exact fin_i hx hb hr hlk hS () rfl hP hD (Nat.le_of_ble_eq_true rfl) (Nat.le_of_ble_eq_true rfl) d15_59_330
                  clear h
                  refine lv_if_eq (tgt := 328) hx hb d15_59_321 rfl (fun c258 => ?_) (fun c258 => ?_)
                  ·
                    replace h := (if_pos c258).symm.trans hX
                    refine lv_bipush (v := (-9)) hx hb d15_59_328 (by decide) ?_
                    have e9 := Option.some.inj h
                    subst e259
                    have hl := lv_sub hl (l' := [(0, .ref (q 0)), (1, .int a0), (2, .int a1), (3, .int x4), (4, .int y5), (5, .int v11), (6, .int v12), (7, .int e15), (8, .int e19), (9, .int y249)]) [2, 3, 4, 5, 6, 7, 8, 9, 1, 0] rfl
                    exact hj _ _ _ hl hP hD hS
                  ·
                    replace h := (if_neg c258).symm.trans hX
                    refine lv_iconst (v := 0) hx hb d15_59_324 (by decide) ?_
                    refine lv_goto (tgt := 330) hx hb d15_59_325 rfl ?_
                    have e9 := Option.some.inj h
                    subst e259
                    have hl := lv_sub hl (l' := [(0, .ref (q 0)), (1, .int a0), (2, .int a1), (3, .int x4), (4, .int y5), (5, .int v11), (6, .int v12), (7, .int e15), (8, .int e19), (9, .int y249)]) [2, 3, 4, 5, 6, 7, 8, 9, 1, 0] rfl
                    exact hj _ _ _ hl hP hD hS
                ·
                  replace h := (if_neg c245).symm.trans h
                  refine lv_aload_n hx hb d15_59_215 rfl (lv_at hl 1 rfl) ?_
                  refine va_get (D := G.1) (ci := 13) (v := .ref (q 19)) (C := r_13) (T := f_13) (N := 42) (ref := "PagedValuesModel") hx hb hts (fun w h => List.mem_cons_of_mem _ (ly_13 w h)) hown hK hP 0 rfl rfl 32 (by decide) (hts _ (List.mem_cons_of_mem _ k1183)) (fun _ h9 => h9) rfl d15_59_216 ?_
                  refine lv_iload hx hb d15_59_219 (lv_at hl 0 rfl) ?_
                  refine lv_iconst (v := 1) hx hb d15_59_221 (by decide) ?_
                  obtain ⟨k261z, hr, h⟩ := ob h
                  obtain ⟨hi, hk⟩ := ix_some hr
                  clear hr
                  refine va_iast (D := G.1) hx hb hK hP hD hS 19 1 rfl rfl (i := e19) (x := (1 : Int32)) hi d15_59_222 (fun H locs hP hD hS => ?_)
                  rw [hk] at hP hD
                  clear hk hi
                  have hP : va_P G.1 vwCl (wMs q G.2 (st.1, st.2.1, va_up st.2.2.1 12 (upd (st.2.2.1 12) k261z (1 : Int32)), st.2.2.2)) H := hP
                  have hD : va_D A (wMs q G.2 (st.1, st.2.1, va_up st.2.2.1 12 (upd (st.2.2.1 12) k261z (1 : Int32)), st.2.2.2)) := hD
                  refine lv_aload_n hx hb d15_59_223 rfl (lv_at hl 1 rfl) ?_
                  refine va_get (D := G.1) (ci := 13) (v := .ref (q 20)) (C := r_13) (T := f_13) (N := 42) (ref := "PagedValuesModel") hx hb hts (fun w h => List.mem_cons_of_mem _ (ly_13 w h)) hown hK hP 0 rfl rfl 33 (by decide) (hts _ (List.mem_cons_of_mem _ k1184)) (fun _ h9 => h9) rfl d15_59_224 ?_
                  refine lv_iconst (v := 2) hx hb d15_59_227 (by decide) ?_
                  refine lv_iload hx hb d15_59_228 (lv_at hl 0 rfl) ?_
                  refine lv_imul hx hb d15_59_230 ?_
                  obtain ⟨y262, hr, h⟩ := ob h
                  refine lv_topi (fun y9 ey => ?_)
                  have e9 := ey.trans (Option.some.inj hr)
                  clear ey
                  subst y9
                  clear hr
                  refine lv_iload hx hb d15_59_231 (lv_at hl 5 rfl) ?_
                  refine lv_iadd hx hb d15_59_233 ?_
                  obtain ⟨y263, hr, h⟩ := ob h
                  refine lv_topi (fun y9 ey => ?_)
                  have e9 := ey.trans (Option.some.inj hr)
                  clear ey
                  subst y9
                  clear hr
                  refine lv_iload hx hb d15_59_234 (lv_at hl 8 rfl) ?_
                  obtain ⟨k264z, hr, h⟩ := ob h
                  obtain ⟨hi, hk⟩ := ix_some hr
                  clear hr
                  refine va_iast (D := G.1) hx hb hK hP hD hS 20 1 rfl rfl (i := y263) (x := e15) hi d15_59_236 (fun H locs hP hD hS => ?_)
                  rw [hk] at hP hD
                  clear hk hi
                  have hP : va_P G.1 vwCl (wMs q G.2 (st.1, st.2.1, va_up (va_up st.2.2.1 12 (upd (st.2.2.1 12) k261z (1 : Int32))) 13 (upd (st.2.2.1 13) k264z e15), st.2.2.2)) H := hP
                  have hD : va_D A (wMs q G.2 (st.1, st.2.1, va_up (va_up st.2.2.1 12 (upd (st.2.2.1 12) k261z (1 : Int32))) 13 (upd (st.2.2.1 13) k264z e15), st.2.2.2)) := hD
                  refine lv_aload_n hx hb d15_59_237 rfl (lv_at hl 1 rfl) ?_
                  refine va_get (D := G.1) (ci := 13) (v := .ref (q 20)) (C := r_13) (T := f_13) (N := 42) (ref := "PagedValuesModel") hx hb hts (fun w h => List.mem_cons_of_mem _ (ly_13 w h)) hown hK hP 0 rfl rfl 33 (by decide) (hts _ (List.mem_cons_of_mem _ k1184)) (fun _ h9 => h9) rfl d15_59_238 ?_
                  refine lv_iconst (v := 2) hx hb d15_59_241 (by decide) ?_
                  refine lv_iload hx hb d15_59_242 (lv_at hl 0 rfl) ?_
                  refine lv_imul hx hb d15_59_244 ?_
                  obtain ⟨y265, hr, h⟩ := ob h
                  refine lv_topi (fun y9 ey => ?_)
                  have e9 := ey.trans (Option.some.inj hr)
                  clear ey
                  subst y9
                  clear hr
                  refine lv_iconst (v := 1) hx hb d15_59_245 (by decide) ?_
                  refine lv_iadd hx hb d15_59_246 ?_
                  obtain ⟨y266, hr, h⟩ := ob h
                  refine lv_topi (fun y9 ey => ?_)
                  have e9 := ey.trans (Option.some.inj hr)
                  clear ey
                  subst y9
                  clear hr
                  refine lv_iload hx hb d15_59_247 (lv_at hl 5 rfl) ?_
                  refine lv_isub hx hb d15_59_249 ?_
                  obtain ⟨y267, hr, h⟩ := ob h
                  refine lv_topi (fun y9 ey => ?_)
                  have e9 := ey.trans (Option.some.inj hr)
                  clear ey
                  subst y9
                  clear hr
                  refine lv_iload_n hx hb d15_59_250 rfl (lv_at hl 4 rfl) ?_
                  obtain ⟨e269, hX, h⟩ := ob h
                  have hj : ∀ (H : Heap) (locs : List Loc) (ls : Array Slot), lv_has ls 10 [(0, .ref (q 0)), (1, .int a0), (2, .int a1), (3, .int x4), (4, .int y5), (5, .int v11), (6, .int v12), (7, .int e15), (8, .int e19)] → va_P G.1 vwCl (wMs q G.2 (st.1, st.2.1, va_up (va_up st.2.2.1 12 (upd (st.2.2.1 12) k261z (1 : Int32))) 13 (upd (st.2.2.1 13) k264z e15), st.2.2.2)) H → va_D A (wMs q G.2 (st.1, st.2.1, va_up (va_up st.2.2.1 12 (upd (st.2.2.1 12) k261z (1 : Int32))) 13 (upd (st.2.2.1 13) k264z e15), st.2.2.2)) → va_S A s.heap H locs → W p l e (rmD 3 0 0) s m ([.ref (q 0), .int a0, .int a1] : List Value).toArray below meth c H locs 0 0 (MQ below (qI G (fun rr (_ : Unit) => rr = r0) (fun _ => (wMs q G.2 st0)) A) ([.ref (q 0), .int a0, .int a1] : List Value).toArray s 0 0 A) (F0 m 271 ls [.int e269, .int y267, .ref (q 20)]) := by
                    intro H locs ls hl hP hD hS
                    obtain ⟨k271z, hr, h⟩ := ob h
                    obtain ⟨hi, hk⟩ := ix_some hr
                    clear hr
                    refine va_iast (D := G.1) hx hb hK hP hD hS 20 1 rfl rfl (i := y267) (x := e269) hi d15_59_271 (fun H locs hP hD hS => ?_)
                    rw [hk] at hP hD
                    clear hk hi
                    have hP : va_P G.1 vwCl (wMs q G.2 (st.1, st.2.1, va_up (va_up st.2.2.1 12 (upd (st.2.2.1 12) k261z (1 : Int32))) 13 (upd (upd (st.2.2.1 13) k264z e15) k271z e269), st.2.2.2)) H := hP
                    have hD : va_D A (wMs q G.2 (st.1, st.2.1, va_up (va_up st.2.2.1 12 (upd (st.2.2.1 12) k261z (1 : Int32))) 13 (upd (upd (st.2.2.1 13) k264z e15) k271z e269), st.2.2.2)) := hD
                    refine lv_aload_n hx hb d15_59_272 rfl (lv_at hl 0 rfl) ?_
                    obtain ⟨⟨x272, st273⟩, hc, h⟩ := ob h
                    refine sV_i (As := []) (rest := []) ⟨hx, hb, hml, hown, hts⟩ (cm_block l G Zd q (st.1, st.2.1, va_up (va_up st.2.2.1 12 (upd (st.2.2.1 12) k261z (1 : Int32))) 13 (upd (upd (st.2.2.1 13) k264z e15) k271z e269), st.2.2.2) x272 st273 hc _) (kw_V (n := 0) hts k1428 k1425 k15 k1427 ks65 (by decide +kernel) ⟨Nat.le_of_ble_eq_true rfl, Nat.le_of_ble_eq_true rfl⟩) hP hD hK hS hA hZ (va_recv (ci := 13) (q0 := 0) hK hP rfl rfl) rfl hl.1 rfl (Nat.le_of_ble_eq_true rfl) d15_59_273 ⟨Nat.le_of_ble_eq_true rfl, Nat.le_of_ble_eq_true rfl⟩ (fun rr u9 H locs hp hP hD hS => ?_)
                    clear u9
                    subst rr
                    clear hc
                    refine W.eq (g2 := F0 m 276 ls [.int x272]) rfl ?_
                    have hP : va_P G.1 vwCl (wMs q G.2 st273) H := hP
                    have hD : va_D A (wMs q G.2 st273) := hD
                    refine lv_if_ne (tgt := 282) hx hb d15_59_276 rfl (fun c275 => ?_) (fun c275 => ?_)
                    ·
                      replace h := (if_neg c275).symm.trans h
                      refine lv_iconst (v := 1) hx hb d15_59_282 (by decide) ?_
                      refine lv_aload_n hx hb d15_59_283 rfl (lv_at hl 0 rfl) ?_
                      obtain ⟨x276, hc, h⟩ := ob h
                      refine sV_i (As := []) (rest := [.int 1]) ⟨hx, hb, hml, hown, hts⟩ (cm_current l G Zd q st273 x276 hc _) (kw_V (n := 0) hts k1396 k1393 k15 k1395 ks57 (by decide +kernel) ⟨Nat.le_of_ble_eq_true rfl, Nat.le_of_ble_eq_true rfl⟩) hP hD hK hS hA hZ (va_recv (ci := 13) (q0 := 0) hK hP rfl rfl) rfl hl.1 rfl (Nat.le_of_ble_eq_true rfl) d15_59_284 ⟨Nat.le_of_ble_eq_true rfl, Nat.le_of_ble_eq_true rfl⟩ (fun rr u9 H locs hp hP hD hS => ?_)
                      clear u9
                      subst rr
                      clear hc
                      refine W.eq (g2 := F0 m 287 ls [.int x276, .int 1]) rfl ?_
                      have hP : va_P G.1 vwCl (wMs q G.2 st273) H := hP
                      have hD : va_D A (wMs q G.2 st273) := hD
                      refine lv_isub hx hb d15_59_287 ?_
                      obtain ⟨y279, hr, h⟩ := ob h
                      refine lv_topi (fun y9 ey => ?_)
                      have e9 := ey.trans (Option.some.inj hr)
                      clear ey
                      subst y9
                      clear hr
                      refine lv_istore (lv' := [(9, .int y279), (0, .ref (q 0)), (1, .int a0), (2, .int a1), (3, .int x4), (4, .int y5), (5, .int v11), (6, .int v12), (7, .int e15), (8, .int e19)]) hx hb d15_59_288 hl (by decide) rfl (fun ls hl => ?_)
                      refine lv_aload_n hx hb d15_59_290 rfl (lv_at hl 1 rfl) ?_
                      refine va_get (D := G.1) (ci := 13) (v := .ref (q 23)) (C := r_13) (T := f_13) (N := 42) (ref := "PagedValuesModel") hx hb hts (fun w h => List.mem_cons_of_mem _ (ly_13 w h)) hown hK hP 0 rfl rfl 36 (by decide) (hts _ (List.mem_cons_of_mem _ k1187)) (fun _ h9 => h9) rfl d15_59_291 ?_
                      refine lv_iload hx hb d15_59_294 (lv_at hl 0 rfl) ?_
                      refine lv_aload_n hx hb d15_59_296 rfl (lv_at hl 1 rfl) ?_
                      refine va_get (D := G.1) (ci := 13) (v := .ref (q 23)) (C := r_13) (T := f_13) (N := 42) (ref := "PagedValuesModel") hx hb hts (fun w h => List.mem_cons_of_mem _ (ly_13 w h)) hown hK hP 0 rfl rfl 36 (by decide) (hts _ (List.mem_cons_of_mem _ k1187)) (fun _ h9 => h9) rfl d15_59_297 ?_
                      refine lv_iconst (v := 1) hx hb d15_59_300 (by decide) ?_
                      refine lv_iload hx hb d15_59_301 (lv_at hl 0 rfl) ?_
                      refine lv_isub hx hb d15_59_303 ?_
                      obtain ⟨y280, hr, h⟩ := ob h
                      refine lv_topi (fun y9 ey => ?_)
                      have e9 := ey.trans (Option.some.inj hr)
                      clear ey
                      subst y9
                      clear hr
                      obtain ⟨x281, hr, h⟩ := ob h
                      obtain ⟨hi, hv⟩ := rd_some hr
                      refine va_iald (D := G.1) hx hb hK hP 23 1 rfl rfl (i := y280) hi d15_59_304 ?_
                      refine lv_topi (fun y9 ey => ?_)
                      have e9 := ey.trans hv
                      clear ey
                      subst y9
                      clear hv hi hr
                      refine lv_iconst (v := 1) hx hb d15_59_305 (by decide) ?_
                      refine lv_iadd hx hb d15_59_306 ?_
                      obtain ⟨y282, hr, h⟩ := ob h
                      refine lv_topi (fun y9 ey => ?_)
                      have e9 := ey.trans (Option.some.inj hr)
                      clear ey
                      subst y9
                      clear hr
                      obtain ⟨k283z, hr, h⟩ := ob h
                      obtain ⟨hi, hk⟩ := ix_some hr
                      clear hr
                      refine va_iast (D := G.1) hx hb hK hP hD hS 23 1 rfl rfl (i := y279) (x := y282) hi d15_59_307 (fun H locs hP hD hS => ?_)
                      rw [hk] at hP hD
                      clear hk hi
                      have hP : va_P G.1 vwCl (wMs q G.2 (st273.1, st273.2.1, va_up st273.2.2.1 16 (upd (st273.2.2.1 16) k283z y282), st273.2.2.2)) H := hP
                      have hD : va_D A (wMs q G.2 (st273.1, st273.2.1, va_up st273.2.2.1 16 (upd (st273.2.2.1 16) k283z y282), st273.2.2.2)) := hD
                      refine lv_aload_n hx hb d15_59_308 rfl (lv_at hl 1 rfl) ?_
                      refine va_get (D := G.1) (ci := 13) (v := .ref (q 22)) (C := r_13) (T := f_13) (N := 42) (ref := "PagedValuesModel") hx hb hts (fun w h => List.mem_cons_of_mem _ (ly_13 w h)) hown hK hP 0 rfl rfl 35 (by decide) (hts _ (List.mem_cons_of_mem _ k1186)) (fun _ h9 => h9) rfl d15_59_309 ?_
                      refine lv_iload hx hb d15_59_312 (lv_at hl 0 rfl) ?_
                      refine lv_iload hx hb d15_59_314 (lv_at hl 9 rfl) ?_
                      obtain ⟨k284z, hr, h⟩ := ob h
                      obtain ⟨hi, hk⟩ := ix_some hr
                      clear hr
                      refine va_iast (D := G.1) hx hb hK hP hD hS 22 1 rfl rfl (i := y279) (x := e19) hi d15_59_316 (fun H locs hP hD hS => ?_)
                      rw [hk] at hP hD
                      clear hk hi
                      have hP : va_P G.1 vwCl (wMs q G.2 (st273.1, st273.2.1, va_up (va_up st273.2.2.1 16 (upd (st273.2.2.1 16) k283z y282)) 15 (upd (st273.2.2.1 15) k284z e19), st273.2.2.2)) H := hP
                      have hD : va_D A (wMs q G.2 (st273.1, st273.2.1, va_up (va_up st273.2.2.1 16 (upd (st273.2.2.1 16) k283z y282)) 15 (upd (st273.2.2.1 15) k284z e19), st273.2.2.2)) := hD
                      refine lv_aload_n hx hb d15_59_317 rfl (lv_at hl 1 rfl) ?_
                      obtain ⟨⟨x285, st286⟩, hc, h⟩ := ob h
                      refine sV_i (As := []) (rest := []) ⟨hx, hb, hml, hown, hts⟩ (cm_block l G Zd q (st273.1, st273.2.1, va_up (va_up st273.2.2.1 16 (upd (st273.2.2.1 16) k283z y282)) 15 (upd (st273.2.2.1 15) k284z e19), st273.2.2.2) x285 st286 hc _) (kw_V (n := 0) hts k1428 k1425 k15 k1427 ks65 (by decide +kernel) ⟨Nat.le_of_ble_eq_true rfl, Nat.le_of_ble_eq_true rfl⟩) hP hD hK hS hA hZ (va_recv (ci := 13) (q0 := 0) hK hP rfl rfl) rfl hl.1 rfl (Nat.le_of_ble_eq_true rfl) d15_59_318 ⟨Nat.le_of_ble_eq_true rfl, Nat.le_of_ble_eq_true rfl⟩ (fun rr u9 H locs hp hP hD hS => ?_)
                      clear u9
                      subst rr
                      clear hc
                      refine W.eq (g2 := F0 m 321 ls [.int x285]) rfl ?_
                      have hP : va_P G.1 vwCl (wMs q G.2 st286) H := hP
                      have hD : va_D A (wMs q G.2 st286) := hD
                      obtain ⟨e289, hX, h⟩ := ob h
                      have hj : ∀ (H : Heap) (locs : List Loc) (ls : Array Slot), lv_has ls 10 [(0, .ref (q 0)), (1, .int a0), (2, .int a1), (3, .int x4), (4, .int y5), (5, .int v11), (6, .int v12), (7, .int e15), (8, .int e19), (9, .int y279)] → va_P G.1 vwCl (wMs q G.2 st286) H → va_D A (wMs q G.2 st286) → va_S A s.heap H locs → W p l e (rmD 3 0 0) s m ([.ref (q 0), .int a0, .int a1] : List Value).toArray below meth c H locs 0 0 (MQ below (qI G (fun rr (_ : Unit) => rr = r0) (fun _ => (wMs q G.2 st0)) A) ([.ref (q 0), .int a0, .int a1] : List Value).toArray s 0 0 A) (F0 m 330 ls [.int e289]) := by
                        intro H locs ls hl hP hD hS
                        cases h
                        exact fin_i hx hb hr hlk hS () rfl hP hD (Nat.le_of_ble_eq_true rfl) (Nat.le_of_ble_eq_true rfl) d15_59_330
                      clear h
                      refine lv_if_eq (tgt := 328) hx hb d15_59_321 rfl (fun c288 => ?_) (fun c288 => ?_)
                      ·
                        replace h := (if_pos c288).symm.trans hX
                        refine lv_bipush (v := (-9)) hx hb d15_59_328 (by decide) ?_
                        have e9 := Option.some.inj h
                        subst e289
                        have hl := lv_sub hl (l' := [(0, .ref (q 0)), (1, .int a0), (2, .int a1), (3, .int x4), (4, .int y5), (5, .int v11), (6, .int v12), (7, .int e15), (8, .int e19), (9, .int y279)]) [1, 2, 3, 4, 5, 6, 7, 8, 9, 0] rfl
                        exact hj _ _ _ hl hP hD hS
                      ·
                        replace h := (if_neg c288).symm.trans hX
                        refine lv_iconst (v := 0) hx hb d15_59_324 (by decide) ?_
                        refine lv_goto (tgt := 330) hx hb d15_59_325 rfl ?_
                        have e9 := Option.some.inj h
                        subst e289
                        have hl := lv_sub hl (l' := [(0, .ref (q 0)), (1, .int a0), (2, .int a1), (3, .int x4), (4, .int y5), (5, .int v11), (6, .int v12), (7, .int e15), (8, .int e19), (9, .int y279)]) [1, 2, 3, 4, 5, 6, 7, 8, 9, 0] rfl
                        exact hj _ _ _ hl hP hD hS
                    ·
                      replace h := (if_pos c275).symm.trans h
                      refine lv_bipush (v := (-9)) hx hb d15_59_279 (by decide) ?_
                      cases h
                      exact fin_i hx hb hr hlk hS () rfl hP hD (Nat.le_of_ble_eq_true rfl) (Nat.le_of_ble_eq_true rfl) d15_59_281
                  clear h
                  refine lv_if_ge (tgt := 258) hx hb d15_59_251 rfl (fun c268 => ?_) (fun c268 => ?_)
                  ·
                    replace h := (if_pos c268).symm.trans hX
                    refine lv_aload_n hx hb d15_59_258 rfl (lv_at hl 1 rfl) ?_
                    refine va_get (D := G.1) (ci := 13) (v := .ref (q 20)) (C := r_13) (T := f_13) (N := 42) (ref := "PagedValuesModel") hx hb hts (fun w h => List.mem_cons_of_mem _ (ly_13 w h)) hown hK hP 0 rfl rfl 33 (by decide) (hts _ (List.mem_cons_of_mem _ k1184)) (fun _ h9 => h9) rfl d15_59_259 ?_
                    refine lv_iconst (v := 2) hx hb d15_59_262 (by decide) ?_
                    refine lv_iload_n hx hb d15_59_263 rfl (lv_at hl 4 rfl) ?_
                    refine lv_imul hx hb d15_59_264 ?_
                    obtain ⟨y291, hr, h⟩ := ob h
                    refine lv_topi (fun y9 ey => ?_)
                    have e9 := ey.trans (Option.some.inj hr)
                    clear ey
                    subst y9
                    clear hr
                    refine lv_iconst (v := 1) hx hb d15_59_265 (by decide) ?_
                    refine lv_iadd hx hb d15_59_266 ?_
                    obtain ⟨y292, hr, h⟩ := ob h
                    refine lv_topi (fun y9 ey => ?_)
                    have e9 := ey.trans (Option.some.inj hr)
                    clear ey
                    subst y9
                    clear hr
                    refine lv_iload hx hb d15_59_267 (lv_at hl 5 rfl) ?_
                    refine lv_isub hx hb d15_59_269 ?_
                    obtain ⟨y293, hr, h⟩ := ob h
                    refine lv_topi (fun y9 ey => ?_)
                    have e9 := ey.trans (Option.some.inj hr)
                    clear ey
                    subst y9
                    clear hr
                    obtain ⟨x294, hr, h⟩ := ob h
                    obtain ⟨hi, hv⟩ := rd_some hr
                    refine va_iald (D := G.1) hx hb hK hP 20 1 rfl rfl (i := y293) hi d15_59_270 ?_
                    refine lv_topi (fun y9 ey => ?_)
                    have e9 := ey.trans hv
                    clear ey
                    subst y9
                    clear hv hi hr
                    have e9 := Option.some.inj h
                    subst e269
                    have hl := lv_sub hl (l' := [(0, .ref (q 0)), (1, .int a0), (2, .int a1), (3, .int x4), (4, .int y5), (5, .int v11), (6, .int v12), (7, .int e15), (8, .int e19)]) [1, 2, 3, 4, 5, 6, 7, 8, 0] rfl
                    exact hj _ _ _ hl hP hD hS
                  ·
                    replace h := (if_neg c268).symm.trans hX
                    refine lv_iconst (v := (-1)) hx hb d15_59_254 (by decide) ?_
                    refine lv_goto (tgt := 271) hx hb d15_59_255 rfl ?_
                    have e9 := Option.some.inj h
                    subst e269
                    have hl := lv_sub hl (l' := [(0, .ref (q 0)), (1, .int a0), (2, .int a1), (3, .int x4), (4, .int y5), (5, .int v11), (6, .int v12), (7, .int e15), (8, .int e19)]) [1, 2, 3, 4, 5, 6, 7, 8, 0] rfl
                    exact hj _ _ _ hl hP hD hS
              ·
                replace h := (if_neg c244).symm.trans h
                refine lv_aload_n hx hb d15_59_189 rfl (lv_at hl 1 rfl) ?_
                refine lv_iload hx hb d15_59_190 (lv_at hl 8 rfl) ?_
                refine lv_iload_n hx hb d15_59_192 rfl (lv_at hl 4 rfl) ?_
                refine lv_iload hx hb d15_59_193 (lv_at hl 5 rfl) ?_
                refine lv_iload_n hx hb d15_59_195 rfl (lv_at hl 2 rfl) ?_
                refine lv_iload_n hx hb d15_59_196 rfl (lv_at hl 3 rfl) ?_
                obtain ⟨st296, hc, h⟩ := ob h
                refine sV_v (As := [.int e15, .int x4, .int y5, .int a0, .int a1]) (rest := []) ⟨hx, hb, hml, hown, hts⟩ (cm_writeLeaf l G Zd q e15 x4 y5 a0 a1 st st296 hc _) (kw_V (n := 5) hts k1416 k1413 k15 k1415 ks62 (by decide +kernel) ⟨Nat.le_of_ble_eq_true rfl, Nat.le_of_ble_eq_true rfl⟩) hP hD hK hS hA hZ (va_recv (ci := 13) (q0 := 0) hK hP rfl rfl) rfl hl.1 rfl (Nat.le_of_ble_eq_true rfl) d15_59_197 ⟨Nat.le_of_ble_eq_true rfl, Nat.le_of_ble_eq_true rfl⟩ (fun u9 H locs hp hP hD hS => ?_)
                clear u9
                clear hp
                clear hc
                refine W.eq (g2 := F0 m 200 ls []) rfl ?_
                have hP : va_P G.1 vwCl (wMs q G.2 st296) H := hP
                have hD : va_D A (wMs q G.2 st296) := hD
                refine lv_aload_n hx hb d15_59_200 rfl (lv_at hl 1 rfl) ?_
                obtain ⟨⟨x298, st299⟩, hc, h⟩ := ob h
                refine sV_i (As := []) (rest := []) ⟨hx, hb, hml, hown, hts⟩ (cm_block l G Zd q st296 x298 st299 hc _) (kw_V (n := 0) hts k1428 k1425 k15 k1427 ks65 (by decide +kernel) ⟨Nat.le_of_ble_eq_true rfl, Nat.le_of_ble_eq_true rfl⟩) hP hD hK hS hA hZ (va_recv (ci := 13) (q0 := 0) hK hP rfl rfl) rfl hl.1 rfl (Nat.le_of_ble_eq_true rfl) d15_59_201 ⟨Nat.le_of_ble_eq_true rfl, Nat.le_of_ble_eq_true rfl⟩ (fun rr u9 H locs hp hP hD hS => ?_)
                clear u9
                subst rr
                clear hc
                refine W.eq (g2 := F0 m 204 ls [.int x298]) rfl ?_
                have hP : va_P G.1 vwCl (wMs q G.2 st299) H := hP
                have hD : va_D A (wMs q G.2 st299) := hD
                refine lv_if_ne (tgt := 210) hx hb d15_59_204 rfl (fun c301 => ?_) (fun c301 => ?_)
                ·
                  replace h := (if_neg c301).symm.trans h
                  refine lv_iload hx hb d15_59_210 (lv_at hl 0 rfl) ?_
                  refine lv_if_lt (tgt := 282) hx hb d15_59_212 rfl (fun c302 => ?_) (fun c302 => ?_)
                  ·
                    replace h := (if_pos c302).symm.trans h
                    refine lv_iconst (v := 1) hx hb d15_59_282 (by decide) ?_
                    refine lv_aload_n hx hb d15_59_283 rfl (lv_at hl 1 rfl) ?_
                    obtain ⟨x303, hc, h⟩ := ob h
                    refine sV_i (As := []) (rest := [.int 1]) ⟨hx, hb, hml, hown, hts⟩ (cm_current l G Zd q st299 x303 hc _) (kw_V (n := 0) hts k1396 k1393 k15 k1395 ks57 (by decide +kernel) ⟨Nat.le_of_ble_eq_true rfl, Nat.le_of_ble_eq_true rfl⟩) hP hD hK hS hA hZ (va_recv (ci := 13) (q0 := 0) hK hP rfl rfl) rfl hl.1 rfl (Nat.le_of_ble_eq_true rfl) d15_59_284 ⟨Nat.le_of_ble_eq_true rfl, Nat.le_of_ble_eq_true rfl⟩ (fun rr u9 H locs hp hP hD hS => ?_)
                    clear u9
                    subst rr
                    clear hc
                    refine W.eq (g2 := F0 m 287 ls [.int x303, .int 1]) rfl ?_
                    have hP : va_P G.1 vwCl (wMs q G.2 st299) H := hP
                    have hD : va_D A (wMs q G.2 st299) := hD
                    refine lv_isub hx hb d15_59_287 ?_
                    obtain ⟨y306, hr, h⟩ := ob h
                    refine lv_topi (fun y9 ey => ?_)
                    have e9 := ey.trans (Option.some.inj hr)
                    clear ey
                    subst y9
                    clear hr
                    refine lv_istore (lv' := [(9, .int y306), (8, .int e19), (0, .ref (q 0)), (1, .int a0), (2, .int a1), (3, .int x4), (4, .int y5), (5, .int v11), (6, .int v12), (7, .int e15)]) hx hb d15_59_288 hl (by decide) rfl (fun ls hl => ?_)
                    refine lv_aload_n hx hb d15_59_290 rfl (lv_at hl 2 rfl) ?_
                    refine va_get (D := G.1) (ci := 13) (v := .ref (q 23)) (C := r_13) (T := f_13) (N := 42) (ref := "PagedValuesModel") hx hb hts (fun w h => List.mem_cons_of_mem _ (ly_13 w h)) hown hK hP 0 rfl rfl 36 (by decide) (hts _ (List.mem_cons_of_mem _ k1187)) (fun _ h9 => h9) rfl d15_59_291 ?_
                    refine lv_iload hx hb d15_59_294 (lv_at hl 0 rfl) ?_
                    refine lv_aload_n hx hb d15_59_296 rfl (lv_at hl 2 rfl) ?_
                    refine va_get (D := G.1) (ci := 13) (v := .ref (q 23)) (C := r_13) (T := f_13) (N := 42) (ref := "PagedValuesModel") hx hb hts (fun w h => List.mem_cons_of_mem _ (ly_13 w h)) hown hK hP 0 rfl rfl 36 (by decide) (hts _ (List.mem_cons_of_mem _ k1187)) (fun _ h9 => h9) rfl d15_59_297 ?_
                    refine lv_iconst (v := 1) hx hb d15_59_300 (by decide) ?_
                    refine lv_iload hx hb d15_59_301 (lv_at hl 0 rfl) ?_
                    refine lv_isub hx hb d15_59_303 ?_
                    obtain ⟨y307, hr, h⟩ := ob h
                    refine lv_topi (fun y9 ey => ?_)
                    have e9 := ey.trans (Option.some.inj hr)
                    clear ey
                    subst y9
                    clear hr
                    obtain ⟨x308, hr, h⟩ := ob h
                    obtain ⟨hi, hv⟩ := rd_some hr
                    refine va_iald (D := G.1) hx hb hK hP 23 1 rfl rfl (i := y307) hi d15_59_304 ?_
                    refine lv_topi (fun y9 ey => ?_)
                    have e9 := ey.trans hv
                    clear ey
                    subst y9
                    clear hv hi hr
                    refine lv_iconst (v := 1) hx hb d15_59_305 (by decide) ?_
                    refine lv_iadd hx hb d15_59_306 ?_
                    obtain ⟨y309, hr, h⟩ := ob h
                    refine lv_topi (fun y9 ey => ?_)
                    have e9 := ey.trans (Option.some.inj hr)
                    clear ey
                    subst y9
                    clear hr
                    obtain ⟨k310z, hr, h⟩ := ob h
                    obtain ⟨hi, hk⟩ := ix_some hr
                    clear hr
                    refine va_iast (D := G.1) hx hb hK hP hD hS 23 1 rfl rfl (i := y306) (x := y309) hi d15_59_307 (fun H locs hP hD hS => ?_)
                    rw [hk] at hP hD
                    clear hk hi
                    have hP : va_P G.1 vwCl (wMs q G.2 (st299.1, st299.2.1, va_up st299.2.2.1 16 (upd (st299.2.2.1 16) k310z y309), st299.2.2.2)) H := hP
                    have hD : va_D A (wMs q G.2 (st299.1, st299.2.1, va_up st299.2.2.1 16 (upd (st299.2.2.1 16) k310z y309), st299.2.2.2)) := hD
                    refine lv_aload_n hx hb d15_59_308 rfl (lv_at hl 2 rfl) ?_
                    refine va_get (D := G.1) (ci := 13) (v := .ref (q 22)) (C := r_13) (T := f_13) (N := 42) (ref := "PagedValuesModel") hx hb hts (fun w h => List.mem_cons_of_mem _ (ly_13 w h)) hown hK hP 0 rfl rfl 35 (by decide) (hts _ (List.mem_cons_of_mem _ k1186)) (fun _ h9 => h9) rfl d15_59_309 ?_
                    refine lv_iload hx hb d15_59_312 (lv_at hl 0 rfl) ?_
                    refine lv_iload hx hb d15_59_314 (lv_at hl 1 rfl) ?_
                    obtain ⟨k311z, hr, h⟩ := ob h
                    obtain ⟨hi, hk⟩ := ix_some hr
                    clear hr
                    refine va_iast (D := G.1) hx hb hK hP hD hS 22 1 rfl rfl (i := y306) (x := e19) hi d15_59_316 (fun H locs hP hD hS => ?_)
                    rw [hk] at hP hD
                    clear hk hi
                    have hP : va_P G.1 vwCl (wMs q G.2 (st299.1, st299.2.1, va_up (va_up st299.2.2.1 16 (upd (st299.2.2.1 16) k310z y309)) 15 (upd (st299.2.2.1 15) k311z e19), st299.2.2.2)) H := hP
                    have hD : va_D A (wMs q G.2 (st299.1, st299.2.1, va_up (va_up st299.2.2.1 16 (upd (st299.2.2.1 16) k310z y309)) 15 (upd (st299.2.2.1 15) k311z e19), st299.2.2.2)) := hD
                    refine lv_aload_n hx hb d15_59_317 rfl (lv_at hl 2 rfl) ?_
                    obtain ⟨⟨x312, st313⟩, hc, h⟩ := ob h
                    refine sV_i (As := []) (rest := []) ⟨hx, hb, hml, hown, hts⟩ (cm_block l G Zd q (st299.1, st299.2.1, va_up (va_up st299.2.2.1 16 (upd (st299.2.2.1 16) k310z y309)) 15 (upd (st299.2.2.1 15) k311z e19), st299.2.2.2) x312 st313 hc _) (kw_V (n := 0) hts k1428 k1425 k15 k1427 ks65 (by decide +kernel) ⟨Nat.le_of_ble_eq_true rfl, Nat.le_of_ble_eq_true rfl⟩) hP hD hK hS hA hZ (va_recv (ci := 13) (q0 := 0) hK hP rfl rfl) rfl hl.1 rfl (Nat.le_of_ble_eq_true rfl) d15_59_318 ⟨Nat.le_of_ble_eq_true rfl, Nat.le_of_ble_eq_true rfl⟩ (fun rr u9 H locs hp hP hD hS => ?_)
                    clear u9
                    subst rr
                    clear hc
                    refine W.eq (g2 := F0 m 321 ls [.int x312]) rfl ?_
                    have hP : va_P G.1 vwCl (wMs q G.2 st313) H := hP
                    have hD : va_D A (wMs q G.2 st313) := hD
                    obtain ⟨e316, hX, h⟩ := ob h
                    have hj : ∀ (H : Heap) (locs : List Loc) (ls : Array Slot), lv_has ls 10 [(0, .ref (q 0)), (1, .int a0), (2, .int a1), (3, .int x4), (4, .int y5), (5, .int v11), (6, .int v12), (7, .int e15), (8, .int e19), (9, .int y306)] → va_P G.1 vwCl (wMs q G.2 st313) H → va_D A (wMs q G.2 st313) → va_S A s.heap H locs → W p l e (rmD 3 0 0) s m ([.ref (q 0), .int a0, .int a1] : List Value).toArray below meth c H locs 0 0 (MQ below (qI G (fun rr (_ : Unit) => rr = r0) (fun _ => (wMs q G.2 st0)) A) ([.ref (q 0), .int a0, .int a1] : List Value).toArray s 0 0 A) (F0 m 330 ls [.int e316]) := by
                      intro H locs ls hl hP hD hS
                      cases h
                      exact fin_i hx hb hr hlk hS () rfl hP hD (Nat.le_of_ble_eq_true rfl) (Nat.le_of_ble_eq_true rfl) d15_59_330
                    clear h
                    refine lv_if_eq (tgt := 328) hx hb d15_59_321 rfl (fun c315 => ?_) (fun c315 => ?_)
                    ·
                      replace h := (if_pos c315).symm.trans hX
                      refine lv_bipush (v := (-9)) hx hb d15_59_328 (by decide) ?_
                      have e9 := Option.some.inj h
                      subst e316
                      have hl := lv_sub hl (l' := [(0, .ref (q 0)), (1, .int a0), (2, .int a1), (3, .int x4), (4, .int y5), (5, .int v11), (6, .int v12), (7, .int e15), (8, .int e19), (9, .int y306)]) [2, 3, 4, 5, 6, 7, 8, 9, 1, 0] rfl
                      exact hj _ _ _ hl hP hD hS
                    ·
                      replace h := (if_neg c315).symm.trans hX
                      refine lv_iconst (v := 0) hx hb d15_59_324 (by decide) ?_
                      refine lv_goto (tgt := 330) hx hb d15_59_325 rfl ?_
                      have e9 := Option.some.inj h
                      subst e316
                      have hl := lv_sub hl (l' := [(0, .ref (q 0)), (1, .int a0), (2, .int a1), (3, .int x4), (4, .int y5), (5, .int v11), (6, .int v12), (7, .int e15), (8, .int e19), (9, .int y306)]) [2, 3, 4, 5, 6, 7, 8, 9, 1, 0] rfl
                      exact hj _ _ _ hl hP hD hS
                  ·
                    replace h := (if_neg c302).symm.trans h
                    refine lv_aload_n hx hb d15_59_215 rfl (lv_at hl 1 rfl) ?_
                    refine va_get (D := G.1) (ci := 13) (v := .ref (q 19)) (C := r_13) (T := f_13) (N := 42) (ref := "PagedValuesModel") hx hb hts (fun w h => List.mem_cons_of_mem _ (ly_13 w h)) hown hK hP 0 rfl rfl 32 (by decide) (hts _ (List.mem_cons_of_mem _ k1183)) (fun _ h9 => h9) rfl d15_59_216 ?_
                    refine lv_iload hx hb d15_59_219 (lv_at hl 0 rfl) ?_
                    refine lv_iconst (v := 1) hx hb d15_59_221 (by decide) ?_
                    obtain ⟨k318z, hr, h⟩ := ob h
                    obtain ⟨hi, hk⟩ := ix_some hr
                    clear hr
                    refine va_iast (D := G.1) hx hb hK hP hD hS 19 1 rfl rfl (i := e19) (x := (1 : Int32)) hi d15_59_222 (fun H locs hP hD hS => ?_)
                    rw [hk] at hP hD
                    clear hk hi
                    have hP : va_P G.1 vwCl (wMs q G.2 (st299.1, st299.2.1, va_up st299.2.2.1 12 (upd (st299.2.2.1 12) k318z (1 : Int32)), st299.2.2.2)) H := hP
                    have hD : va_D A (wMs q G.2 (st299.1, st299.2.1, va_up st299.2.2.1 12 (upd (st299.2.2.1 12) k318z (1 : Int32)), st299.2.2.2)) := hD
                    refine lv_aload_n hx hb d15_59_223 rfl (lv_at hl 1 rfl) ?_
                    refine va_get (D := G.1) (ci := 13) (v := .ref (q 20)) (C := r_13) (T := f_13) (N := 42) (ref := "PagedValuesModel") hx hb hts (fun w h => List.mem_cons_of_mem _ (ly_13 w h)) hown hK hP 0 rfl rfl 33 (by decide) (hts _ (List.mem_cons_of_mem _ k1184)) (fun _ h9 => h9) rfl d15_59_224 ?_
                    refine lv_iconst (v := 2) hx hb d15_59_227 (by decide) ?_
                    refine lv_iload hx hb d15_59_228 (lv_at hl 0 rfl) ?_
                    refine lv_imul hx hb d15_59_230 ?_
                    obtain ⟨y319, hr, h⟩ := ob h
                    refine lv_topi (fun y9 ey => ?_)
                    have e9 := ey.trans (Option.some.inj hr)
                    clear ey
                    subst y9
                    clear hr
                    refine lv_iload hx hb d15_59_231 (lv_at hl 5 rfl) ?_
                    refine lv_iadd hx hb d15_59_233 ?_
                    obtain ⟨y320, hr, h⟩ := ob h
                    refine lv_topi (fun y9 ey => ?_)
                    have e9 := ey.trans (Option.some.inj hr)
                    clear ey
                    subst y9
                    clear hr
                    refine lv_iload hx hb d15_59_234 (lv_at hl 8 rfl) ?_
                    obtain ⟨k321z, hr, h⟩ := ob h
                    obtain ⟨hi, hk⟩ := ix_some hr
                    clear hr
                    refine va_iast (D := G.1) hx hb hK hP hD hS 20 1 rfl rfl (i := y320) (x := e15) hi d15_59_236 (fun H locs hP hD hS => ?_)
                    rw [hk] at hP hD
                    clear hk hi
                    have hP : va_P G.1 vwCl (wMs q G.2 (st299.1, st299.2.1, va_up (va_up st299.2.2.1 12 (upd (st299.2.2.1 12) k318z (1 : Int32))) 13 (upd (st299.2.2.1 13) k321z e15), st299.2.2.2)) H := hP
                    have hD : va_D A (wMs q G.2 (st299.1, st299.2.1, va_up (va_up st299.2.2.1 12 (upd (st299.2.2.1 12) k318z (1 : Int32))) 13 (upd (st299.2.2.1 13) k321z e15), st299.2.2.2)) := hD
                    refine lv_aload_n hx hb d15_59_237 rfl (lv_at hl 1 rfl) ?_
                    refine va_get (D := G.1) (ci := 13) (v := .ref (q 20)) (C := r_13) (T := f_13) (N := 42) (ref := "PagedValuesModel") hx hb hts (fun w h => List.mem_cons_of_mem _ (ly_13 w h)) hown hK hP 0 rfl rfl 33 (by decide) (hts _ (List.mem_cons_of_mem _ k1184)) (fun _ h9 => h9) rfl d15_59_238 ?_
                    refine lv_iconst (v := 2) hx hb d15_59_241 (by decide) ?_
                    refine lv_iload hx hb d15_59_242 (lv_at hl 0 rfl) ?_
                    refine lv_imul hx hb d15_59_244 ?_
                    obtain ⟨y322, hr, h⟩ := ob h
                    refine lv_topi (fun y9 ey => ?_)
                    have e9 := ey.trans (Option.some.inj hr)
                    clear ey
                    subst y9
                    clear hr
                    refine lv_iconst (v := 1) hx hb d15_59_245 (by decide) ?_
                    refine lv_iadd hx hb d15_59_246 ?_
                    obtain ⟨y323, hr, h⟩ := ob h
                    refine lv_topi (fun y9 ey => ?_)
                    have e9 := ey.trans (Option.some.inj hr)
                    clear ey
                    subst y9
                    clear hr
                    refine lv_iload hx hb d15_59_247 (lv_at hl 5 rfl) ?_
                    refine lv_isub hx hb d15_59_249 ?_
                    obtain ⟨y324, hr, h⟩ := ob h
                    refine lv_topi (fun y9 ey => ?_)
                    have e9 := ey.trans (Option.some.inj hr)
                    clear ey
                    subst y9
                    clear hr
                    refine lv_iload_n hx hb d15_59_250 rfl (lv_at hl 4 rfl) ?_
                    obtain ⟨e326, hX, h⟩ := ob h
                    have hj : ∀ (H : Heap) (locs : List Loc) (ls : Array Slot), lv_has ls 10 [(0, .ref (q 0)), (1, .int a0), (2, .int a1), (3, .int x4), (4, .int y5), (5, .int v11), (6, .int v12), (7, .int e15), (8, .int e19)] → va_P G.1 vwCl (wMs q G.2 (st299.1, st299.2.1, va_up (va_up st299.2.2.1 12 (upd (st299.2.2.1 12) k318z (1 : Int32))) 13 (upd (st299.2.2.1 13) k321z e15), st299.2.2.2)) H → va_D A (wMs q G.2 (st299.1, st299.2.1, va_up (va_up st299.2.2.1 12 (upd (st299.2.2.1 12) k318z (1 : Int32))) 13 (upd (st299.2.2.1 13) k321z e15), st299.2.2.2)) → va_S A s.heap H locs → W p l e (rmD 3 0 0) s m ([.ref (q 0), .int a0, .int a1] : List Value).toArray below meth c H locs 0 0 (MQ below (qI G (fun rr (_ : Unit) => rr = r0) (fun _ => (wMs q G.2 st0)) A) ([.ref (q 0), .int a0, .int a1] : List Value).toArray s 0 0 A) (F0 m 271 ls [.int e326, .int y324, .ref (q 20)]) := by
                      intro H locs ls hl hP hD hS
                      obtain ⟨k328z, hr, h⟩ := ob h
                      obtain ⟨hi, hk⟩ := ix_some hr
                      clear hr
                      refine va_iast (D := G.1) hx hb hK hP hD hS 20 1 rfl rfl (i := y324) (x := e326) hi d15_59_271 (fun H locs hP hD hS => ?_)
                      rw [hk] at hP hD
                      clear hk hi
                      have hP : va_P G.1 vwCl (wMs q G.2 (st299.1, st299.2.1, va_up (va_up st299.2.2.1 12 (upd (st299.2.2.1 12) k318z (1 : Int32))) 13 (upd (upd (st299.2.2.1 13) k321z e15) k328z e326), st299.2.2.2)) H := hP
                      have hD : va_D A (wMs q G.2 (st299.1, st299.2.1, va_up (va_up st299.2.2.1 12 (upd (st299.2.2.1 12) k318z (1 : Int32))) 13 (upd (upd (st299.2.2.1 13) k321z e15) k328z e326), st299.2.2.2)) := hD
                      refine lv_aload_n hx hb d15_59_272 rfl (lv_at hl 0 rfl) ?_
                      obtain ⟨⟨x329, st330⟩, hc, h⟩ := ob h
                      refine sV_i (As := []) (rest := []) ⟨hx, hb, hml, hown, hts⟩ (cm_block l G Zd q (st299.1, st299.2.1, va_up (va_up st299.2.2.1 12 (upd (st299.2.2.1 12) k318z (1 : Int32))) 13 (upd (upd (st299.2.2.1 13) k321z e15) k328z e326), st299.2.2.2) x329 st330 hc _) (kw_V (n := 0) hts k1428 k1425 k15 k1427 ks65 (by decide +kernel) ⟨Nat.le_of_ble_eq_true rfl, Nat.le_of_ble_eq_true rfl⟩) hP hD hK hS hA hZ (va_recv (ci := 13) (q0 := 0) hK hP rfl rfl) rfl hl.1 rfl (Nat.le_of_ble_eq_true rfl) d15_59_273 ⟨Nat.le_of_ble_eq_true rfl, Nat.le_of_ble_eq_true rfl⟩ (fun rr u9 H locs hp hP hD hS => ?_)
                      clear u9
                      subst rr
                      clear hc
                      refine W.eq (g2 := F0 m 276 ls [.int x329]) rfl ?_
                      have hP : va_P G.1 vwCl (wMs q G.2 st330) H := hP
                      have hD : va_D A (wMs q G.2 st330) := hD
                      refine lv_if_ne (tgt := 282) hx hb d15_59_276 rfl (fun c332 => ?_) (fun c332 => ?_)
                      ·
                        replace h := (if_neg c332).symm.trans h
                        refine lv_iconst (v := 1) hx hb d15_59_282 (by decide) ?_
                        refine lv_aload_n hx hb d15_59_283 rfl (lv_at hl 0 rfl) ?_
                        obtain ⟨x333, hc, h⟩ := ob h
                        refine sV_i (As := []) (rest := [.int 1]) ⟨hx, hb, hml, hown, hts⟩ (cm_current l G Zd q st330 x333 hc _) (kw_V (n := 0) hts k1396 k1393 k15 k1395 ks57 (by decide +kernel) ⟨Nat.le_of_ble_eq_true rfl, Nat.le_of_ble_eq_true rfl⟩) hP hD hK hS hA hZ (va_recv (ci := 13) (q0 := 0) hK hP rfl rfl) rfl hl.1 rfl (Nat.le_of_ble_eq_true rfl) d15_59_284 ⟨Nat.le_of_ble_eq_true rfl, Nat.le_of_ble_eq_true rfl⟩ (fun rr u9 H locs hp hP hD hS => ?_)
                        clear u9
                        subst rr
                        clear hc
                        refine W.eq (g2 := F0 m 287 ls [.int x333, .int 1]) rfl ?_
                        have hP : va_P G.1 vwCl (wMs q G.2 st330) H := hP
                        have hD : va_D A (wMs q G.2 st330) := hD
                        refine lv_isub hx hb d15_59_287 ?_
                        obtain ⟨y336, hr, h⟩ := ob h
                        refine lv_topi (fun y9 ey => ?_)
                        have e9 := ey.trans (Option.some.inj hr)
                        clear ey
                        subst y9
                        clear hr
                        refine lv_istore (lv' := [(9, .int y336), (0, .ref (q 0)), (1, .int a0), (2, .int a1), (3, .int x4), (4, .int y5), (5, .int v11), (6, .int v12), (7, .int e15), (8, .int e19)]) hx hb d15_59_288 hl (by decide) rfl (fun ls hl => ?_)
                        refine lv_aload_n hx hb d15_59_290 rfl (lv_at hl 1 rfl) ?_
                        refine va_get (D := G.1) (ci := 13) (v := .ref (q 23)) (C := r_13) (T := f_13) (N := 42) (ref := "PagedValuesModel") hx hb hts (fun w h => List.mem_cons_of_mem _ (ly_13 w h)) hown hK hP 0 rfl rfl 36 (by decide) (hts _ (List.mem_cons_of_mem _ k1187)) (fun _ h9 => h9) rfl d15_59_291 ?_
                        refine lv_iload hx hb d15_59_294 (lv_at hl 0 rfl) ?_
                        refine lv_aload_n hx hb d15_59_296 rfl (lv_at hl 1 rfl) ?_
                        refine va_get (D := G.1) (ci := 13) (v := .ref (q 23)) (C := r_13) (T := f_13) (N := 42) (ref := "PagedValuesModel") hx hb hts (fun w h => List.mem_cons_of_mem _ (ly_13 w h)) hown hK hP 0 rfl rfl 36 (by decide) (hts _ (List.mem_cons_of_mem _ k1187)) (fun _ h9 => h9) rfl d15_59_297 ?_
                        refine lv_iconst (v := 1) hx hb d15_59_300 (by decide) ?_
                        refine lv_iload hx hb d15_59_301 (lv_at hl 0 rfl) ?_
                        refine lv_isub hx hb d15_59_303 ?_
                        obtain ⟨y337, hr, h⟩ := ob h
                        refine lv_topi (fun y9 ey => ?_)
                        have e9 := ey.trans (Option.some.inj hr)
                        clear ey
                        subst y9
                        clear hr
                        obtain ⟨x338, hr, h⟩ := ob h
                        obtain ⟨hi, hv⟩ := rd_some hr
                        refine va_iald (D := G.1) hx hb hK hP 23 1 rfl rfl (i := y337) hi d15_59_304 ?_
                        refine lv_topi (fun y9 ey => ?_)
                        have e9 := ey.trans hv
                        clear ey
                        subst y9
                        clear hv hi hr
                        refine lv_iconst (v := 1) hx hb d15_59_305 (by decide) ?_
                        refine lv_iadd hx hb d15_59_306 ?_
                        obtain ⟨y339, hr, h⟩ := ob h
                        refine lv_topi (fun y9 ey => ?_)
                        have e9 := ey.trans (Option.some.inj hr)
                        clear ey
                        subst y9
                        clear hr
                        obtain ⟨k340z, hr, h⟩ := ob h
                        obtain ⟨hi, hk⟩ := ix_some hr
                        clear hr
                        refine va_iast (D := G.1) hx hb hK hP hD hS 23 1 rfl rfl (i := y336) (x := y339) hi d15_59_307 (fun H locs hP hD hS => ?_)
                        rw [hk] at hP hD
                        clear hk hi
                        have hP : va_P G.1 vwCl (wMs q G.2 (st330.1, st330.2.1, va_up st330.2.2.1 16 (upd (st330.2.2.1 16) k340z y339), st330.2.2.2)) H := hP
                        have hD : va_D A (wMs q G.2 (st330.1, st330.2.1, va_up st330.2.2.1 16 (upd (st330.2.2.1 16) k340z y339), st330.2.2.2)) := hD
                        refine lv_aload_n hx hb d15_59_308 rfl (lv_at hl 1 rfl) ?_
                        refine va_get (D := G.1) (ci := 13) (v := .ref (q 22)) (C := r_13) (T := f_13) (N := 42) (ref := "PagedValuesModel") hx hb hts (fun w h => List.mem_cons_of_mem _ (ly_13 w h)) hown hK hP 0 rfl rfl 35 (by decide) (hts _ (List.mem_cons_of_mem _ k1186)) (fun _ h9 => h9) rfl d15_59_309 ?_
                        refine lv_iload hx hb d15_59_312 (lv_at hl 0 rfl) ?_
                        refine lv_iload hx hb d15_59_314 (lv_at hl 9 rfl) ?_
                        obtain ⟨k341z, hr, h⟩ := ob h
                        obtain ⟨hi, hk⟩ := ix_some hr
                        clear hr
                        refine va_iast (D := G.1) hx hb hK hP hD hS 22 1 rfl rfl (i := y336) (x := e19) hi d15_59_316 (fun H locs hP hD hS => ?_)
                        rw [hk] at hP hD
                        clear hk hi
                        have hP : va_P G.1 vwCl (wMs q G.2 (st330.1, st330.2.1, va_up (va_up st330.2.2.1 16 (upd (st330.2.2.1 16) k340z y339)) 15 (upd (st330.2.2.1 15) k341z e19), st330.2.2.2)) H := hP
                        have hD : va_D A (wMs q G.2 (st330.1, st330.2.1, va_up (va_up st330.2.2.1 16 (upd (st330.2.2.1 16) k340z y339)) 15 (upd (st330.2.2.1 15) k341z e19), st330.2.2.2)) := hD
                        refine lv_aload_n hx hb d15_59_317 rfl (lv_at hl 1 rfl) ?_
                        obtain ⟨⟨x342, st343⟩, hc, h⟩ := ob h
                        refine sV_i (As := []) (rest := []) ⟨hx, hb, hml, hown, hts⟩ (cm_block l G Zd q (st330.1, st330.2.1, va_up (va_up st330.2.2.1 16 (upd (st330.2.2.1 16) k340z y339)) 15 (upd (st330.2.2.1 15) k341z e19), st330.2.2.2) x342 st343 hc _) (kw_V (n := 0) hts k1428 k1425 k15 k1427 ks65 (by decide +kernel) ⟨Nat.le_of_ble_eq_true rfl, Nat.le_of_ble_eq_true rfl⟩) hP hD hK hS hA hZ (va_recv (ci := 13) (q0 := 0) hK hP rfl rfl) rfl hl.1 rfl (Nat.le_of_ble_eq_true rfl) d15_59_318 ⟨Nat.le_of_ble_eq_true rfl, Nat.le_of_ble_eq_true rfl⟩ (fun rr u9 H locs hp hP hD hS => ?_)
                        clear u9
                        subst rr
                        clear hc
                        refine W.eq (g2 := F0 m 321 ls [.int x342]) rfl ?_
                        have hP : va_P G.1 vwCl (wMs q G.2 st343) H := hP
                        have hD : va_D A (wMs q G.2 st343) := hD
                        obtain ⟨e346, hX, h⟩ := ob h
                        have hj : ∀ (H : Heap) (locs : List Loc) (ls : Array Slot), lv_has ls 10 [(0, .ref (q 0)), (1, .int a0), (2, .int a1), (3, .int x4), (4, .int y5), (5, .int v11), (6, .int v12), (7, .int e15), (8, .int e19), (9, .int y336)] → va_P G.1 vwCl (wMs q G.2 st343) H → va_D A (wMs q G.2 st343) → va_S A s.heap H locs → W p l e (rmD 3 0 0) s m ([.ref (q 0), .int a0, .int a1] : List Value).toArray below meth c H locs 0 0 (MQ below (qI G (fun rr (_ : Unit) => rr = r0) (fun _ => (wMs q G.2 st0)) A) ([.ref (q 0), .int a0, .int a1] : List Value).toArray s 0 0 A) (F0 m 330 ls [.int e346]) := by
                          intro H locs ls hl hP hD hS
                          cases h
                          exact fin_i hx hb hr hlk hS () rfl hP hD (Nat.le_of_ble_eq_true rfl) (Nat.le_of_ble_eq_true rfl) d15_59_330
                        clear h
                        refine lv_if_eq (tgt := 328) hx hb d15_59_321 rfl (fun c345 => ?_) (fun c345 => ?_)
                        ·
                          replace h := (if_pos c345).symm.trans hX
                          refine lv_bipush (v := (-9)) hx hb d15_59_328 (by decide) ?_
                          have e9 := Option.some.inj h
                          subst e346
                          have hl := lv_sub hl (l' := [(0, .ref (q 0)), (1, .int a0), (2, .int a1), (3, .int x4), (4, .int y5), (5, .int v11), (6, .int v12), (7, .int e15), (8, .int e19), (9, .int y336)]) [1, 2, 3, 4, 5, 6, 7, 8, 9, 0] rfl
                          exact hj _ _ _ hl hP hD hS
                        ·
                          replace h := (if_neg c345).symm.trans hX
                          refine lv_iconst (v := 0) hx hb d15_59_324 (by decide) ?_
                          refine lv_goto (tgt := 330) hx hb d15_59_325 rfl ?_
                          have e9 := Option.some.inj h
                          subst e346
                          have hl := lv_sub hl (l' := [(0, .ref (q 0)), (1, .int a0), (2, .int a1), (3, .int x4), (4, .int y5), (5, .int v11), (6, .int v12), (7, .int e15), (8, .int e19), (9, .int y336)]) [1, 2, 3, 4, 5, 6, 7, 8, 9, 0] rfl
                          exact hj _ _ _ hl hP hD hS
                      ·
                        replace h := (if_pos c332).symm.trans h
                        refine lv_bipush (v := (-9)) hx hb d15_59_279 (by decide) ?_
                        cases h
                        exact fin_i hx hb hr hlk hS () rfl hP hD (Nat.le_of_ble_eq_true rfl) (Nat.le_of_ble_eq_true rfl) d15_59_281
                    clear h
                    refine lv_if_ge (tgt := 258) hx hb d15_59_251 rfl (fun c325 => ?_) (fun c325 => ?_)
                    ·
                      replace h := (if_pos c325).symm.trans hX
                      refine lv_aload_n hx hb d15_59_258 rfl (lv_at hl 1 rfl) ?_
                      refine va_get (D := G.1) (ci := 13) (v := .ref (q 20)) (C := r_13) (T := f_13) (N := 42) (ref := "PagedValuesModel") hx hb hts (fun w h => List.mem_cons_of_mem _ (ly_13 w h)) hown hK hP 0 rfl rfl 33 (by decide) (hts _ (List.mem_cons_of_mem _ k1184)) (fun _ h9 => h9) rfl d15_59_259 ?_
                      refine lv_iconst (v := 2) hx hb d15_59_262 (by decide) ?_
                      refine lv_iload_n hx hb d15_59_263 rfl (lv_at hl 4 rfl) ?_
                      refine lv_imul hx hb d15_59_264 ?_
                      obtain ⟨y348, hr, h⟩ := ob h
                      refine lv_topi (fun y9 ey => ?_)
                      have e9 := ey.trans (Option.some.inj hr)
                      clear ey
                      subst y9
                      clear hr
                      refine lv_iconst (v := 1) hx hb d15_59_265 (by decide) ?_
                      refine lv_iadd hx hb d15_59_266 ?_
                      obtain ⟨y349, hr, h⟩ := ob h
                      refine lv_topi (fun y9 ey => ?_)
                      have e9 := ey.trans (Option.some.inj hr)
                      clear ey
                      subst y9
                      clear hr
                      refine lv_iload hx hb d15_59_267 (lv_at hl 5 rfl) ?_
                      refine lv_isub hx hb d15_59_269 ?_
                      obtain ⟨y350, hr, h⟩ := ob h
                      refine lv_topi (fun y9 ey => ?_)
                      have e9 := ey.trans (Option.some.inj hr)
                      clear ey
                      subst y9
                      clear hr
                      obtain ⟨x351, hr, h⟩ := ob h
                      obtain ⟨hi, hv⟩ := rd_some hr
                      refine va_iald (D := G.1) hx hb hK hP 20 1 rfl rfl (i := y350) hi d15_59_270 ?_
                      refine lv_topi (fun y9 ey => ?_)
                      have e9 := ey.trans hv
                      clear ey
                      subst y9
                      clear hv hi hr
                      have e9 := Option.some.inj h
                      subst e326
                      have hl := lv_sub hl (l' := [(0, .ref (q 0)), (1, .int a0), (2, .int a1), (3, .int x4), (4, .int y5), (5, .int v11), (6, .int v12), (7, .int e15), (8, .int e19)]) [1, 2, 3, 4, 5, 6, 7, 8, 0] rfl
                      exact hj _ _ _ hl hP hD hS
                    ·
                      replace h := (if_neg c325).symm.trans hX
                      refine lv_iconst (v := (-1)) hx hb d15_59_254 (by decide) ?_
                      refine lv_goto (tgt := 271) hx hb d15_59_255 rfl ?_
                      have e9 := Option.some.inj h
                      subst e326
                      have hl := lv_sub hl (l' := [(0, .ref (q 0)), (1, .int a0), (2, .int a1), (3, .int x4), (4, .int y5), (5, .int v11), (6, .int v12), (7, .int e15), (8, .int e19)]) [1, 2, 3, 4, 5, 6, 7, 8, 0] rfl
                      exact hj _ _ _ hl hP hD hS
                ·
                  replace h := (if_pos c301).symm.trans h
                  refine lv_bipush (v := (-9)) hx hb d15_59_207 (by decide) ?_
                  cases h
                  exact fin_i hx hb hr hlk hS () rfl hP hD (Nat.le_of_ble_eq_true rfl) (Nat.le_of_ble_eq_true rfl) d15_59_209
            ·
              replace h := (if_neg c243).symm.trans h
              refine lv_iload hx hb d15_59_176 (lv_at hl 0 rfl) ?_
              refine lv_if_ge (tgt := 184) hx hb d15_59_178 rfl (fun c352 => ?_) (fun c352 => ?_)
              ·
                replace h := (if_pos c352).symm.trans h
                refine lv_iload hx hb d15_59_184 (lv_at hl 6 rfl) ?_
                refine lv_if_le (tgt := 210) hx hb d15_59_186 rfl (fun c353 => ?_) (fun c353 => ?_)
                ·
                  replace h := (if_pos c353).symm.trans h
                  refine lv_iload hx hb d15_59_210 (lv_at hl 0 rfl) ?_
                  refine lv_if_lt (tgt := 282) hx hb d15_59_212 rfl (fun c354 => ?_) (fun c354 => ?_)
                  ·
                    replace h := (if_pos c354).symm.trans h
                    refine lv_iconst (v := 1) hx hb d15_59_282 (by decide) ?_
                    refine lv_aload_n hx hb d15_59_283 rfl (lv_at hl 1 rfl) ?_
                    obtain ⟨x355, hc, h⟩ := ob h
                    refine sV_i (As := []) (rest := [.int 1]) ⟨hx, hb, hml, hown, hts⟩ (cm_current l G Zd q st x355 hc _) (kw_V (n := 0) hts k1396 k1393 k15 k1395 ks57 (by decide +kernel) ⟨Nat.le_of_ble_eq_true rfl, Nat.le_of_ble_eq_true rfl⟩) hP hD hK hS hA hZ (va_recv (ci := 13) (q0 := 0) hK hP rfl rfl) rfl hl.1 rfl (Nat.le_of_ble_eq_true rfl) d15_59_284 ⟨Nat.le_of_ble_eq_true rfl, Nat.le_of_ble_eq_true rfl⟩ (fun rr u9 H locs hp hP hD hS => ?_)
                    clear u9
                    subst rr
                    clear hc
                    refine W.eq (g2 := F0 m 287 ls [.int x355, .int 1]) rfl ?_
                    have hP : va_P G.1 vwCl (wMs q G.2 st) H := hP
                    have hD : va_D A (wMs q G.2 st) := hD
                    refine lv_isub hx hb d15_59_287 ?_
                    obtain ⟨y358, hr, h⟩ := ob h
                    refine lv_topi (fun y9 ey => ?_)
                    have e9 := ey.trans (Option.some.inj hr)
                    clear ey
                    subst y9
                    clear hr
                    refine lv_istore (lv' := [(9, .int y358), (8, .int e19), (0, .ref (q 0)), (1, .int a0), (2, .int a1), (3, .int x4), (4, .int y5), (5, .int v11), (6, .int v12), (7, .int e15)]) hx hb d15_59_288 hl (by decide) rfl (fun ls hl => ?_)
                    refine lv_aload_n hx hb d15_59_290 rfl (lv_at hl 2 rfl) ?_
                    refine va_get (D := G.1) (ci := 13) (v := .ref (q 23)) (C := r_13) (T := f_13) (N := 42) (ref := "PagedValuesModel") hx hb hts (fun w h => List.mem_cons_of_mem _ (ly_13 w h)) hown hK hP 0 rfl rfl 36 (by decide) (hts _ (List.mem_cons_of_mem _ k1187)) (fun _ h9 => h9) rfl d15_59_291 ?_
                    refine lv_iload hx hb d15_59_294 (lv_at hl 0 rfl) ?_
                    refine lv_aload_n hx hb d15_59_296 rfl (lv_at hl 2 rfl) ?_
                    refine va_get (D := G.1) (ci := 13) (v := .ref (q 23)) (C := r_13) (T := f_13) (N := 42) (ref := "PagedValuesModel") hx hb hts (fun w h => List.mem_cons_of_mem _ (ly_13 w h)) hown hK hP 0 rfl rfl 36 (by decide) (hts _ (List.mem_cons_of_mem _ k1187)) (fun _ h9 => h9) rfl d15_59_297 ?_
                    refine lv_iconst (v := 1) hx hb d15_59_300 (by decide) ?_
                    refine lv_iload hx hb d15_59_301 (lv_at hl 0 rfl) ?_
                    refine lv_isub hx hb d15_59_303 ?_
                    obtain ⟨y359, hr, h⟩ := ob h
                    refine lv_topi (fun y9 ey => ?_)
                    have e9 := ey.trans (Option.some.inj hr)
                    clear ey
                    subst y9
                    clear hr
                    obtain ⟨x360, hr, h⟩ := ob h
                    obtain ⟨hi, hv⟩ := rd_some hr
                    refine va_iald (D := G.1) hx hb hK hP 23 1 rfl rfl (i := y359) hi d15_59_304 ?_
                    refine lv_topi (fun y9 ey => ?_)
                    have e9 := ey.trans hv
                    clear ey
                    subst y9
                    clear hv hi hr
                    refine lv_iconst (v := 1) hx hb d15_59_305 (by decide) ?_
                    refine lv_iadd hx hb d15_59_306 ?_
                    obtain ⟨y361, hr, h⟩ := ob h
                    refine lv_topi (fun y9 ey => ?_)
                    have e9 := ey.trans (Option.some.inj hr)
                    clear ey
                    subst y9
                    clear hr
                    obtain ⟨k362z, hr, h⟩ := ob h
                    obtain ⟨hi, hk⟩ := ix_some hr
                    clear hr
                    refine va_iast (D := G.1) hx hb hK hP hD hS 23 1 rfl rfl (i := y358) (x := y361) hi d15_59_307 (fun H locs hP hD hS => ?_)
                    rw [hk] at hP hD
                    clear hk hi
                    have hP : va_P G.1 vwCl (wMs q G.2 (st.1, st.2.1, va_up st.2.2.1 16 (upd (st.2.2.1 16) k362z y361), st.2.2.2)) H := hP
                    have hD : va_D A (wMs q G.2 (st.1, st.2.1, va_up st.2.2.1 16 (upd (st.2.2.1 16) k362z y361), st.2.2.2)) := hD
                    refine lv_aload_n hx hb d15_59_308 rfl (lv_at hl 2 rfl) ?_
                    refine va_get (D := G.1) (ci := 13) (v := .ref (q 22)) (C := r_13) (T := f_13) (N := 42) (ref := "PagedValuesModel") hx hb hts (fun w h => List.mem_cons_of_mem _ (ly_13 w h)) hown hK hP 0 rfl rfl 35 (by decide) (hts _ (List.mem_cons_of_mem _ k1186)) (fun _ h9 => h9) rfl d15_59_309 ?_
                    refine lv_iload hx hb d15_59_312 (lv_at hl 0 rfl) ?_
                    refine lv_iload hx hb d15_59_314 (lv_at hl 1 rfl) ?_
                    obtain ⟨k363z, hr, h⟩ := ob h
                    obtain ⟨hi, hk⟩ := ix_some hr
                    clear hr
                    refine va_iast (D := G.1) hx hb hK hP hD hS 22 1 rfl rfl (i := y358) (x := e19) hi d15_59_316 (fun H locs hP hD hS => ?_)
                    rw [hk] at hP hD
                    clear hk hi
                    have hP : va_P G.1 vwCl (wMs q G.2 (st.1, st.2.1, va_up (va_up st.2.2.1 16 (upd (st.2.2.1 16) k362z y361)) 15 (upd (st.2.2.1 15) k363z e19), st.2.2.2)) H := hP
                    have hD : va_D A (wMs q G.2 (st.1, st.2.1, va_up (va_up st.2.2.1 16 (upd (st.2.2.1 16) k362z y361)) 15 (upd (st.2.2.1 15) k363z e19), st.2.2.2)) := hD
                    refine lv_aload_n hx hb d15_59_317 rfl (lv_at hl 2 rfl) ?_
                    obtain ⟨⟨x364, st365⟩, hc, h⟩ := ob h
                    refine sV_i (As := []) (rest := []) ⟨hx, hb, hml, hown, hts⟩ (cm_block l G Zd q (st.1, st.2.1, va_up (va_up st.2.2.1 16 (upd (st.2.2.1 16) k362z y361)) 15 (upd (st.2.2.1 15) k363z e19), st.2.2.2) x364 st365 hc _) (kw_V (n := 0) hts k1428 k1425 k15 k1427 ks65 (by decide +kernel) ⟨Nat.le_of_ble_eq_true rfl, Nat.le_of_ble_eq_true rfl⟩) hP hD hK hS hA hZ (va_recv (ci := 13) (q0 := 0) hK hP rfl rfl) rfl hl.1 rfl (Nat.le_of_ble_eq_true rfl) d15_59_318 ⟨Nat.le_of_ble_eq_true rfl, Nat.le_of_ble_eq_true rfl⟩ (fun rr u9 H locs hp hP hD hS => ?_)
                    clear u9
                    subst rr
                    clear hc
                    refine W.eq (g2 := F0 m 321 ls [.int x364]) rfl ?_
                    have hP : va_P G.1 vwCl (wMs q G.2 st365) H := hP
                    have hD : va_D A (wMs q G.2 st365) := hD
                    obtain ⟨e368, hX, h⟩ := ob h
                    have hj : ∀ (H : Heap) (locs : List Loc) (ls : Array Slot), lv_has ls 10 [(0, .ref (q 0)), (1, .int a0), (2, .int a1), (3, .int x4), (4, .int y5), (5, .int v11), (6, .int v12), (7, .int e15), (8, .int e19), (9, .int y358)] → va_P G.1 vwCl (wMs q G.2 st365) H → va_D A (wMs q G.2 st365) → va_S A s.heap H locs → W p l e (rmD 3 0 0) s m ([.ref (q 0), .int a0, .int a1] : List Value).toArray below meth c H locs 0 0 (MQ below (qI G (fun rr (_ : Unit) => rr = r0) (fun _ => (wMs q G.2 st0)) A) ([.ref (q 0), .int a0, .int a1] : List Value).toArray s 0 0 A) (F0 m 330 ls [.int e368]) := by
                      intro H locs ls hl hP hD hS
                      cases h
                      exact fin_i hx hb hr hlk hS () rfl hP hD (Nat.le_of_ble_eq_true rfl) (Nat.le_of_ble_eq_true rfl) d15_59_330
                    clear h
                    refine lv_if_eq (tgt := 328) hx hb d15_59_321 rfl (fun c367 => ?_) (fun c367 => ?_)
                    ·
                      replace h := (if_pos c367).symm.trans hX
                      refine lv_bipush (v := (-9)) hx hb d15_59_328 (by decide) ?_
                      have e9 := Option.some.inj h
                      subst e368
                      have hl := lv_sub hl (l' := [(0, .ref (q 0)), (1, .int a0), (2, .int a1), (3, .int x4), (4, .int y5), (5, .int v11), (6, .int v12), (7, .int e15), (8, .int e19), (9, .int y358)]) [2, 3, 4, 5, 6, 7, 8, 9, 1, 0] rfl
                      exact hj _ _ _ hl hP hD hS
                    ·
                      replace h := (if_neg c367).symm.trans hX
                      refine lv_iconst (v := 0) hx hb d15_59_324 (by decide) ?_
                      refine lv_goto (tgt := 330) hx hb d15_59_325 rfl ?_
                      have e9 := Option.some.inj h
                      subst e368
                      have hl := lv_sub hl (l' := [(0, .ref (q 0)), (1, .int a0), (2, .int a1), (3, .int x4), (4, .int y5), (5, .int v11), (6, .int v12), (7, .int e15), (8, .int e19), (9, .int y358)]) [2, 3, 4, 5, 6, 7, 8, 9, 1, 0] rfl
                      exact hj _ _ _ hl hP hD hS
                  ·
                    replace h := (if_neg c354).symm.trans h
                    refine lv_aload_n hx hb d15_59_215 rfl (lv_at hl 1 rfl) ?_
                    refine va_get (D := G.1) (ci := 13) (v := .ref (q 19)) (C := r_13) (T := f_13) (N := 42) (ref := "PagedValuesModel") hx hb hts (fun w h => List.mem_cons_of_mem _ (ly_13 w h)) hown hK hP 0 rfl rfl 32 (by decide) (hts _ (List.mem_cons_of_mem _ k1183)) (fun _ h9 => h9) rfl d15_59_216 ?_
                    refine lv_iload hx hb d15_59_219 (lv_at hl 0 rfl) ?_
                    refine lv_iconst (v := 1) hx hb d15_59_221 (by decide) ?_
                    obtain ⟨k370z, hr, h⟩ := ob h
                    obtain ⟨hi, hk⟩ := ix_some hr
                    clear hr
                    refine va_iast (D := G.1) hx hb hK hP hD hS 19 1 rfl rfl (i := e19) (x := (1 : Int32)) hi d15_59_222 (fun H locs hP hD hS => ?_)
                    rw [hk] at hP hD
                    clear hk hi
                    have hP : va_P G.1 vwCl (wMs q G.2 (st.1, st.2.1, va_up st.2.2.1 12 (upd (st.2.2.1 12) k370z (1 : Int32)), st.2.2.2)) H := hP
                    have hD : va_D A (wMs q G.2 (st.1, st.2.1, va_up st.2.2.1 12 (upd (st.2.2.1 12) k370z (1 : Int32)), st.2.2.2)) := hD
                    refine lv_aload_n hx hb d15_59_223 rfl (lv_at hl 1 rfl) ?_
                    refine va_get (D := G.1) (ci := 13) (v := .ref (q 20)) (C := r_13) (T := f_13) (N := 42) (ref := "PagedValuesModel") hx hb hts (fun w h => List.mem_cons_of_mem _ (ly_13 w h)) hown hK hP 0 rfl rfl 33 (by decide) (hts _ (List.mem_cons_of_mem _ k1184)) (fun _ h9 => h9) rfl d15_59_224 ?_
                    refine lv_iconst (v := 2) hx hb d15_59_227 (by decide) ?_
                    refine lv_iload hx hb d15_59_228 (lv_at hl 0 rfl) ?_
                    refine lv_imul hx hb d15_59_230 ?_
                    obtain ⟨y371, hr, h⟩ := ob h
                    refine lv_topi (fun y9 ey => ?_)
                    have e9 := ey.trans (Option.some.inj hr)
                    clear ey
                    subst y9
                    clear hr
                    refine lv_iload hx hb d15_59_231 (lv_at hl 5 rfl) ?_
                    refine lv_iadd hx hb d15_59_233 ?_
                    obtain ⟨y372, hr, h⟩ := ob h
                    refine lv_topi (fun y9 ey => ?_)
                    have e9 := ey.trans (Option.some.inj hr)
                    clear ey
                    subst y9
                    clear hr
                    refine lv_iload hx hb d15_59_234 (lv_at hl 8 rfl) ?_
                    obtain ⟨k373z, hr, h⟩ := ob h
                    obtain ⟨hi, hk⟩ := ix_some hr
                    clear hr
                    refine va_iast (D := G.1) hx hb hK hP hD hS 20 1 rfl rfl (i := y372) (x := e15) hi d15_59_236 (fun H locs hP hD hS => ?_)
                    rw [hk] at hP hD
                    clear hk hi
                    have hP : va_P G.1 vwCl (wMs q G.2 (st.1, st.2.1, va_up (va_up st.2.2.1 12 (upd (st.2.2.1 12) k370z (1 : Int32))) 13 (upd (st.2.2.1 13) k373z e15), st.2.2.2)) H := hP
                    have hD : va_D A (wMs q G.2 (st.1, st.2.1, va_up (va_up st.2.2.1 12 (upd (st.2.2.1 12) k370z (1 : Int32))) 13 (upd (st.2.2.1 13) k373z e15), st.2.2.2)) := hD
                    refine lv_aload_n hx hb d15_59_237 rfl (lv_at hl 1 rfl) ?_
                    refine va_get (D := G.1) (ci := 13) (v := .ref (q 20)) (C := r_13) (T := f_13) (N := 42) (ref := "PagedValuesModel") hx hb hts (fun w h => List.mem_cons_of_mem _ (ly_13 w h)) hown hK hP 0 rfl rfl 33 (by decide) (hts _ (List.mem_cons_of_mem _ k1184)) (fun _ h9 => h9) rfl d15_59_238 ?_
                    refine lv_iconst (v := 2) hx hb d15_59_241 (by decide) ?_
                    refine lv_iload hx hb d15_59_242 (lv_at hl 0 rfl) ?_
                    refine lv_imul hx hb d15_59_244 ?_
                    obtain ⟨y374, hr, h⟩ := ob h
                    refine lv_topi (fun y9 ey => ?_)
                    have e9 := ey.trans (Option.some.inj hr)
                    clear ey
                    subst y9
                    clear hr
                    refine lv_iconst (v := 1) hx hb d15_59_245 (by decide) ?_
                    refine lv_iadd hx hb d15_59_246 ?_
                    obtain ⟨y375, hr, h⟩ := ob h
                    refine lv_topi (fun y9 ey => ?_)
                    have e9 := ey.trans (Option.some.inj hr)
                    clear ey
                    subst y9
                    clear hr
                    refine lv_iload hx hb d15_59_247 (lv_at hl 5 rfl) ?_
                    refine lv_isub hx hb d15_59_249 ?_
                    obtain ⟨y376, hr, h⟩ := ob h
                    refine lv_topi (fun y9 ey => ?_)
                    have e9 := ey.trans (Option.some.inj hr)
                    clear ey
                    subst y9
                    clear hr
                    refine lv_iload_n hx hb d15_59_250 rfl (lv_at hl 4 rfl) ?_
                    obtain ⟨e378, hX, h⟩ := ob h
                    have hj : ∀ (H : Heap) (locs : List Loc) (ls : Array Slot), lv_has ls 10 [(0, .ref (q 0)), (1, .int a0), (2, .int a1), (3, .int x4), (4, .int y5), (5, .int v11), (6, .int v12), (7, .int e15), (8, .int e19)] → va_P G.1 vwCl (wMs q G.2 (st.1, st.2.1, va_up (va_up st.2.2.1 12 (upd (st.2.2.1 12) k370z (1 : Int32))) 13 (upd (st.2.2.1 13) k373z e15), st.2.2.2)) H → va_D A (wMs q G.2 (st.1, st.2.1, va_up (va_up st.2.2.1 12 (upd (st.2.2.1 12) k370z (1 : Int32))) 13 (upd (st.2.2.1 13) k373z e15), st.2.2.2)) → va_S A s.heap H locs → W p l e (rmD 3 0 0) s m ([.ref (q 0), .int a0, .int a1] : List Value).toArray below meth c H locs 0 0 (MQ below (qI G (fun rr (_ : Unit) => rr = r0) (fun _ => (wMs q G.2 st0)) A) ([.ref (q 0), .int a0, .int a1] : List Value).toArray s 0 0 A) (F0 m 271 ls [.int e378, .int y376, .ref (q 20)]) := by
                      intro H locs ls hl hP hD hS
                      obtain ⟨k380z, hr, h⟩ := ob h
                      obtain ⟨hi, hk⟩ := ix_some hr
                      clear hr
                      refine va_iast (D := G.1) hx hb hK hP hD hS 20 1 rfl rfl (i := y376) (x := e378) hi d15_59_271 (fun H locs hP hD hS => ?_)
                      rw [hk] at hP hD
                      clear hk hi
                      have hP : va_P G.1 vwCl (wMs q G.2 (st.1, st.2.1, va_up (va_up st.2.2.1 12 (upd (st.2.2.1 12) k370z (1 : Int32))) 13 (upd (upd (st.2.2.1 13) k373z e15) k380z e378), st.2.2.2)) H := hP
                      have hD : va_D A (wMs q G.2 (st.1, st.2.1, va_up (va_up st.2.2.1 12 (upd (st.2.2.1 12) k370z (1 : Int32))) 13 (upd (upd (st.2.2.1 13) k373z e15) k380z e378), st.2.2.2)) := hD
                      refine lv_aload_n hx hb d15_59_272 rfl (lv_at hl 0 rfl) ?_
                      obtain ⟨⟨x381, st382⟩, hc, h⟩ := ob h
                      refine sV_i (As := []) (rest := []) ⟨hx, hb, hml, hown, hts⟩ (cm_block l G Zd q (st.1, st.2.1, va_up (va_up st.2.2.1 12 (upd (st.2.2.1 12) k370z (1 : Int32))) 13 (upd (upd (st.2.2.1 13) k373z e15) k380z e378), st.2.2.2) x381 st382 hc _) (kw_V (n := 0) hts k1428 k1425 k15 k1427 ks65 (by decide +kernel) ⟨Nat.le_of_ble_eq_true rfl, Nat.le_of_ble_eq_true rfl⟩) hP hD hK hS hA hZ (va_recv (ci := 13) (q0 := 0) hK hP rfl rfl) rfl hl.1 rfl (Nat.le_of_ble_eq_true rfl) d15_59_273 ⟨Nat.le_of_ble_eq_true rfl, Nat.le_of_ble_eq_true rfl⟩ (fun rr u9 H locs hp hP hD hS => ?_)
                      clear u9
                      subst rr
                      clear hc
                      refine W.eq (g2 := F0 m 276 ls [.int x381]) rfl ?_
                      have hP : va_P G.1 vwCl (wMs q G.2 st382) H := hP
                      have hD : va_D A (wMs q G.2 st382) := hD
                      refine lv_if_ne (tgt := 282) hx hb d15_59_276 rfl (fun c384 => ?_) (fun c384 => ?_)
                      ·
                        replace h := (if_neg c384).symm.trans h
                        refine lv_iconst (v := 1) hx hb d15_59_282 (by decide) ?_
                        refine lv_aload_n hx hb d15_59_283 rfl (lv_at hl 0 rfl) ?_
                        obtain ⟨x385, hc, h⟩ := ob h
                        refine sV_i (As := []) (rest := [.int 1]) ⟨hx, hb, hml, hown, hts⟩ (cm_current l G Zd q st382 x385 hc _) (kw_V (n := 0) hts k1396 k1393 k15 k1395 ks57 (by decide +kernel) ⟨Nat.le_of_ble_eq_true rfl, Nat.le_of_ble_eq_true rfl⟩) hP hD hK hS hA hZ (va_recv (ci := 13) (q0 := 0) hK hP rfl rfl) rfl hl.1 rfl (Nat.le_of_ble_eq_true rfl) d15_59_284 ⟨Nat.le_of_ble_eq_true rfl, Nat.le_of_ble_eq_true rfl⟩ (fun rr u9 H locs hp hP hD hS => ?_)
                        clear u9
                        subst rr
                        clear hc
                        refine W.eq (g2 := F0 m 287 ls [.int x385, .int 1]) rfl ?_
                        have hP : va_P G.1 vwCl (wMs q G.2 st382) H := hP
                        have hD : va_D A (wMs q G.2 st382) := hD
                        refine lv_isub hx hb d15_59_287 ?_
                        obtain ⟨y388, hr, h⟩ := ob h
                        refine lv_topi (fun y9 ey => ?_)
                        have e9 := ey.trans (Option.some.inj hr)
                        clear ey
                        subst y9
                        clear hr
                        refine lv_istore (lv' := [(9, .int y388), (0, .ref (q 0)), (1, .int a0), (2, .int a1), (3, .int x4), (4, .int y5), (5, .int v11), (6, .int v12), (7, .int e15), (8, .int e19)]) hx hb d15_59_288 hl (by decide) rfl (fun ls hl => ?_)
                        refine lv_aload_n hx hb d15_59_290 rfl (lv_at hl 1 rfl) ?_
                        refine va_get (D := G.1) (ci := 13) (v := .ref (q 23)) (C := r_13) (T := f_13) (N := 42) (ref := "PagedValuesModel") hx hb hts (fun w h => List.mem_cons_of_mem _ (ly_13 w h)) hown hK hP 0 rfl rfl 36 (by decide) (hts _ (List.mem_cons_of_mem _ k1187)) (fun _ h9 => h9) rfl d15_59_291 ?_
                        refine lv_iload hx hb d15_59_294 (lv_at hl 0 rfl) ?_
                        refine lv_aload_n hx hb d15_59_296 rfl (lv_at hl 1 rfl) ?_
                        refine va_get (D := G.1) (ci := 13) (v := .ref (q 23)) (C := r_13) (T := f_13) (N := 42) (ref := "PagedValuesModel") hx hb hts (fun w h => List.mem_cons_of_mem _ (ly_13 w h)) hown hK hP 0 rfl rfl 36 (by decide) (hts _ (List.mem_cons_of_mem _ k1187)) (fun _ h9 => h9) rfl d15_59_297 ?_
                        refine lv_iconst (v := 1) hx hb d15_59_300 (by decide) ?_
                        refine lv_iload hx hb d15_59_301 (lv_at hl 0 rfl) ?_
                        refine lv_isub hx hb d15_59_303 ?_
                        obtain ⟨y389, hr, h⟩ := ob h
                        refine lv_topi (fun y9 ey => ?_)
                        have e9 := ey.trans (Option.some.inj hr)
                        clear ey
                        subst y9
                        clear hr
                        obtain ⟨x390, hr, h⟩ := ob h
                        obtain ⟨hi, hv⟩ := rd_some hr
                        refine va_iald (D := G.1) hx hb hK hP 23 1 rfl rfl (i := y389) hi d15_59_304 ?_
                        refine lv_topi (fun y9 ey => ?_)
                        have e9 := ey.trans hv
                        clear ey
                        subst y9
                        clear hv hi hr
                        refine lv_iconst (v := 1) hx hb d15_59_305 (by decide) ?_
                        refine lv_iadd hx hb d15_59_306 ?_
                        obtain ⟨y391, hr, h⟩ := ob h
                        refine lv_topi (fun y9 ey => ?_)
                        have e9 := ey.trans (Option.some.inj hr)
                        clear ey
                        subst y9
                        clear hr
                        obtain ⟨k392z, hr, h⟩ := ob h
                        obtain ⟨hi, hk⟩ := ix_some hr
                        clear hr
                        refine va_iast (D := G.1) hx hb hK hP hD hS 23 1 rfl rfl (i := y388) (x := y391) hi d15_59_307 (fun H locs hP hD hS => ?_)
                        rw [hk] at hP hD
                        clear hk hi
                        have hP : va_P G.1 vwCl (wMs q G.2 (st382.1, st382.2.1, va_up st382.2.2.1 16 (upd (st382.2.2.1 16) k392z y391), st382.2.2.2)) H := hP
                        have hD : va_D A (wMs q G.2 (st382.1, st382.2.1, va_up st382.2.2.1 16 (upd (st382.2.2.1 16) k392z y391), st382.2.2.2)) := hD
                        refine lv_aload_n hx hb d15_59_308 rfl (lv_at hl 1 rfl) ?_
                        refine va_get (D := G.1) (ci := 13) (v := .ref (q 22)) (C := r_13) (T := f_13) (N := 42) (ref := "PagedValuesModel") hx hb hts (fun w h => List.mem_cons_of_mem _ (ly_13 w h)) hown hK hP 0 rfl rfl 35 (by decide) (hts _ (List.mem_cons_of_mem _ k1186)) (fun _ h9 => h9) rfl d15_59_309 ?_
                        refine lv_iload hx hb d15_59_312 (lv_at hl 0 rfl) ?_
                        refine lv_iload hx hb d15_59_314 (lv_at hl 9 rfl) ?_
                        obtain ⟨k393z, hr, h⟩ := ob h
                        obtain ⟨hi, hk⟩ := ix_some hr
                        clear hr
                        refine va_iast (D := G.1) hx hb hK hP hD hS 22 1 rfl rfl (i := y388) (x := e19) hi d15_59_316 (fun H locs hP hD hS => ?_)
                        rw [hk] at hP hD
                        clear hk hi
                        have hP : va_P G.1 vwCl (wMs q G.2 (st382.1, st382.2.1, va_up (va_up st382.2.2.1 16 (upd (st382.2.2.1 16) k392z y391)) 15 (upd (st382.2.2.1 15) k393z e19), st382.2.2.2)) H := hP
                        have hD : va_D A (wMs q G.2 (st382.1, st382.2.1, va_up (va_up st382.2.2.1 16 (upd (st382.2.2.1 16) k392z y391)) 15 (upd (st382.2.2.1 15) k393z e19), st382.2.2.2)) := hD
                        refine lv_aload_n hx hb d15_59_317 rfl (lv_at hl 1 rfl) ?_
                        obtain ⟨⟨x394, st395⟩, hc, h⟩ := ob h
                        refine sV_i (As := []) (rest := []) ⟨hx, hb, hml, hown, hts⟩ (cm_block l G Zd q (st382.1, st382.2.1, va_up (va_up st382.2.2.1 16 (upd (st382.2.2.1 16) k392z y391)) 15 (upd (st382.2.2.1 15) k393z e19), st382.2.2.2) x394 st395 hc _) (kw_V (n := 0) hts k1428 k1425 k15 k1427 ks65 (by decide +kernel) ⟨Nat.le_of_ble_eq_true rfl, Nat.le_of_ble_eq_true rfl⟩) hP hD hK hS hA hZ (va_recv (ci := 13) (q0 := 0) hK hP rfl rfl) rfl hl.1 rfl (Nat.le_of_ble_eq_true rfl) d15_59_318 ⟨Nat.le_of_ble_eq_true rfl, Nat.le_of_ble_eq_true rfl⟩ (fun rr u9 H locs hp hP hD hS => ?_)
                        clear u9
                        subst rr
                        clear hc
                        refine W.eq (g2 := F0 m 321 ls [.int x394]) rfl ?_
                        have hP : va_P G.1 vwCl (wMs q G.2 st395) H := hP
                        have hD : va_D A (wMs q G.2 st395) := hD
                        obtain ⟨e398, hX, h⟩ := ob h
                        have hj : ∀ (H : Heap) (locs : List Loc) (ls : Array Slot), lv_has ls 10 [(0, .ref (q 0)), (1, .int a0), (2, .int a1), (3, .int x4), (4, .int y5), (5, .int v11), (6, .int v12), (7, .int e15), (8, .int e19), (9, .int y388)] → va_P G.1 vwCl (wMs q G.2 st395) H → va_D A (wMs q G.2 st395) → va_S A s.heap H locs → W p l e (rmD 3 0 0) s m ([.ref (q 0), .int a0, .int a1] : List Value).toArray below meth c H locs 0 0 (MQ below (qI G (fun rr (_ : Unit) => rr = r0) (fun _ => (wMs q G.2 st0)) A) ([.ref (q 0), .int a0, .int a1] : List Value).toArray s 0 0 A) (F0 m 330 ls [.int e398]) := by
                          intro H locs ls hl hP hD hS
                          cases h
                          exact fin_i hx hb hr hlk hS () rfl hP hD (Nat.le_of_ble_eq_true rfl) (Nat.le_of_ble_eq_true rfl) d15_59_330
                        clear h
                        refine lv_if_eq (tgt := 328) hx hb d15_59_321 rfl (fun c397 => ?_) (fun c397 => ?_)
                        ·
                          replace h := (if_pos c397).symm.trans hX
                          refine lv_bipush (v := (-9)) hx hb d15_59_328 (by decide) ?_
                          have e9 := Option.some.inj h
                          subst e398
                          have hl := lv_sub hl (l' := [(0, .ref (q 0)), (1, .int a0), (2, .int a1), (3, .int x4), (4, .int y5), (5, .int v11), (6, .int v12), (7, .int e15), (8, .int e19), (9, .int y388)]) [1, 2, 3, 4, 5, 6, 7, 8, 9, 0] rfl
                          exact hj _ _ _ hl hP hD hS
                        ·
                          replace h := (if_neg c397).symm.trans hX
                          refine lv_iconst (v := 0) hx hb d15_59_324 (by decide) ?_
                          refine lv_goto (tgt := 330) hx hb d15_59_325 rfl ?_
                          have e9 := Option.some.inj h
                          subst e398
                          have hl := lv_sub hl (l' := [(0, .ref (q 0)), (1, .int a0), (2, .int a1), (3, .int x4), (4, .int y5), (5, .int v11), (6, .int v12), (7, .int e15), (8, .int e19), (9, .int y388)]) [1, 2, 3, 4, 5, 6, 7, 8, 9, 0] rfl
                          exact hj _ _ _ hl hP hD hS
                      ·
                        replace h := (if_pos c384).symm.trans h
                        refine lv_bipush (v := (-9)) hx hb d15_59_279 (by decide) ?_
                        cases h
                        exact fin_i hx hb hr hlk hS () rfl hP hD (Nat.le_of_ble_eq_true rfl) (Nat.le_of_ble_eq_true rfl) d15_59_281
                    clear h
                    refine lv_if_ge (tgt := 258) hx hb d15_59_251 rfl (fun c377 => ?_) (fun c377 => ?_)
                    ·
                      replace h := (if_pos c377).symm.trans hX
                      refine lv_aload_n hx hb d15_59_258 rfl (lv_at hl 1 rfl) ?_
                      refine va_get (D := G.1) (ci := 13) (v := .ref (q 20)) (C := r_13) (T := f_13) (N := 42) (ref := "PagedValuesModel") hx hb hts (fun w h => List.mem_cons_of_mem _ (ly_13 w h)) hown hK hP 0 rfl rfl 33 (by decide) (hts _ (List.mem_cons_of_mem _ k1184)) (fun _ h9 => h9) rfl d15_59_259 ?_
                      refine lv_iconst (v := 2) hx hb d15_59_262 (by decide) ?_
                      refine lv_iload_n hx hb d15_59_263 rfl (lv_at hl 4 rfl) ?_
                      refine lv_imul hx hb d15_59_264 ?_
                      obtain ⟨y400, hr, h⟩ := ob h
                      refine lv_topi (fun y9 ey => ?_)
                      have e9 := ey.trans (Option.some.inj hr)
                      clear ey
                      subst y9
                      clear hr
                      refine lv_iconst (v := 1) hx hb d15_59_265 (by decide) ?_
                      refine lv_iadd hx hb d15_59_266 ?_
                      obtain ⟨y401, hr, h⟩ := ob h
                      refine lv_topi (fun y9 ey => ?_)
                      have e9 := ey.trans (Option.some.inj hr)
                      clear ey
                      subst y9
                      clear hr
                      refine lv_iload hx hb d15_59_267 (lv_at hl 5 rfl) ?_
                      refine lv_isub hx hb d15_59_269 ?_
                      obtain ⟨y402, hr, h⟩ := ob h
                      refine lv_topi (fun y9 ey => ?_)
                      have e9 := ey.trans (Option.some.inj hr)
                      clear ey
                      subst y9
                      clear hr
                      obtain ⟨x403, hr, h⟩ := ob h
                      obtain ⟨hi, hv⟩ := rd_some hr
                      refine va_iald (D := G.1) hx hb hK hP 20 1 rfl rfl (i := y402) hi d15_59_270 ?_
                      refine lv_topi (fun y9 ey => ?_)
                      have e9 := ey.trans hv
                      clear ey
                      subst y9
                      clear hv hi hr
                      have e9 := Option.some.inj h
                      subst e378
                      have hl := lv_sub hl (l' := [(0, .ref (q 0)), (1, .int a0), (2, .int a1), (3, .int x4), (4, .int y5), (5, .int v11), (6, .int v12), (7, .int e15), (8, .int e19)]) [1, 2, 3, 4, 5, 6, 7, 8, 0] rfl
                      exact hj _ _ _ hl hP hD hS
                    ·
                      replace h := (if_neg c377).symm.trans hX
                      refine lv_iconst (v := (-1)) hx hb d15_59_254 (by decide) ?_
                      refine lv_goto (tgt := 271) hx hb d15_59_255 rfl ?_
                      have e9 := Option.some.inj h
                      subst e378
                      have hl := lv_sub hl (l' := [(0, .ref (q 0)), (1, .int a0), (2, .int a1), (3, .int x4), (4, .int y5), (5, .int v11), (6, .int v12), (7, .int e15), (8, .int e19)]) [1, 2, 3, 4, 5, 6, 7, 8, 0] rfl
                      exact hj _ _ _ hl hP hD hS
                ·
                  replace h := (if_neg c353).symm.trans h
                  refine lv_aload_n hx hb d15_59_189 rfl (lv_at hl 1 rfl) ?_
                  refine lv_iload hx hb d15_59_190 (lv_at hl 8 rfl) ?_
                  refine lv_iload_n hx hb d15_59_192 rfl (lv_at hl 4 rfl) ?_
                  refine lv_iload hx hb d15_59_193 (lv_at hl 5 rfl) ?_
                  refine lv_iload_n hx hb d15_59_195 rfl (lv_at hl 2 rfl) ?_
                  refine lv_iload_n hx hb d15_59_196 rfl (lv_at hl 3 rfl) ?_
                  obtain ⟨st405, hc, h⟩ := ob h
                  refine sV_v (As := [.int e15, .int x4, .int y5, .int a0, .int a1]) (rest := []) ⟨hx, hb, hml, hown, hts⟩ (cm_writeLeaf l G Zd q e15 x4 y5 a0 a1 st st405 hc _) (kw_V (n := 5) hts k1416 k1413 k15 k1415 ks62 (by decide +kernel) ⟨Nat.le_of_ble_eq_true rfl, Nat.le_of_ble_eq_true rfl⟩) hP hD hK hS hA hZ (va_recv (ci := 13) (q0 := 0) hK hP rfl rfl) rfl hl.1 rfl (Nat.le_of_ble_eq_true rfl) d15_59_197 ⟨Nat.le_of_ble_eq_true rfl, Nat.le_of_ble_eq_true rfl⟩ (fun u9 H locs hp hP hD hS => ?_)
                  clear u9
                  clear hp
                  clear hc
                  refine W.eq (g2 := F0 m 200 ls []) rfl ?_
                  have hP : va_P G.1 vwCl (wMs q G.2 st405) H := hP
                  have hD : va_D A (wMs q G.2 st405) := hD
                  refine lv_aload_n hx hb d15_59_200 rfl (lv_at hl 1 rfl) ?_
                  obtain ⟨⟨x407, st408⟩, hc, h⟩ := ob h
                  refine sV_i (As := []) (rest := []) ⟨hx, hb, hml, hown, hts⟩ (cm_block l G Zd q st405 x407 st408 hc _) (kw_V (n := 0) hts k1428 k1425 k15 k1427 ks65 (by decide +kernel) ⟨Nat.le_of_ble_eq_true rfl, Nat.le_of_ble_eq_true rfl⟩) hP hD hK hS hA hZ (va_recv (ci := 13) (q0 := 0) hK hP rfl rfl) rfl hl.1 rfl (Nat.le_of_ble_eq_true rfl) d15_59_201 ⟨Nat.le_of_ble_eq_true rfl, Nat.le_of_ble_eq_true rfl⟩ (fun rr u9 H locs hp hP hD hS => ?_)
                  clear u9
                  subst rr
                  clear hc
                  refine W.eq (g2 := F0 m 204 ls [.int x407]) rfl ?_
                  have hP : va_P G.1 vwCl (wMs q G.2 st408) H := hP
                  have hD : va_D A (wMs q G.2 st408) := hD
                  refine lv_if_ne (tgt := 210) hx hb d15_59_204 rfl (fun c410 => ?_) (fun c410 => ?_)
                  ·
                    replace h := (if_neg c410).symm.trans h
                    refine lv_iload hx hb d15_59_210 (lv_at hl 0 rfl) ?_
                    refine lv_if_lt (tgt := 282) hx hb d15_59_212 rfl (fun c411 => ?_) (fun c411 => ?_)
                    ·
                      replace h := (if_pos c411).symm.trans h
                      refine lv_iconst (v := 1) hx hb d15_59_282 (by decide) ?_
                      refine lv_aload_n hx hb d15_59_283 rfl (lv_at hl 1 rfl) ?_
                      obtain ⟨x412, hc, h⟩ := ob h
                      refine sV_i (As := []) (rest := [.int 1]) ⟨hx, hb, hml, hown, hts⟩ (cm_current l G Zd q st408 x412 hc _) (kw_V (n := 0) hts k1396 k1393 k15 k1395 ks57 (by decide +kernel) ⟨Nat.le_of_ble_eq_true rfl, Nat.le_of_ble_eq_true rfl⟩) hP hD hK hS hA hZ (va_recv (ci := 13) (q0 := 0) hK hP rfl rfl) rfl hl.1 rfl (Nat.le_of_ble_eq_true rfl) d15_59_284 ⟨Nat.le_of_ble_eq_true rfl, Nat.le_of_ble_eq_true rfl⟩ (fun rr u9 H locs hp hP hD hS => ?_)
                      clear u9
                      subst rr
                      clear hc
                      refine W.eq (g2 := F0 m 287 ls [.int x412, .int 1]) rfl ?_
                      have hP : va_P G.1 vwCl (wMs q G.2 st408) H := hP
                      have hD : va_D A (wMs q G.2 st408) := hD
                      refine lv_isub hx hb d15_59_287 ?_
                      obtain ⟨y415, hr, h⟩ := ob h
                      refine lv_topi (fun y9 ey => ?_)
                      have e9 := ey.trans (Option.some.inj hr)
                      clear ey
                      subst y9
                      clear hr
                      refine lv_istore (lv' := [(9, .int y415), (8, .int e19), (0, .ref (q 0)), (1, .int a0), (2, .int a1), (3, .int x4), (4, .int y5), (5, .int v11), (6, .int v12), (7, .int e15)]) hx hb d15_59_288 hl (by decide) rfl (fun ls hl => ?_)
                      refine lv_aload_n hx hb d15_59_290 rfl (lv_at hl 2 rfl) ?_
                      refine va_get (D := G.1) (ci := 13) (v := .ref (q 23)) (C := r_13) (T := f_13) (N := 42) (ref := "PagedValuesModel") hx hb hts (fun w h => List.mem_cons_of_mem _ (ly_13 w h)) hown hK hP 0 rfl rfl 36 (by decide) (hts _ (List.mem_cons_of_mem _ k1187)) (fun _ h9 => h9) rfl d15_59_291 ?_
                      refine lv_iload hx hb d15_59_294 (lv_at hl 0 rfl) ?_
                      refine lv_aload_n hx hb d15_59_296 rfl (lv_at hl 2 rfl) ?_
                      refine va_get (D := G.1) (ci := 13) (v := .ref (q 23)) (C := r_13) (T := f_13) (N := 42) (ref := "PagedValuesModel") hx hb hts (fun w h => List.mem_cons_of_mem _ (ly_13 w h)) hown hK hP 0 rfl rfl 36 (by decide) (hts _ (List.mem_cons_of_mem _ k1187)) (fun _ h9 => h9) rfl d15_59_297 ?_
                      refine lv_iconst (v := 1) hx hb d15_59_300 (by decide) ?_
                      refine lv_iload hx hb d15_59_301 (lv_at hl 0 rfl) ?_
                      refine lv_isub hx hb d15_59_303 ?_
                      obtain ⟨y416, hr, h⟩ := ob h
                      refine lv_topi (fun y9 ey => ?_)
                      have e9 := ey.trans (Option.some.inj hr)
                      clear ey
                      subst y9
                      clear hr
                      obtain ⟨x417, hr, h⟩ := ob h
                      obtain ⟨hi, hv⟩ := rd_some hr
                      refine va_iald (D := G.1) hx hb hK hP 23 1 rfl rfl (i := y416) hi d15_59_304 ?_
                      refine lv_topi (fun y9 ey => ?_)
                      have e9 := ey.trans hv
                      clear ey
                      subst y9
                      clear hv hi hr
                      refine lv_iconst (v := 1) hx hb d15_59_305 (by decide) ?_
                      refine lv_iadd hx hb d15_59_306 ?_
                      obtain ⟨y418, hr, h⟩ := ob h
                      refine lv_topi (fun y9 ey => ?_)
                      have e9 := ey.trans (Option.some.inj hr)
                      clear ey
                      subst y9
                      clear hr
                      obtain ⟨k419z, hr, h⟩ := ob h
                      obtain ⟨hi, hk⟩ := ix_some hr
                      clear hr
                      refine va_iast (D := G.1) hx hb hK hP hD hS 23 1 rfl rfl (i := y415) (x := y418) hi d15_59_307 (fun H locs hP hD hS => ?_)
                      rw [hk] at hP hD
                      clear hk hi
                      have hP : va_P G.1 vwCl (wMs q G.2 (st408.1, st408.2.1, va_up st408.2.2.1 16 (upd (st408.2.2.1 16) k419z y418), st408.2.2.2)) H := hP
                      have hD : va_D A (wMs q G.2 (st408.1, st408.2.1, va_up st408.2.2.1 16 (upd (st408.2.2.1 16) k419z y418), st408.2.2.2)) := hD
                      refine lv_aload_n hx hb d15_59_308 rfl (lv_at hl 2 rfl) ?_
                      refine va_get (D := G.1) (ci := 13) (v := .ref (q 22)) (C := r_13) (T := f_13) (N := 42) (ref := "PagedValuesModel") hx hb hts (fun w h => List.mem_cons_of_mem _ (ly_13 w h)) hown hK hP 0 rfl rfl 35 (by decide) (hts _ (List.mem_cons_of_mem _ k1186)) (fun _ h9 => h9) rfl d15_59_309 ?_
                      refine lv_iload hx hb d15_59_312 (lv_at hl 0 rfl) ?_
                      refine lv_iload hx hb d15_59_314 (lv_at hl 1 rfl) ?_
                      obtain ⟨k420z, hr, h⟩ := ob h
                      obtain ⟨hi, hk⟩ := ix_some hr
                      clear hr
                      refine va_iast (D := G.1) hx hb hK hP hD hS 22 1 rfl rfl (i := y415) (x := e19) hi d15_59_316 (fun H locs hP hD hS => ?_)
                      rw [hk] at hP hD
                      clear hk hi
                      have hP : va_P G.1 vwCl (wMs q G.2 (st408.1, st408.2.1, va_up (va_up st408.2.2.1 16 (upd (st408.2.2.1 16) k419z y418)) 15 (upd (st408.2.2.1 15) k420z e19), st408.2.2.2)) H := hP
                      have hD : va_D A (wMs q G.2 (st408.1, st408.2.1, va_up (va_up st408.2.2.1 16 (upd (st408.2.2.1 16) k419z y418)) 15 (upd (st408.2.2.1 15) k420z e19), st408.2.2.2)) := hD
                      refine lv_aload_n hx hb d15_59_317 rfl (lv_at hl 2 rfl) ?_
                      obtain ⟨⟨x421, st422⟩, hc, h⟩ := ob h
                      refine sV_i (As := []) (rest := []) ⟨hx, hb, hml, hown, hts⟩ (cm_block l G Zd q (st408.1, st408.2.1, va_up (va_up st408.2.2.1 16 (upd (st408.2.2.1 16) k419z y418)) 15 (upd (st408.2.2.1 15) k420z e19), st408.2.2.2) x421 st422 hc _) (kw_V (n := 0) hts k1428 k1425 k15 k1427 ks65 (by decide +kernel) ⟨Nat.le_of_ble_eq_true rfl, Nat.le_of_ble_eq_true rfl⟩) hP hD hK hS hA hZ (va_recv (ci := 13) (q0 := 0) hK hP rfl rfl) rfl hl.1 rfl (Nat.le_of_ble_eq_true rfl) d15_59_318 ⟨Nat.le_of_ble_eq_true rfl, Nat.le_of_ble_eq_true rfl⟩ (fun rr u9 H locs hp hP hD hS => ?_)
                      clear u9
                      subst rr
                      clear hc
                      refine W.eq (g2 := F0 m 321 ls [.int x421]) rfl ?_
                      have hP : va_P G.1 vwCl (wMs q G.2 st422) H := hP
                      have hD : va_D A (wMs q G.2 st422) := hD
                      obtain ⟨e425, hX, h⟩ := ob h
                      have hj : ∀ (H : Heap) (locs : List Loc) (ls : Array Slot), lv_has ls 10 [(0, .ref (q 0)), (1, .int a0), (2, .int a1), (3, .int x4), (4, .int y5), (5, .int v11), (6, .int v12), (7, .int e15), (8, .int e19), (9, .int y415)] → va_P G.1 vwCl (wMs q G.2 st422) H → va_D A (wMs q G.2 st422) → va_S A s.heap H locs → W p l e (rmD 3 0 0) s m ([.ref (q 0), .int a0, .int a1] : List Value).toArray below meth c H locs 0 0 (MQ below (qI G (fun rr (_ : Unit) => rr = r0) (fun _ => (wMs q G.2 st0)) A) ([.ref (q 0), .int a0, .int a1] : List Value).toArray s 0 0 A) (F0 m 330 ls [.int e425]) := by
                        intro H locs ls hl hP hD hS
                        cases h
                        exact fin_i hx hb hr hlk hS () rfl hP hD (Nat.le_of_ble_eq_true rfl) (Nat.le_of_ble_eq_true rfl) d15_59_330
                      clear h
                      refine lv_if_eq (tgt := 328) hx hb d15_59_321 rfl (fun c424 => ?_) (fun c424 => ?_)
                      ·
                        replace h := (if_pos c424).symm.trans hX
                        refine lv_bipush (v := (-9)) hx hb d15_59_328 (by decide) ?_
                        have e9 := Option.some.inj h
                        subst e425
                        have hl := lv_sub hl (l' := [(0, .ref (q 0)), (1, .int a0), (2, .int a1), (3, .int x4), (4, .int y5), (5, .int v11), (6, .int v12), (7, .int e15), (8, .int e19), (9, .int y415)]) [2, 3, 4, 5, 6, 7, 8, 9, 1, 0] rfl
                        exact hj _ _ _ hl hP hD hS
                      ·
                        replace h := (if_neg c424).symm.trans hX
                        refine lv_iconst (v := 0) hx hb d15_59_324 (by decide) ?_
                        refine lv_goto (tgt := 330) hx hb d15_59_325 rfl ?_
                        have e9 := Option.some.inj h
                        subst e425
                        have hl := lv_sub hl (l' := [(0, .ref (q 0)), (1, .int a0), (2, .int a1), (3, .int x4), (4, .int y5), (5, .int v11), (6, .int v12), (7, .int e15), (8, .int e19), (9, .int y415)]) [2, 3, 4, 5, 6, 7, 8, 9, 1, 0] rfl
                        exact hj _ _ _ hl hP hD hS
                    ·
                      replace h := (if_neg c411).symm.trans h
                      refine lv_aload_n hx hb d15_59_215 rfl (lv_at hl 1 rfl) ?_
                      refine va_get (D := G.1) (ci := 13) (v := .ref (q 19)) (C := r_13) (T := f_13) (N := 42) (ref := "PagedValuesModel") hx hb hts (fun w h => List.mem_cons_of_mem _ (ly_13 w h)) hown hK hP 0 rfl rfl 32 (by decide) (hts _ (List.mem_cons_of_mem _ k1183)) (fun _ h9 => h9) rfl d15_59_216 ?_
                      refine lv_iload hx hb d15_59_219 (lv_at hl 0 rfl) ?_
                      refine lv_iconst (v := 1) hx hb d15_59_221 (by decide) ?_
                      obtain ⟨k427z, hr, h⟩ := ob h
                      obtain ⟨hi, hk⟩ := ix_some hr
                      clear hr
                      refine va_iast (D := G.1) hx hb hK hP hD hS 19 1 rfl rfl (i := e19) (x := (1 : Int32)) hi d15_59_222 (fun H locs hP hD hS => ?_)
                      rw [hk] at hP hD
                      clear hk hi
                      have hP : va_P G.1 vwCl (wMs q G.2 (st408.1, st408.2.1, va_up st408.2.2.1 12 (upd (st408.2.2.1 12) k427z (1 : Int32)), st408.2.2.2)) H := hP
                      have hD : va_D A (wMs q G.2 (st408.1, st408.2.1, va_up st408.2.2.1 12 (upd (st408.2.2.1 12) k427z (1 : Int32)), st408.2.2.2)) := hD
                      refine lv_aload_n hx hb d15_59_223 rfl (lv_at hl 1 rfl) ?_
                      refine va_get (D := G.1) (ci := 13) (v := .ref (q 20)) (C := r_13) (T := f_13) (N := 42) (ref := "PagedValuesModel") hx hb hts (fun w h => List.mem_cons_of_mem _ (ly_13 w h)) hown hK hP 0 rfl rfl 33 (by decide) (hts _ (List.mem_cons_of_mem _ k1184)) (fun _ h9 => h9) rfl d15_59_224 ?_
                      refine lv_iconst (v := 2) hx hb d15_59_227 (by decide) ?_
                      refine lv_iload hx hb d15_59_228 (lv_at hl 0 rfl) ?_
                      refine lv_imul hx hb d15_59_230 ?_
                      obtain ⟨y428, hr, h⟩ := ob h
                      refine lv_topi (fun y9 ey => ?_)
                      have e9 := ey.trans (Option.some.inj hr)
                      clear ey
                      subst y9
                      clear hr
                      refine lv_iload hx hb d15_59_231 (lv_at hl 5 rfl) ?_
                      refine lv_iadd hx hb d15_59_233 ?_
                      obtain ⟨y429, hr, h⟩ := ob h
                      refine lv_topi (fun y9 ey => ?_)
                      have e9 := ey.trans (Option.some.inj hr)
                      clear ey
                      subst y9
                      clear hr
                      refine lv_iload hx hb d15_59_234 (lv_at hl 8 rfl) ?_
                      obtain ⟨k430z, hr, h⟩ := ob h
                      obtain ⟨hi, hk⟩ := ix_some hr
                      clear hr
                      refine va_iast (D := G.1) hx hb hK hP hD hS 20 1 rfl rfl (i := y429) (x := e15) hi d15_59_236 (fun H locs hP hD hS => ?_)
                      rw [hk] at hP hD
                      clear hk hi
                      have hP : va_P G.1 vwCl (wMs q G.2 (st408.1, st408.2.1, va_up (va_up st408.2.2.1 12 (upd (st408.2.2.1 12) k427z (1 : Int32))) 13 (upd (st408.2.2.1 13) k430z e15), st408.2.2.2)) H := hP
                      have hD : va_D A (wMs q G.2 (st408.1, st408.2.1, va_up (va_up st408.2.2.1 12 (upd (st408.2.2.1 12) k427z (1 : Int32))) 13 (upd (st408.2.2.1 13) k430z e15), st408.2.2.2)) := hD
                      refine lv_aload_n hx hb d15_59_237 rfl (lv_at hl 1 rfl) ?_
                      refine va_get (D := G.1) (ci := 13) (v := .ref (q 20)) (C := r_13) (T := f_13) (N := 42) (ref := "PagedValuesModel") hx hb hts (fun w h => List.mem_cons_of_mem _ (ly_13 w h)) hown hK hP 0 rfl rfl 33 (by decide) (hts _ (List.mem_cons_of_mem _ k1184)) (fun _ h9 => h9) rfl d15_59_238 ?_
                      refine lv_iconst (v := 2) hx hb d15_59_241 (by decide) ?_
                      refine lv_iload hx hb d15_59_242 (lv_at hl 0 rfl) ?_
                      refine lv_imul hx hb d15_59_244 ?_
                      obtain ⟨y431, hr, h⟩ := ob h
                      refine lv_topi (fun y9 ey => ?_)
                      have e9 := ey.trans (Option.some.inj hr)
                      clear ey
                      subst y9
                      clear hr
                      refine lv_iconst (v := 1) hx hb d15_59_245 (by decide) ?_
                      refine lv_iadd hx hb d15_59_246 ?_
                      obtain ⟨y432, hr, h⟩ := ob h
                      refine lv_topi (fun y9 ey => ?_)
                      have e9 := ey.trans (Option.some.inj hr)
                      clear ey
                      subst y9
                      clear hr
                      refine lv_iload hx hb d15_59_247 (lv_at hl 5 rfl) ?_
                      refine lv_isub hx hb d15_59_249 ?_
                      obtain ⟨y433, hr, h⟩ := ob h
                      refine lv_topi (fun y9 ey => ?_)
                      have e9 := ey.trans (Option.some.inj hr)
                      clear ey
                      subst y9
                      clear hr
                      refine lv_iload_n hx hb d15_59_250 rfl (lv_at hl 4 rfl) ?_
                      obtain ⟨e435, hX, h⟩ := ob h
                      have hj : ∀ (H : Heap) (locs : List Loc) (ls : Array Slot), lv_has ls 10 [(0, .ref (q 0)), (1, .int a0), (2, .int a1), (3, .int x4), (4, .int y5), (5, .int v11), (6, .int v12), (7, .int e15), (8, .int e19)] → va_P G.1 vwCl (wMs q G.2 (st408.1, st408.2.1, va_up (va_up st408.2.2.1 12 (upd (st408.2.2.1 12) k427z (1 : Int32))) 13 (upd (st408.2.2.1 13) k430z e15), st408.2.2.2)) H → va_D A (wMs q G.2 (st408.1, st408.2.1, va_up (va_up st408.2.2.1 12 (upd (st408.2.2.1 12) k427z (1 : Int32))) 13 (upd (st408.2.2.1 13) k430z e15), st408.2.2.2)) → va_S A s.heap H locs → W p l e (rmD 3 0 0) s m ([.ref (q 0), .int a0, .int a1] : List Value).toArray below meth c H locs 0 0 (MQ below (qI G (fun rr (_ : Unit) => rr = r0) (fun _ => (wMs q G.2 st0)) A) ([.ref (q 0), .int a0, .int a1] : List Value).toArray s 0 0 A) (F0 m 271 ls [.int e435, .int y433, .ref (q 20)]) := by
                        intro H locs ls hl hP hD hS
                        obtain ⟨k437z, hr, h⟩ := ob h
                        obtain ⟨hi, hk⟩ := ix_some hr
                        clear hr
                        refine va_iast (D := G.1) hx hb hK hP hD hS 20 1 rfl rfl (i := y433) (x := e435) hi d15_59_271 (fun H locs hP hD hS => ?_)
                        rw [hk] at hP hD
                        clear hk hi
                        have hP : va_P G.1 vwCl (wMs q G.2 (st408.1, st408.2.1, va_up (va_up st408.2.2.1 12 (upd (st408.2.2.1 12) k427z (1 : Int32))) 13 (upd (upd (st408.2.2.1 13) k430z e15) k437z e435), st408.2.2.2)) H := hP
                        have hD : va_D A (wMs q G.2 (st408.1, st408.2.1, va_up (va_up st408.2.2.1 12 (upd (st408.2.2.1 12) k427z (1 : Int32))) 13 (upd (upd (st408.2.2.1 13) k430z e15) k437z e435), st408.2.2.2)) := hD
                        refine lv_aload_n hx hb d15_59_272 rfl (lv_at hl 0 rfl) ?_
                        obtain ⟨⟨x438, st439⟩, hc, h⟩ := ob h
                        refine sV_i (As := []) (rest := []) ⟨hx, hb, hml, hown, hts⟩ (cm_block l G Zd q (st408.1, st408.2.1, va_up (va_up st408.2.2.1 12 (upd (st408.2.2.1 12) k427z (1 : Int32))) 13 (upd (upd (st408.2.2.1 13) k430z e15) k437z e435), st408.2.2.2) x438 st439 hc _) (kw_V (n := 0) hts k1428 k1425 k15 k1427 ks65 (by decide +kernel) ⟨Nat.le_of_ble_eq_true rfl, Nat.le_of_ble_eq_true rfl⟩) hP hD hK hS hA hZ (va_recv (ci := 13) (q0 := 0) hK hP rfl rfl) rfl hl.1 rfl (Nat.le_of_ble_eq_true rfl) d15_59_273 ⟨Nat.le_of_ble_eq_true rfl, Nat.le_of_ble_eq_true rfl⟩ (fun rr u9 H locs hp hP hD hS => ?_)
                        clear u9
                        subst rr
                        clear hc
                        refine W.eq (g2 := F0 m 276 ls [.int x438]) rfl ?_
                        have hP : va_P G.1 vwCl (wMs q G.2 st439) H := hP
                        have hD : va_D A (wMs q G.2 st439) := hD
                        refine lv_if_ne (tgt := 282) hx hb d15_59_276 rfl (fun c441 => ?_) (fun c441 => ?_)
                        ·
                          replace h := (if_neg c441).symm.trans h
                          refine lv_iconst (v := 1) hx hb d15_59_282 (by decide) ?_
                          refine lv_aload_n hx hb d15_59_283 rfl (lv_at hl 0 rfl) ?_
                          obtain ⟨x442, hc, h⟩ := ob h
                          refine sV_i (As := []) (rest := [.int 1]) ⟨hx, hb, hml, hown, hts⟩ (cm_current l G Zd q st439 x442 hc _) (kw_V (n := 0) hts k1396 k1393 k15 k1395 ks57 (by decide +kernel) ⟨Nat.le_of_ble_eq_true rfl, Nat.le_of_ble_eq_true rfl⟩) hP hD hK hS hA hZ (va_recv (ci := 13) (q0 := 0) hK hP rfl rfl) rfl hl.1 rfl (Nat.le_of_ble_eq_true rfl) d15_59_284 ⟨Nat.le_of_ble_eq_true rfl, Nat.le_of_ble_eq_true rfl⟩ (fun rr u9 H locs hp hP hD hS => ?_)
                          clear u9
                          subst rr
                          clear hc
                          refine W.eq (g2 := F0 m 287 ls [.int x442, .int 1]) rfl ?_
                          have hP : va_P G.1 vwCl (wMs q G.2 st439) H := hP
                          have hD : va_D A (wMs q G.2 st439) := hD
                          refine lv_isub hx hb d15_59_287 ?_
                          obtain ⟨y445, hr, h⟩ := ob h
                          refine lv_topi (fun y9 ey => ?_)
                          have e9 := ey.trans (Option.some.inj hr)
                          clear ey
                          subst y9
                          clear hr
                          refine lv_istore (lv' := [(9, .int y445), (0, .ref (q 0)), (1, .int a0), (2, .int a1), (3, .int x4), (4, .int y5), (5, .int v11), (6, .int v12), (7, .int e15), (8, .int e19)]) hx hb d15_59_288 hl (by decide) rfl (fun ls hl => ?_)
                          refine lv_aload_n hx hb d15_59_290 rfl (lv_at hl 1 rfl) ?_
                          refine va_get (D := G.1) (ci := 13) (v := .ref (q 23)) (C := r_13) (T := f_13) (N := 42) (ref := "PagedValuesModel") hx hb hts (fun w h => List.mem_cons_of_mem _ (ly_13 w h)) hown hK hP 0 rfl rfl 36 (by decide) (hts _ (List.mem_cons_of_mem _ k1187)) (fun _ h9 => h9) rfl d15_59_291 ?_
                          refine lv_iload hx hb d15_59_294 (lv_at hl 0 rfl) ?_
                          refine lv_aload_n hx hb d15_59_296 rfl (lv_at hl 1 rfl) ?_
                          refine va_get (D := G.1) (ci := 13) (v := .ref (q 23)) (C := r_13) (T := f_13) (N := 42) (ref := "PagedValuesModel") hx hb hts (fun w h => List.mem_cons_of_mem _ (ly_13 w h)) hown hK hP 0 rfl rfl 36 (by decide) (hts _ (List.mem_cons_of_mem _ k1187)) (fun _ h9 => h9) rfl d15_59_297 ?_
                          refine lv_iconst (v := 1) hx hb d15_59_300 (by decide) ?_
                          refine lv_iload hx hb d15_59_301 (lv_at hl 0 rfl) ?_
                          refine lv_isub hx hb d15_59_303 ?_
                          obtain ⟨y446, hr, h⟩ := ob h
                          refine lv_topi (fun y9 ey => ?_)
                          have e9 := ey.trans (Option.some.inj hr)
                          clear ey
                          subst y9
                          clear hr
                          obtain ⟨x447, hr, h⟩ := ob h
                          obtain ⟨hi, hv⟩ := rd_some hr
                          refine va_iald (D := G.1) hx hb hK hP 23 1 rfl rfl (i := y446) hi d15_59_304 ?_
                          refine lv_topi (fun y9 ey => ?_)
                          have e9 := ey.trans hv
                          clear ey
                          subst y9
                          clear hv hi hr
                          refine lv_iconst (v := 1) hx hb d15_59_305 (by decide) ?_
                          refine lv_iadd hx hb d15_59_306 ?_
                          obtain ⟨y448, hr, h⟩ := ob h
                          refine lv_topi (fun y9 ey => ?_)
                          have e9 := ey.trans (Option.some.inj hr)
                          clear ey
                          subst y9
                          clear hr
                          obtain ⟨k449z, hr, h⟩ := ob h
                          obtain ⟨hi, hk⟩ := ix_some hr
                          clear hr
                          refine va_iast (D := G.1) hx hb hK hP hD hS 23 1 rfl rfl (i := y445) (x := y448) hi d15_59_307 (fun H locs hP hD hS => ?_)
                          rw [hk] at hP hD
                          clear hk hi
                          have hP : va_P G.1 vwCl (wMs q G.2 (st439.1, st439.2.1, va_up st439.2.2.1 16 (upd (st439.2.2.1 16) k449z y448), st439.2.2.2)) H := hP
                          have hD : va_D A (wMs q G.2 (st439.1, st439.2.1, va_up st439.2.2.1 16 (upd (st439.2.2.1 16) k449z y448), st439.2.2.2)) := hD
                          refine lv_aload_n hx hb d15_59_308 rfl (lv_at hl 1 rfl) ?_
                          refine va_get (D := G.1) (ci := 13) (v := .ref (q 22)) (C := r_13) (T := f_13) (N := 42) (ref := "PagedValuesModel") hx hb hts (fun w h => List.mem_cons_of_mem _ (ly_13 w h)) hown hK hP 0 rfl rfl 35 (by decide) (hts _ (List.mem_cons_of_mem _ k1186)) (fun _ h9 => h9) rfl d15_59_309 ?_
                          refine lv_iload hx hb d15_59_312 (lv_at hl 0 rfl) ?_
                          refine lv_iload hx hb d15_59_314 (lv_at hl 9 rfl) ?_
                          obtain ⟨k450z, hr, h⟩ := ob h
                          obtain ⟨hi, hk⟩ := ix_some hr
                          clear hr
                          refine va_iast (D := G.1) hx hb hK hP hD hS 22 1 rfl rfl (i := y445) (x := e19) hi d15_59_316 (fun H locs hP hD hS => ?_)
                          rw [hk] at hP hD
                          clear hk hi
                          have hP : va_P G.1 vwCl (wMs q G.2 (st439.1, st439.2.1, va_up (va_up st439.2.2.1 16 (upd (st439.2.2.1 16) k449z y448)) 15 (upd (st439.2.2.1 15) k450z e19), st439.2.2.2)) H := hP
                          have hD : va_D A (wMs q G.2 (st439.1, st439.2.1, va_up (va_up st439.2.2.1 16 (upd (st439.2.2.1 16) k449z y448)) 15 (upd (st439.2.2.1 15) k450z e19), st439.2.2.2)) := hD
                          refine lv_aload_n hx hb d15_59_317 rfl (lv_at hl 1 rfl) ?_
                          obtain ⟨⟨x451, st452⟩, hc, h⟩ := ob h
                          refine sV_i (As := []) (rest := []) ⟨hx, hb, hml, hown, hts⟩ (cm_block l G Zd q (st439.1, st439.2.1, va_up (va_up st439.2.2.1 16 (upd (st439.2.2.1 16) k449z y448)) 15 (upd (st439.2.2.1 15) k450z e19), st439.2.2.2) x451 st452 hc _) (kw_V (n := 0) hts k1428 k1425 k15 k1427 ks65 (by decide +kernel) ⟨Nat.le_of_ble_eq_true rfl, Nat.le_of_ble_eq_true rfl⟩) hP hD hK hS hA hZ (va_recv (ci := 13) (q0 := 0) hK hP rfl rfl) rfl hl.1 rfl (Nat.le_of_ble_eq_true rfl) d15_59_318 ⟨Nat.le_of_ble_eq_true rfl, Nat.le_of_ble_eq_true rfl⟩ (fun rr u9 H locs hp hP hD hS => ?_)
                          clear u9
                          subst rr
                          clear hc
                          refine W.eq (g2 := F0 m 321 ls [.int x451]) rfl ?_
                          have hP : va_P G.1 vwCl (wMs q G.2 st452) H := hP
                          have hD : va_D A (wMs q G.2 st452) := hD
                          obtain ⟨e455, hX, h⟩ := ob h
                          have hj : ∀ (H : Heap) (locs : List Loc) (ls : Array Slot), lv_has ls 10 [(0, .ref (q 0)), (1, .int a0), (2, .int a1), (3, .int x4), (4, .int y5), (5, .int v11), (6, .int v12), (7, .int e15), (8, .int e19), (9, .int y445)] → va_P G.1 vwCl (wMs q G.2 st452) H → va_D A (wMs q G.2 st452) → va_S A s.heap H locs → W p l e (rmD 3 0 0) s m ([.ref (q 0), .int a0, .int a1] : List Value).toArray below meth c H locs 0 0 (MQ below (qI G (fun rr (_ : Unit) => rr = r0) (fun _ => (wMs q G.2 st0)) A) ([.ref (q 0), .int a0, .int a1] : List Value).toArray s 0 0 A) (F0 m 330 ls [.int e455]) := by
                            intro H locs ls hl hP hD hS
                            cases h
                            exact fin_i hx hb hr hlk hS () rfl hP hD (Nat.le_of_ble_eq_true rfl) (Nat.le_of_ble_eq_true rfl) d15_59_330
                          clear h
                          refine lv_if_eq (tgt := 328) hx hb d15_59_321 rfl (fun c454 => ?_) (fun c454 => ?_)
                          ·
                            replace h := (if_pos c454).symm.trans hX
                            refine lv_bipush (v := (-9)) hx hb d15_59_328 (by decide) ?_
                            have e9 := Option.some.inj h
                            subst e455
                            have hl := lv_sub hl (l' := [(0, .ref (q 0)), (1, .int a0), (2, .int a1), (3, .int x4), (4, .int y5), (5, .int v11), (6, .int v12), (7, .int e15), (8, .int e19), (9, .int y445)]) [1, 2, 3, 4, 5, 6, 7, 8, 9, 0] rfl
                            exact hj _ _ _ hl hP hD hS
                          ·
                            replace h := (if_neg c454).symm.trans hX
                            refine lv_iconst (v := 0) hx hb d15_59_324 (by decide) ?_
                            refine lv_goto (tgt := 330) hx hb d15_59_325 rfl ?_
                            have e9 := Option.some.inj h
                            subst e455
                            have hl := lv_sub hl (l' := [(0, .ref (q 0)), (1, .int a0), (2, .int a1), (3, .int x4), (4, .int y5), (5, .int v11), (6, .int v12), (7, .int e15), (8, .int e19), (9, .int y445)]) [1, 2, 3, 4, 5, 6, 7, 8, 9, 0] rfl
                            exact hj _ _ _ hl hP hD hS
                        ·
                          replace h := (if_pos c441).symm.trans h
                          refine lv_bipush (v := (-9)) hx hb d15_59_279 (by decide) ?_
                          cases h
                          exact fin_i hx hb hr hlk hS () rfl hP hD (Nat.le_of_ble_eq_true rfl) (Nat.le_of_ble_eq_true rfl) d15_59_281
                      clear h
                      refine lv_if_ge (tgt := 258) hx hb d15_59_251 rfl (fun c434 => ?_) (fun c434 => ?_)
                      ·
                        replace h := (if_pos c434).symm.trans hX
                        refine lv_aload_n hx hb d15_59_258 rfl (lv_at hl 1 rfl) ?_
                        refine va_get (D := G.1) (ci := 13) (v := .ref (q 20)) (C := r_13) (T := f_13) (N := 42) (ref := "PagedValuesModel") hx hb hts (fun w h => List.mem_cons_of_mem _ (ly_13 w h)) hown hK hP 0 rfl rfl 33 (by decide) (hts _ (List.mem_cons_of_mem _ k1184)) (fun _ h9 => h9) rfl d15_59_259 ?_
                        refine lv_iconst (v := 2) hx hb d15_59_262 (by decide) ?_
                        refine lv_iload_n hx hb d15_59_263 rfl (lv_at hl 4 rfl) ?_
                        refine lv_imul hx hb d15_59_264 ?_
                        obtain ⟨y457, hr, h⟩ := ob h
                        refine lv_topi (fun y9 ey => ?_)
                        have e9 := ey.trans (Option.some.inj hr)
                        clear ey
                        subst y9
                        clear hr
                        refine lv_iconst (v := 1) hx hb d15_59_265 (by decide) ?_
                        refine lv_iadd hx hb d15_59_266 ?_
                        obtain ⟨y458, hr, h⟩ := ob h
                        refine lv_topi (fun y9 ey => ?_)
                        have e9 := ey.trans (Option.some.inj hr)
                        clear ey
                        subst y9
                        clear hr
                        refine lv_iload hx hb d15_59_267 (lv_at hl 5 rfl) ?_
                        refine lv_isub hx hb d15_59_269 ?_
                        obtain ⟨y459, hr, h⟩ := ob h
                        refine lv_topi (fun y9 ey => ?_)
                        have e9 := ey.trans (Option.some.inj hr)
                        clear ey
                        subst y9
                        clear hr
                        obtain ⟨x460, hr, h⟩ := ob h
                        obtain ⟨hi, hv⟩ := rd_some hr
                        refine va_iald (D := G.1) hx hb hK hP 20 1 rfl rfl (i := y459) hi d15_59_270 ?_
                        refine lv_topi (fun y9 ey => ?_)
                        have e9 := ey.trans hv
                        clear ey
                        subst y9
                        clear hv hi hr
                        have e9 := Option.some.inj h
                        subst e435
                        have hl := lv_sub hl (l' := [(0, .ref (q 0)), (1, .int a0), (2, .int a1), (3, .int x4), (4, .int y5), (5, .int v11), (6, .int v12), (7, .int e15), (8, .int e19)]) [1, 2, 3, 4, 5, 6, 7, 8, 0] rfl
                        exact hj _ _ _ hl hP hD hS
                      ·
                        replace h := (if_neg c434).symm.trans hX
                        refine lv_iconst (v := (-1)) hx hb d15_59_254 (by decide) ?_
                        refine lv_goto (tgt := 271) hx hb d15_59_255 rfl ?_
                        have e9 := Option.some.inj h
                        subst e435
                        have hl := lv_sub hl (l' := [(0, .ref (q 0)), (1, .int a0), (2, .int a1), (3, .int x4), (4, .int y5), (5, .int v11), (6, .int v12), (7, .int e15), (8, .int e19)]) [1, 2, 3, 4, 5, 6, 7, 8, 0] rfl
                        exact hj _ _ _ hl hP hD hS
                  ·
                    replace h := (if_pos c410).symm.trans h
                    refine lv_bipush (v := (-9)) hx hb d15_59_207 (by decide) ?_
                    cases h
                    exact fin_i hx hb hr hlk hS () rfl hP hD (Nat.le_of_ble_eq_true rfl) (Nat.le_of_ble_eq_true rfl) d15_59_209
              ·
                replace h := (if_neg c352).symm.trans h
                refine lv_bipush (v := (-2)) hx hb d15_59_181 (by decide) ?_
                cases h
                exact fin_i hx hb hr hlk hS () rfl hP hD (Nat.le_of_ble_eq_true rfl) (Nat.le_of_ble_eq_true rfl) d15_59_183
      clear h
      refine lv_if_le (tgt := 155) hx hb d15_59_143 rfl (fun c18 => ?_) (fun c18 => ?_)
      ·
        replace h := (if_pos c18).symm.trans hX
        refine lv_iconst (v := (-1)) hx hb d15_59_155 (by decide) ?_
        have e9 := Option.some.inj h
        subst e19
        have hl := lv_sub hl (l' := [(0, .ref (q 0)), (1, .int a0), (2, .int a1), (3, .int x4), (4, .int y5), (5, .int v11), (6, .int v12), (7, .int e15)]) [1, 2, 3, 4, 5, 6, 7, 0] rfl
        exact hj _ _ _ hl hP hD hS
      ·
        replace h := (if_neg c18).symm.trans hX
        refine lv_aload_n hx hb d15_59_146 rfl (lv_at hl 1 rfl) ?_
        refine lv_iload hx hb d15_59_147 (lv_at hl 0 rfl) ?_
        obtain ⟨x461, hc, h⟩ := ob h
        refine sV_i (As := [.int e15]) (rest := []) ⟨hx, hb, hml, hown, hts⟩ (cm_freePage l G Zd q e15 st x461 hc _) (kw_V (n := 1) hts k1404 k1401 k15 k1403 ks59 (by decide +kernel) ⟨Nat.le_of_ble_eq_true rfl, Nat.le_of_ble_eq_true rfl⟩) hP hD hK hS hA hZ (va_recv (ci := 13) (q0 := 0) hK hP rfl rfl) rfl hl.1 rfl (Nat.le_of_ble_eq_true rfl) d15_59_149 ⟨Nat.le_of_ble_eq_true rfl, Nat.le_of_ble_eq_true rfl⟩ (fun rr u9 H locs hp hP hD hS => ?_)
        clear u9
        subst rr
        clear hc
        refine W.eq (g2 := F0 m 152 ls [.int x461]) rfl ?_
        have hP : va_P G.1 vwCl (wMs q G.2 st) H := hP
        have hD : va_D A (wMs q G.2 st) := hD
        refine lv_goto (tgt := 156) hx hb d15_59_152 rfl ?_
        have e9 := Option.some.inj h
        subst e19
        have hl := lv_sub hl (l' := [(0, .ref (q 0)), (1, .int a0), (2, .int a1), (3, .int x4), (4, .int y5), (5, .int v11), (6, .int v12), (7, .int e15)]) [1, 2, 3, 4, 5, 6, 7, 0] rfl
        exact hj _ _ _ hl hP hD hS
    clear h
    refine lv_if_le (tgt := 135) hx hb d15_59_124 rfl (fun c14 => ?_) (fun c14 => ?_)
    ·
      replace h := (if_pos c14).symm.trans hX
      refine lv_iconst (v := (-1)) hx hb d15_59_135 (by decide) ?_
      have e9 := Option.some.inj h
      subst e15
      have hl := lv_sub hl (l' := [(0, .ref (q 0)), (1, .int a0), (2, .int a1), (3, .int x4), (4, .int y5), (5, .int v11), (6, .int v12), (7, .int v13)]) [0, 1, 2, 3, 4, 5, 6, 7] rfl
      exact hj _ _ _ hl hP hD hS
    ·
      replace h := (if_neg c14).symm.trans hX
      refine lv_aload_n hx hb d15_59_127 rfl (lv_at hl 0 rfl) ?_
      refine lv_iconst (v := (-1)) hx hb d15_59_128 (by decide) ?_
      obtain ⟨x464, hc, h⟩ := ob h
      refine sV_i (As := [.int (-1)]) (rest := []) ⟨hx, hb, hml, hown, hts⟩ (cm_freePage l G Zd q ((-1) : Int32) st x464 hc _) (kw_V (n := 1) hts k1404 k1401 k15 k1403 ks59 (by decide +kernel) ⟨Nat.le_of_ble_eq_true rfl, Nat.le_of_ble_eq_true rfl⟩) hP hD hK hS hA hZ (va_recv (ci := 13) (q0 := 0) hK hP rfl rfl) rfl hl.1 rfl (Nat.le_of_ble_eq_true rfl) d15_59_129 ⟨Nat.le_of_ble_eq_true rfl, Nat.le_of_ble_eq_true rfl⟩ (fun rr u9 H locs hp hP hD hS => ?_)
      clear u9
      subst rr
      clear hc
      refine W.eq (g2 := F0 m 132 ls [.int x464]) rfl ?_
      have hP : va_P G.1 vwCl (wMs q G.2 st) H := hP
      have hD : va_D A (wMs q G.2 st) := hD
      refine lv_goto (tgt := 136) hx hb d15_59_132 rfl ?_
      have e9 := Option.some.inj h
      subst e15
      have hl := lv_sub hl (l' := [(0, .ref (q 0)), (1, .int a0), (2, .int a1), (3, .int x4), (4, .int y5), (5, .int v11), (6, .int v12), (7, .int v13)]) [0, 1, 2, 3, 4, 5, 6, 7] rfl
      exact hj _ _ _ hl hP hD hS
  have hloop : ∀ (n9 : Nat) (v7 : Int32) (v8 : Int32) (v9 : Int32), m_change_l1 a0 a1 st x4 y5 n9 (v7, v8, v9) = some e6 → ∀ (H : Heap) (locs : List Loc) (ls : Array Slot), lv_has ls 10 [(0, .ref (q 0)), (1, .int a0), (2, .int a1), (3, .int x4), (4, .int y5), (5, .int v7), (6, .int v8), (7, .int v9)] → va_P G.1 vwCl (wMs q G.2 st) H → va_D A (wMs q G.2 st) → va_S A s.heap H locs → W p l e (rmD 3 0 0) s m ([.ref (q 0), .int a0, .int a1] : List Value).toArray below meth c H locs 0 0 (MQ below (qI G (fun rr (_ : Unit) => rr = r0) (fun _ => (wMs q G.2 st0)) A) ([.ref (q 0), .int a0, .int a1] : List Value).toArray s 0 0 A) (F0 m 24 ls []) := by
    intro n9
    induction n9 with
    | zero =>
      intro v7 v8 v9 h
      cases h
    | succ n9 ih =>
      intro v7 v8 v9 h H locs ls hl hP hD hS
      replace h := (m_change_l1_s a0 a1 st x4 y5 n9 (v7, v8, v9)).symm.trans h
      refine lv_iload hx hb d15_59_24 (lv_at hl 7 rfl) ?_
      refine lv_bipush (v := 8) hx hb d15_59_26 (by decide) ?_
      refine lv_icmp_ge (tgt := 122) hx hb d15_59_28 rfl (fun c467 => ?_) (fun c467 => ?_)
      ·
        replace h := (if_pos c467).symm.trans h
        have e9 := Option.some.inj h
        subst e6
        have hl := lv_sub hl (l' := [(0, .ref (q 0)), (1, .int a0), (2, .int a1), (3, .int x4), (4, .int y5), (5, .int v7), (6, .int v8), (7, .int v9)]) [0, 1, 2, 3, 4, 5, 6, 7] rfl
        exact hj _ _ _ rfl _ _ _ hl hP hD hS
      ·
        replace h := (if_neg c467).symm.trans h
        refine lv_iload hx hb d15_59_31 (lv_at hl 7 rfl) ?_
        refine lv_iload_n hx hb d15_59_33 rfl (lv_at hl 1 rfl) ?_
        obtain ⟨e469, hX, h⟩ := ob h
        have hj : ∀ (H : Heap) (locs : List Loc) (ls : Array Slot), lv_has ls 10 [(0, .ref (q 0)), (1, .int a0), (2, .int a1), (3, .int x4), (4, .int y5), (5, .int v7), (6, .int v8), (7, .int v9)] → va_P G.1 vwCl (wMs q G.2 st) H → va_D A (wMs q G.2 st) → va_S A s.heap H locs → W p l e (rmD 3 0 0) s m ([.ref (q 0), .int a0, .int a1] : List Value).toArray below meth c H locs 0 0 (MQ below (qI G (fun rr (_ : Unit) => rr = r0) (fun _ => (wMs q G.2 st0)) A) ([.ref (q 0), .int a0, .int a1] : List Value).toArray s 0 0 A) (F0 m 64 ls [.int e469]) := by
          intro H locs ls hl hP hD hS
          refine lv_istore (lv' := [(8, .int e469), (0, .ref (q 0)), (1, .int a0), (2, .int a1), (3, .int x4), (4, .int y5), (5, .int v7), (6, .int v8), (7, .int v9)]) hx hb d15_59_64 hl (by decide) rfl (fun ls hl => ?_)
          refine lv_iload hx hb d15_59_66 (lv_at hl 0 rfl) ?_
          obtain ⟨e472, hX, h⟩ := ob h
          have hj : ∀ (H : Heap) (locs : List Loc) (ls : Array Slot), lv_has ls 10 [(0, .ref (q 0)), (1, .int a0), (2, .int a1), (3, .int x4), (4, .int y5), (5, .int v7), (6, .int v8), (7, .int v9), (8, .int e469)] → va_P G.1 vwCl (wMs q G.2 st) H → va_D A (wMs q G.2 st) → va_S A s.heap H locs → W p l e (rmD 3 0 0) s m ([.ref (q 0), .int a0, .int a1] : List Value).toArray below meth c H locs 0 0 (MQ below (qI G (fun rr (_ : Unit) => rr = r0) (fun _ => (wMs q G.2 st0)) A) ([.ref (q 0), .int a0, .int a1] : List Value).toArray s 0 0 A) (F0 m 89 ls [.int e472]) := by
            intro H locs ls hl hP hD hS
            refine lv_istore (lv' := [(5, .int e472), (0, .ref (q 0)), (1, .int a0), (2, .int a1), (3, .int x4), (4, .int y5), (6, .int v8), (7, .int v9), (8, .int e469)]) hx hb d15_59_89 hl (by decide) rfl (fun ls hl => ?_)
            refine lv_iload hx hb d15_59_91 (lv_at hl 8 rfl) ?_
            obtain ⟨e475, hX, h⟩ := ob h
            have hj : ∀ (H : Heap) (locs : List Loc) (ls : Array Slot), lv_has ls 10 [(0, .ref (q 0)), (1, .int a0), (2, .int a1), (3, .int x4), (4, .int y5), (5, .int e472), (6, .int v8), (7, .int v9), (8, .int e469)] → va_P G.1 vwCl (wMs q G.2 st) H → va_D A (wMs q G.2 st) → va_S A s.heap H locs → W p l e (rmD 3 0 0) s m ([.ref (q 0), .int a0, .int a1] : List Value).toArray below meth c H locs 0 0 (MQ below (qI G (fun rr (_ : Unit) => rr = r0) (fun _ => (wMs q G.2 st0)) A) ([.ref (q 0), .int a0, .int a1] : List Value).toArray s 0 0 A) (F0 m 114 ls [.int e475]) := by
              intro H locs ls hl hP hD hS
              refine lv_istore (lv' := [(6, .int e475), (0, .ref (q 0)), (1, .int a0), (2, .int a1), (3, .int x4), (4, .int y5), (5, .int e472), (7, .int v9), (8, .int e469)]) hx hb d15_59_114 hl (by decide) rfl (fun ls hl => ?_)
              refine lv_iinc (k := 7) (v := v9 + 1) (lv' := [(7, .int (v9 + 1)), (6, .int e475), (0, .ref (q 0)), (1, .int a0), (2, .int a1), (3, .int x4), (4, .int y5), (5, .int e472), (8, .int e469)]) hx hb d15_59_116 hl rfl (by first | decide | rfl) (by decide) rfl (fun ls hl => ?_)
              refine lv_goto (tgt := 24) hx hb d15_59_119 rfl ?_
              have hl := lv_sub hl (l' := [(0, .ref (q 0)), (1, .int a0), (2, .int a1), (3, .int x4), (4, .int y5), (5, .int e472), (6, .int e475), (7, .int (v9 + 1))]) [2, 3, 4, 5, 6, 7, 1, 0] rfl
              exact ih _ _ _ h _ _ _ hl hP hD hS
            clear h
            refine lv_if_eq (tgt := 112) hx hb d15_59_93 rfl (fun c474 => ?_) (fun c474 => ?_)
            ·
              replace h := (if_pos c474).symm.trans hX
              refine lv_iload hx hb d15_59_112 (lv_at hl 6 rfl) ?_
              have e9 := Option.some.inj h
              subst e475
              have hl := lv_sub hl (l' := [(0, .ref (q 0)), (1, .int a0), (2, .int a1), (3, .int x4), (4, .int y5), (5, .int e472), (6, .int v8), (7, .int v9), (8, .int e469)]) [1, 2, 3, 4, 5, 0, 6, 7, 8] rfl
              exact hj _ _ _ hl hP hD hS
            ·
              replace h := (if_neg c474).symm.trans hX
              refine lv_iload hx hb d15_59_96 (lv_at hl 7 rfl) ?_
              refine lv_iconst (v := 4) hx hb d15_59_98 (by decide) ?_
              refine lv_idiv hx hb d15_59_99 (by decide) ?_
              obtain ⟨y477, hr, h⟩ := ob h
              refine lv_topi (fun y9 ey => ?_)
              have e9 := ey.trans (Option.some.inj hr)
              clear ey
              subst y9
              clear hr
              refine lv_iload hx hb d15_59_100 (lv_at hl 5 rfl) ?_
              refine lv_icmp_eq (tgt := 112) hx hb d15_59_102 rfl (fun c478 => ?_) (fun c478 => ?_)
              ·
                replace h := (if_pos c478).symm.trans h
                refine lv_iload hx hb d15_59_112 (lv_at hl 6 rfl) ?_
                have e9 := Option.some.inj h
                subst e475
                have hl := lv_sub hl (l' := [(0, .ref (q 0)), (1, .int a0), (2, .int a1), (3, .int x4), (4, .int y5), (5, .int e472), (6, .int v8), (7, .int v9), (8, .int e469)]) [1, 2, 3, 4, 5, 0, 6, 7, 8] rfl
                exact hj _ _ _ hl hP hD hS
              ·
                replace h := (if_neg c478).symm.trans h
                refine lv_iload hx hb d15_59_105 (lv_at hl 6 rfl) ?_
                refine lv_iconst (v := 1) hx hb d15_59_107 (by decide) ?_
                refine lv_iadd hx hb d15_59_108 ?_
                obtain ⟨y479, hr, h⟩ := ob h
                refine lv_topi (fun y9 ey => ?_)
                have e9 := ey.trans (Option.some.inj hr)
                clear ey
                subst y9
                clear hr
                refine lv_goto (tgt := 114) hx hb d15_59_109 rfl ?_
                have e9 := Option.some.inj h
                subst e475
                have hl := lv_sub hl (l' := [(0, .ref (q 0)), (1, .int a0), (2, .int a1), (3, .int x4), (4, .int y5), (5, .int e472), (6, .int v8), (7, .int v9), (8, .int e469)]) [1, 2, 3, 4, 5, 0, 6, 7, 8] rfl
                exact hj _ _ _ hl hP hD hS
          clear h
          refine lv_if_eq (tgt := 87) hx hb d15_59_68 rfl (fun c471 => ?_) (fun c471 => ?_)
          ·
            replace h := (if_pos c471).symm.trans hX
            refine lv_iload hx hb d15_59_87 (lv_at hl 6 rfl) ?_
            have e9 := Option.some.inj h
            subst e472
            have hl := lv_sub hl (l' := [(0, .ref (q 0)), (1, .int a0), (2, .int a1), (3, .int x4), (4, .int y5), (5, .int v7), (6, .int v8), (7, .int v9), (8, .int e469)]) [1, 2, 3, 4, 5, 6, 7, 8, 0] rfl
            exact hj _ _ _ hl hP hD hS
          ·
            replace h := (if_neg c471).symm.trans hX
            refine lv_iload hx hb d15_59_71 (lv_at hl 8 rfl) ?_
            refine lv_iconst (v := 4) hx hb d15_59_73 (by decide) ?_
            refine lv_idiv hx hb d15_59_74 (by decide) ?_
            obtain ⟨y480, hr, h⟩ := ob h
            refine lv_topi (fun y9 ey => ?_)
            have e9 := ey.trans (Option.some.inj hr)
            clear ey
            subst y9
            clear hr
            refine lv_iload hx hb d15_59_75 (lv_at hl 5 rfl) ?_
            refine lv_icmp_ne (tgt := 87) hx hb d15_59_77 rfl (fun c481 => ?_) (fun c481 => ?_)
            ·
              replace h := (if_neg c481).symm.trans h
              refine lv_iload hx hb d15_59_87 (lv_at hl 6 rfl) ?_
              have e9 := Option.some.inj h
              subst e472
              have hl := lv_sub hl (l' := [(0, .ref (q 0)), (1, .int a0), (2, .int a1), (3, .int x4), (4, .int y5), (5, .int v7), (6, .int v8), (7, .int v9), (8, .int e469)]) [1, 2, 3, 4, 5, 6, 7, 8, 0] rfl
              exact hj _ _ _ hl hP hD hS
            ·
              replace h := (if_pos c481).symm.trans h
              refine lv_iload hx hb d15_59_80 (lv_at hl 6 rfl) ?_
              refine lv_iconst (v := 1) hx hb d15_59_82 (by decide) ?_
              refine lv_iadd hx hb d15_59_83 ?_
              obtain ⟨y482, hr, h⟩ := ob h
              refine lv_topi (fun y9 ey => ?_)
              have e9 := ey.trans (Option.some.inj hr)
              clear ey
              subst y9
              clear hr
              refine lv_goto (tgt := 89) hx hb d15_59_84 rfl ?_
              have e9 := Option.some.inj h
              subst e472
              have hl := lv_sub hl (l' := [(0, .ref (q 0)), (1, .int a0), (2, .int a1), (3, .int x4), (4, .int y5), (5, .int v7), (6, .int v8), (7, .int v9), (8, .int e469)]) [1, 2, 3, 4, 5, 6, 7, 8, 0] rfl
              exact hj _ _ _ hl hP hD hS
        clear h
        refine lv_icmp_ne (tgt := 49) hx hb d15_59_34 rfl (fun c468 => ?_) (fun c468 => ?_)
        ·
          replace h := (if_neg c468).symm.trans hX
          refine lv_aload_n hx hb d15_59_49 rfl (lv_at hl 0 rfl) ?_
          refine lv_iload_n hx hb d15_59_50 rfl (lv_at hl 3 rfl) ?_
          refine lv_iload hx hb d15_59_51 (lv_at hl 7 rfl) ?_
          obtain ⟨x483, hc, h⟩ := ob h
          refine sV_i (As := [.int x4, .int v9]) (rest := []) ⟨hx, hb, hml, hown, hts⟩ (cm_rowOf l G Zd q x4 v9 st x483 hc _) (kw_V (n := 2) hts k1400 k1397 k15 k1399 ks58 (by decide +kernel) ⟨Nat.le_of_ble_eq_true rfl, Nat.le_of_ble_eq_true rfl⟩) hP hD hK hS hA hZ (va_recv (ci := 13) (q0 := 0) hK hP rfl rfl) rfl hl.1 rfl (Nat.le_of_ble_eq_true rfl) d15_59_53 ⟨Nat.le_of_ble_eq_true rfl, Nat.le_of_ble_eq_true rfl⟩ (fun rr u9 H locs hp hP hD hS => ?_)
          clear u9
          subst rr
          clear hc
          refine W.eq (g2 := F0 m 56 ls [.int x483]) rfl ?_
          have hP : va_P G.1 vwCl (wMs q G.2 st) H := hP
          have hD : va_D A (wMs q G.2 st) := hD
          refine lv_if_lt (tgt := 63) hx hb d15_59_56 rfl (fun c486 => ?_) (fun c486 => ?_)
          ·
            replace h := (if_pos c486).symm.trans h
            refine lv_iconst (v := 0) hx hb d15_59_63 (by decide) ?_
            have e9 := Option.some.inj h
            subst e469
            have hl := lv_sub hl (l' := [(0, .ref (q 0)), (1, .int a0), (2, .int a1), (3, .int x4), (4, .int y5), (5, .int v7), (6, .int v8), (7, .int v9)]) [0, 1, 2, 3, 4, 5, 6, 7] rfl
            exact hj _ _ _ hl hP hD hS
          ·
            replace h := (if_neg c486).symm.trans h
            refine lv_iconst (v := 1) hx hb d15_59_59 (by decide) ?_
            refine lv_goto (tgt := 64) hx hb d15_59_60 rfl ?_
            have e9 := Option.some.inj h
            subst e469
            have hl := lv_sub hl (l' := [(0, .ref (q 0)), (1, .int a0), (2, .int a1), (3, .int x4), (4, .int y5), (5, .int v7), (6, .int v8), (7, .int v9)]) [0, 1, 2, 3, 4, 5, 6, 7] rfl
            exact hj _ _ _ hl hP hD hS
        ·
          replace h := (if_pos c468).symm.trans hX
          refine lv_iload_n hx hb d15_59_37 rfl (lv_at hl 2 rfl) ?_
          refine lv_if_lt (tgt := 45) hx hb d15_59_38 rfl (fun c487 => ?_) (fun c487 => ?_)
          ·
            replace h := (if_pos c487).symm.trans h
            refine lv_iconst (v := 0) hx hb d15_59_45 (by decide) ?_
            refine lv_goto (tgt := 64) hx hb d15_59_46 rfl ?_
            have e9 := Option.some.inj h
            subst e469
            have hl := lv_sub hl (l' := [(0, .ref (q 0)), (1, .int a0), (2, .int a1), (3, .int x4), (4, .int y5), (5, .int v7), (6, .int v8), (7, .int v9)]) [0, 1, 2, 3, 4, 5, 6, 7] rfl
            exact hj _ _ _ hl hP hD hS
          ·
            replace h := (if_neg c487).symm.trans h
            refine lv_iconst (v := 1) hx hb d15_59_41 (by decide) ?_
            refine lv_goto (tgt := 64) hx hb d15_59_42 rfl ?_
            have e9 := Option.some.inj h
            subst e469
            have hl := lv_sub hl (l' := [(0, .ref (q 0)), (1, .int a0), (2, .int a1), (3, .int x4), (4, .int y5), (5, .int v7), (6, .int v8), (7, .int v9)]) [0, 1, 2, 3, 4, 5, 6, 7] rfl
            exact hj _ _ _ hl hP hD hS
  have hl := lv_sub hl (l' := [(0, .ref (q 0)), (1, .int a0), (2, .int a1), (3, .int x4), (4, .int y5), (5, .int 0), (6, .int 0), (7, .int 0)]) [5, 6, 7, 4, 3, 2, 1, 0] rfl
  exact hloop _ _ _ _ hX _ _ _ hl hP hD hS
