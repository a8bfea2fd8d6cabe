theorem dlaw_18 : decode code 18 = .ok (.iload_n 3, 1) := by decide +kernel
theorem dlaw_19 : decode code 19 = .ok (.aload_n 0, 1) := by decide +kernel
theorem dlaw_20 : decode code 20 = .ok (.arraylength, 1) := by decide +kernel
theorem dlaw_21 : decode code 21 = .ok (.iconst 3, 1) := by decide +kernel
theorem dlaw_22 : decode code 22 = .ok (.isub, 1) := by decide +kernel
theorem dlaw_23 : decode code 23 = .ok (.if_icmp .gt 438, 3) := by decide +kernel
theorem dlaw_461 : decode code 461 = .ok (.iconst 1, 1) := by decide +kernel
theorem dlaw_462 : decode code 462 = .ok (.ireturn, 1) := by decide +kernel
theorem dlaw_455 : decode code 455 = .ok (.iinc 3 3, 3) := by decide +kernel
theorem dlaw_458 : decode code 458 = .ok (.goto (-440), 3) := by decide +kernel
theorem dlaw_26 : decode code 26 = .ok (.aload_n 0, 1) := by decide +kernel
theorem dlaw_27 : decode code 27 = .ok (.iload_n 3, 1) := by decide +kernel
theorem dlaw_28 : decode code 28 = .ok (.iaload, 1) := by decide +kernel
theorem dlaw_29 : decode code 29 = .ok (.bipush 15, 2) := by decide +kernel
theorem dlaw_31 : decode code 31 = .ok (.iand, 1) := by decide +kernel
theorem dlaw_32 : decode code 32 = .ok (.tableswitch 423 0 14 #[76, 101, 124, 147, 170, 203, 226, 249, 282, 305, 318, 341, 364, 377, 400], 76) := by decide +kernel
section LWP
variable {p : Program} {l : Launch} {e : Env} {s : State} {m : MethodId} {below : List Frame} {meth : Method} {c : Code} {H : Heap} {locs : List Loc} {cells slots : Nat} {ls : Array Slot} {G : Gk} {Zd : Nat → Nat} {K : KE} {A : Nat → Prop} {b a1 n i L : Nat} {qm : Nat → Nat} {xs : Nat → Int32} {st : CS} {ms : MS}
set_option maxRecDepth 100000 in
theorem lp_head {Q : State → Prop} (C : LG p s m c b L xs G Zd K A) (hi : i ≤ 1536) (hl : lv_has ls 4 [(3, .int (Int32.ofNat i)), (2, .ref (qm 0)), (1, .ref a1), (0, .ref b)]) (h : LSt G Zd K A s a1 qm n st ms H locs) (kx : W p l e room_1 s m #[Value.ref b] below meth c H locs cells slots Q (F0 m 461 ls [])) (kin : i + 3 ≤ L → W p l e room_1 s m #[Value.ref b] below meth c H locs cells slots Q (F0 m 26 ls [])) : W p l e room_1 s m #[Value.ref b] below meth c H locs cells slots Q (F0 m 18 ls []) := by
  obtain ⟨hx, hb, hml, hown, hts, hX, hbl, hbA, hE, hkc, hkt, hL⟩ := C
  obtain ⟨hz, hP, hD, hS, hLI⟩ := h
  have N := nums
  refine lv_iload_n hx hb dlaw_18 rfl (lv_at hl 0 rfl) ?_
  refine lv_aload_n hx hb dlaw_19 rfl (lv_at hl 3 rfl) ?_
  refine va_slen hx hb hX hbl hbA hS dlaw_20 ?_
  refine lv_iconst (v := 3) hx hb dlaw_21 (by decide) ?_
  refine lv_isub hx hb dlaw_22 ?_
  refine lv_icmp_gt (tgt := 461) hx hb dlaw_23 rfl (fun _ => kx) (fun hc => kin ?_)
  have e0 : (Int32.ofNat i).toInt = i := ofNat_i (by omega)
  have e1 : (Int32.ofNat L).toInt = L := ofNat_i (by omega)
  have e2 : (Int32.ofNat L - 3).toInt = L - 3 := by rw [i32sub (by omega) (by omega)]; omega
  have h9 : ¬ (Int32.ofNat L - 3).toInt < (Int32.ofNat i).toInt := fun h => hc (i32lt.mpr h)
  omega
set_option maxRecDepth 100000 in
theorem lp_exit (C : LG p s m c b L xs G Zd K A) (hAf : ∀ q, A q → s.heap.size ≤ q) (h6 : Zd 6 = s.heap.size + 600000) (h7 : Zd 7 = tot s.heap + 7302250) (hr : meth.sig.returnType = ret) (hlk : meth.locks = false) (h : LSt G Zd K A s a1 qm n st ms H locs) : W p l e room_1 s m #[Value.ref b] below meth c H locs cells slots (lw_Z below #[Value.ref b] s) (F0 m 461 ls []) := by
  obtain ⟨hx, hb, hml, hown, hts, hX, hbl, hbA, hE, hkc, hkt, hL⟩ := C
  obtain ⟨⟨z1, z2, z3, z4⟩, hP, hD, hS, hLI⟩ := h
  refine lv_iconst (v := 1) hx hb dlaw_461 (by decide) ?_
  refine va_forget (fun q h => hAf _ (hS.2.2 q h)) ?_
  refine W.tight 600000 7302250 (by omega) (by omega) ?_
  exact lw_ret hx hb hr hlk dlaw_462
set_option maxHeartbeats 4000000 in
set_option maxRecDepth 100000 in
theorem lp_loop (C : LG p s m c b L xs G Zd K A) (hAf : ∀ q, A q → s.heap.size ≤ q) (h6 : Zd 6 = s.heap.size + 600000) (h7 : Zd 7 = tot s.heap + 7302250) (hr : meth.sig.returnType = ret) (hlk : meth.locks = false) : ∀ (n i : Nat), i + 3 * n = 1536 → ∀ (st : CS) (ms : MS) (H : Heap) (locs : List Loc) (cells slots : Nat) (ls : Array Slot), lv_has ls 4 [(3, .int (Int32.ofNat i)), (2, .ref (qm 0)), (1, .ref a1), (0, .ref b)] → LSt G Zd K A s a1 qm n st ms H locs → W p l e room_1 s m #[Value.ref b] below meth c H locs cells slots (lw_Z below #[Value.ref b] s) (F0 m 18 ls []) := by
  intro n
  induction n with
  | zero =>
    intro i hi st ms H locs cells slots ls hl h
    exact lp_head C (by omega) hl h (lp_exit C hAf h6 h7 hr hlk h) (fun h9 => absurd C.2.2.2.2.2.2.2.2.2.2.2 (by omega))
  | succ n ih =>
    intro i hi st ms H locs cells slots ls hl h
    refine lp_head C (by omega) hl h (lp_exit C hAf h6 h7 hr hlk h) (fun hin => ?_)
    have h0 := h
    have C0 := C
    obtain ⟨hx, hb, hml, hown, hts, hX, hbl, hbA, hE, hkc, hkt, hL⟩ := C
    obtain ⟨hz, hP, hD, hS, hLI⟩ := h
    obtain ⟨v0, v1, v2⟩ := vi_in hin hL
    have tl : ∀ (st1 : CS) (ms1 : MS) (H1 : Heap) (locs1 : List Loc) (cells1 slots1 : Nat), LSt G Zd K A s a1 qm n st1 ms1 H1 locs1 → W p l e room_1 s m #[Value.ref b] below meth c H1 locs1 cells1 slots1 (lw_Z below #[Value.ref b] s) (F0 m 455 ls []) := by
      intro st1 ms1 H1 locs1 cells1 slots1 h1
      refine lv_iinc (k := 0) (v := Int32.ofNat (i + 3)) (lv' := [(3, .int (Int32.ofNat (i + 3))), (2, .ref (qm 0)), (1, .ref a1), (0, .ref b)]) hx hb dlaw_455 hl rfl (by rw [Int32.ofNat_add]; rfl) (by decide) rfl (fun ls hl => ?_)
      refine lv_goto (tgt := 18) hx hb dlaw_458 rfl ?_
      exact ih (i + 3) (by omega) st1 ms1 H1 locs1 cells1 slots1 ls hl h1
    refine lv_aload_n hx hb dlaw_26 rfl (lv_at hl 3 rfl) ?_
    refine lv_iload_n hx hb dlaw_27 rfl (lv_at hl 0 rfl) ?_
    refine va_sld hx hb hX hbl hbA hS (i := Int32.ofNat i) v0 dlaw_28 ?_
    refine lv_bipush (v := 15) hx hb dlaw_29 (by decide) ?_
    refine lv_iand hx hb dlaw_31 ?_
    refine lv_topi (fun v ev => ?_)
    obtain ⟨j, hj, hv⟩ := pk_andE (xs ((Int32.ofNat i).toNatClampNeg)) (m := 15) 4 (by decide)
    rw [hv] at ev
    clear hv
    subst ev
    rcases (show j = 0 ∨ j = 1 ∨ j = 2 ∨ j = 3 ∨ j = 4 ∨ j = 5 ∨ j = 6 ∨ j = 7 ∨ j = 8 ∨ j = 9 ∨ j = 10 ∨ j = 11 ∨ j = 12 ∨ j = 13 ∨ j = 14 ∨ j = 15 by omega) with rfl | rfl | rfl | rfl | rfl | rfl | rfl | rfl | rfl | rfl | rfl | rfl | rfl | rfl | rfl | rfl
    ·
      refine W.eq (g2 := F0 m 32 ls [.int 0]) rfl ?_
      refine lv_tableIn (tgt := 108) (off := 76) hx hb dlaw_32 (by decide) (by decide) rfl rfl ?_
      exact lp_type C0 hin hl h0 tl
    ·
      refine W.eq (g2 := F0 m 32 ls [.int 1]) rfl ?_
      refine lv_tableIn (tgt := 133) (off := 101) hx hb dlaw_32 (by decide) (by decide) rfl rfl ?_
      exact lp_put C0 hin hl h0 tl
    ·
      refine W.eq (g2 := F0 m 32 ls [.int 2]) rfl ?_
      refine lv_tableIn (tgt := 156) (off := 124) hx hb dlaw_32 (by decide) (by decide) rfl rfl ?_
      exact lp_patch C0 hin hl h0 tl
    ·
      refine W.eq (g2 := F0 m 32 ls [.int 3]) rfl ?_
      refine lv_tableIn (tgt := 179) (off := 147) hx hb dlaw_32 (by decide) (by decide) rfl rfl ?_
      exact lp_remove C0 hin hl h0 tl
    ·
      refine W.eq (g2 := F0 m 32 ls [.int 4]) rfl ?_
      refine lv_tableIn (tgt := 202) (off := 170) hx hb dlaw_32 (by decide) (by decide) rfl rfl ?_
      exact lp_query C0 hin hl h0 tl
    ·
      refine W.eq (g2 := F0 m 32 ls [.int 5]) rfl ?_
      refine lv_tableIn (tgt := 235) (off := 203) hx hb dlaw_32 (by decide) (by decide) rfl rfl ?_
      exact lp_result C0 hin hl h0 tl
    ·
      refine W.eq (g2 := F0 m 32 ls [.int 6]) rfl ?_
      refine lv_tableIn (tgt := 258) (off := 226) hx hb dlaw_32 (by decide) (by decide) rfl rfl ?_
      exact lp_show C0 hin hl h0 tl
    ·
      refine W.eq (g2 := F0 m 32 ls [.int 7]) rfl ?_
      refine lv_tableIn (tgt := 281) (off := 249) hx hb dlaw_32 (by decide) (by decide) rfl rfl ?_
      exact lp_print C0 hin hl h0 tl
    ·
      refine W.eq (g2 := F0 m 32 ls [.int 8]) rfl ?_
      refine lv_tableIn (tgt := 314) (off := 282) hx hb dlaw_32 (by decide) (by decide) rfl rfl ?_
      exact lp_output C0 hin hl h0 tl
    ·
      refine W.eq (g2 := F0 m 32 ls [.int 9]) rfl ?_
      refine lv_tableIn (tgt := 337) (off := 305) hx hb dlaw_32 (by decide) (by decide) rfl rfl ?_
      exact lp_open C0 hin hl h0 tl
    ·
      refine W.eq (g2 := F0 m 32 ls [.int 10]) rfl ?_
      refine lv_tableIn (tgt := 350) (off := 318) hx hb dlaw_32 (by decide) (by decide) rfl rfl ?_
      exact lp_close C0 hin hl h0 tl
    ·
      refine W.eq (g2 := F0 m 32 ls [.int 11]) rfl ?_
      refine lv_tableIn (tgt := 373) (off := 341) hx hb dlaw_32 (by decide) (by decide) rfl rfl ?_
      exact lp_fuse C0 hin hl h0 tl
    ·
      refine W.eq (g2 := F0 m 32 ls [.int 12]) rfl ?_
      refine lv_tableIn (tgt := 396) (off := 364) hx hb dlaw_32 (by decide) (by decide) rfl rfl ?_
      exact lp_restart C0 hin hl h0 tl
    ·
      refine W.eq (g2 := F0 m 32 ls [.int 13]) rfl ?_
      refine lv_tableIn (tgt := 409) (off := 377) hx hb dlaw_32 (by decide) (by decide) rfl rfl ?_
      exact lp_page C0 hin hl h0 tl
    ·
      refine W.eq (g2 := F0 m 32 ls [.int 14]) rfl ?_
      refine lv_tableIn (tgt := 432) (off := 400) hx hb dlaw_32 (by decide) (by decide) rfl rfl ?_
      exact lp_size C0 hin hl h0 tl
    ·
      refine W.eq (g2 := F0 m 32 ls [.int 15]) rfl ?_
      refine lv_tableOut (tgt := 455) hx hb dlaw_32 (by decide) rfl ?_
      exact tl st ms H locs cells slots ⟨hz, hP, hD, hS, hLI.less⟩
end LWP
