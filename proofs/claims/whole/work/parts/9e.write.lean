/-! Writing: what stands written; a character, a text. -/
def Wm (Zd : Nat → Nat) (s0 : CS) (cw0 : Nat) : Prop := s0.1.1 + 2402 ≤ Zd 6 + cw0 ∧ s0.1.2 + 4804 ≤ Zd 7 + 2 * cw0
/-- while a text is written: from where, what else stays -/
def WY (K : KE) (R : Nat → Option Nat) (Q : Nat → Nat → Option Nat) (s0 : CS) (q0 : Nat → Nat) (cw0 : Nat) (I0 : Nat → Int32) (A0 : Nat → Nat → Int32) (q : Nat → Nat) (cw : Nat) (I : Nat → Int32) (A : Nat → Nat → Int32) (s : CS) : Prop :=
  Cx K s q cw I A R Q ∧ le K s0 s ∧ (∀ k, k ≠ 22 → q k = q0 k) ∧ (∀ k, k ≠ 12 → k ≠ 13 → I k = I0 k) ∧ (∀ k, k ≠ 6 → A k = A0 k) ∧ (cw0 ≤ cw ∧ 16 ≤ cw ∧ cw ≤ 2402) ∧ (s.1.1 + cw0 ≤ s0.1.1 + cw ∧ s.1.2 + 2 * cw0 ≤ s0.1.2 + 2 * cw) ∧ ∀ i, fits .byte (.int (A 6 i)) = true
def TX (cw : Nat) (I : Nat → Int32) (A : Nat → Nat → Int32) (T : List Int32) : Prop := (I 13).toInt = T.length ∧ T.length ≤ cw ∧ ∀ i, i < T.length → u8 (A 6 i) = T.getD i 0
def WB (K : KE) (R : Nat → Option Nat) (Q : Nat → Nat → Option Nat) (s0 : CS) (q0 : Nat → Nat) (cw0 : Nat) (I0 : Nat → Int32) (A0 : Nat → Nat → Int32) (T : List Int32) (s : CS) : Prop := ∃ q cw I A, WY K R Q s0 q0 cw0 I0 A0 q cw I A s ∧ TX cw I A T
theorem getD_l {T X : List Int32} {i : Nat} (h : i < T.length) : (T ++ X).getD i 0 = T.getD i 0 := by
  rw [List.getD_eq_getElem?_getD, List.getD_eq_getElem?_getD, List.getElem?_append_left h]
theorem getD_r {T X : List Int32} {i : Nat} : (T ++ X).getD (T.length + i) 0 = X.getD i 0 := by
  rw [List.getD_eq_getElem?_getD, List.getD_eq_getElem?_getD, List.getElem?_append_right (by omega)]
  congr 2
  omega
theorem TX.app {cw cw1 : Nat} {I I1 : Nat → Int32} {A A1 : Nat → Nat → Int32} {T X : List Int32} (h : TX cw I A T) (h1 : (I1 13).toInt = T.length + X.length) (h2 : T.length + X.length ≤ cw1) (h3 : ∀ i, i < T.length → A1 6 i = A 6 i) (h4 : ∀ i, i < X.length → u8 (A1 6 (T.length + i)) = X.getD i 0) : TX cw1 I1 A1 (T ++ X) := by
  refine ⟨by rw [List.length_append]; omega, by rw [List.length_append]; exact h2, fun i hi => ?_⟩
  rw [List.length_append] at hi
  by_cases c : i < T.length
  · rw [getD_l c, h3 i c]; exact h.2.2 i c
  · obtain ⟨j, rfl⟩ : ∃ j, i = T.length + j := ⟨i - T.length, by omega⟩
    rw [getD_r]; exact h4 j (by omega)
section WRITE
variable {Zd : Nat → Nat} {K : KE} {R : Nat → Option Nat} {Q : Nat → Nat → Option Nat} {s0 s : CS} {q0 q : Nat → Nat} {cw0 cw : Nat} {I0 I : Nat → Int32} {A0 A : Nat → Nat → Int32} {T : List Int32}
theorem WY.q7 (h : WY K R Q s0 q0 cw0 I0 A0 q cw I A s) : q 7 = q0 7 := h.2.2.1 7 (by decide)
theorem WY.sb (h : WY K R Q s0 q0 cw0 I0 A0 q cw I A s) : sbd s (q0 7) (q 22) (I 12) (I 13) cw (A 6) := by
  rw [← h.q7]
  exact written_sbd h.1.1
theorem WY.ens (h : WY K R Q s0 q0 cw0 I0 A0 q cw I A s) (ht : TX cw I A T) (hz : Wm Zd s0 cw0) {k : Int32} (k0 : (T.length : Int) ≤ k.toInt) (k1 : k.toInt ≤ 1200) : ∃ s1 q1 cw1 A1, c_AbstractStringBuilder_ensureCapacityInternal Zd K (q0 7) k s = some s1 ∧ WY K R Q s0 q0 cw0 I0 A0 q1 cw1 I A1 s1 ∧ TX cw1 I A1 T ∧ k.toInt ≤ cw1 := by
  obtain ⟨z6, z7⟩ := hz
  have h0 := h
  obtain ⟨hC, h2, h3, h4, h5, ⟨h6, h7, h8⟩, ⟨h9, h10⟩, h11⟩ := h
  by_cases c : k.toInt ≤ cw
  · exact ⟨s, q, cw, A, ens_no (Zd := Zd) (K := K) h0.sb (by omega) (by omega) c, h0, ht, c⟩
  · obtain ⟨s1, cw1, g, e1, e2, e3, e4, e5, e6, e7, e8, e9⟩ := grow (Zd := Zd) hC h11 (k := k) (by omega) k1 (by omega) (by omega)
    rw [h0.q7] at e1
    refine ⟨s1, _, cw1, _, e1, ⟨e2, h2.tr e3, fun j hj => (va_up_ne _ _ hj).trans (h3 j hj), h4, fun j hj => (va_up_ne _ _ hj).trans (h5 j hj), ⟨by omega, by omega, e8⟩, ⟨by rw [e9]; dsimp only; omega, by rw [e9]; dsimp only; omega⟩, fun i => by rw [va_up_self]; exact e5 i⟩, ⟨ht.1, by omega, fun i hi => ?_⟩, e6⟩
    rw [va_up_self, e4 i (by have := ht.2.1; omega)]
    exact ht.2.2 i hi
theorem WY.arr (h : WY K R Q s0 q0 cw0 I0 A0 q cw I A s) {g : Nat → Int32} (hg : ∀ i, fits .byte (.int (g i)) = true) : WY K R Q s0 q0 cw0 I0 A0 q cw I (va_up A 6 g) (uC s (q 22) (.inl (2, cw, g))) := by
  obtain ⟨⟨hF, hw, hz⟩, h2, h3, h4, h5, h6, h9, h11⟩ := h
  have hm := hF.fl (i := 22) rfl
  refine ⟨⟨hF.put (i := 22) rfl rfl (fun j hj => ⟨rfl, rfl, va_up_ne _ _ (by omega)⟩) (fun j hj => ⟨rfl, rfl, rfl, rfl, rfl, rfl⟩), hw, by_Rz hz (Or.inl rfl) hm.1 (fun fs e => by cases e)⟩, h2.tr (by_le hz (Or.inl rfl) hm.1 hm.2), h3, h4, fun j hj => (va_up_ne _ _ hj).trans (h5 j hj), h6, h9, fun i => by rw [va_up_self]; exact hg i⟩
theorem WY.len (h : WY K R Q s0 q0 cw0 I0 A0 q cw I A s) (x m : Int32) : WY K R Q s0 q0 cw0 I0 A0 q cw (upd (upd I 12 m) 13 x) A (uC s (q 7) (.inr (.inr (2, [.ref (q 22), .int 0, .int m, .int x])))) := by
  obtain ⟨⟨hF, hw, hz⟩, h2, h3, h4, h5, h6, h9, h11⟩ := h
  have hm := hF.fl (i := 7) rfl
  refine ⟨⟨hF.put (i := 7) rfl rfl (fun j hj => ⟨rfl, rfl, rfl⟩) (fun j hj => ⟨rfl, rfl, (upd_ne (by omega)).trans (upd_ne (by omega)), (upd_ne (by omega)).trans (upd_ne (by omega)), (upd_ne (by omega)).trans (upd_ne (by omega)), (upd_ne (by omega)).trans (upd_ne (by omega))⟩), hw, nb_Rz hz hm.1 hm.2 rfl rfl⟩, h2.tr (nb_le hz hm.1 hm.2 rfl), h3, fun j a b => (upd_ne b).trans ((upd_ne a).trans (h4 j a b)), h5, h6, h9, h11⟩
/-- a character more -/
theorem WB.chr (hz : Wm Zd s0 cw0) (h : WB K R Q s0 q0 cw0 I0 A0 T s) (hT : T.length < 1200) {c : Int32} (c0 : 0 ≤ c.toInt) (c1 : c.toInt ≤ 255) : ∃ s1, c_StringBuilder_append_C Zd K (q0 7) c s = some (some (q0 7), s1) ∧ WB K R Q s0 q0 cw0 I0 A0 (T ++ [c]) s1 := by
  have L := nums
  obtain ⟨q, cw, I, A, hy, ht⟩ := h
  have k1 : (I 13 + 1).toInt = (I 13).toInt + 1 := by have := ht.1; rw [i32add (by omega) (by omega)]; omega
  have hs0 := hy.sb
  obtain ⟨s1, q1, cw1, A1, e1, e2, e3, e4⟩ := hy.ens ht hz (k := I 13 + 1) (by have := ht.1; omega) (by have := ht.1; omega)
  have hs := e2.sb
  have hce : ¬ (255 : Int32) < c := fun e => by
    have h9 := i32lt.mp e
    have h8 : (255 : Int32).toInt = 255 := by decide
    omega
  have f1 : sF s1 (q0 7) 2 3 (.int (I 13 + 1)) = some (uC s1 (q0 7) (.inr (.inr (2, [.ref (q1 22), .int 0, .int (I 12), .int (I 13 + 1)])))) := sF_ob (k := 3) (v := .int (I 13 + 1)) hs.1 (Nat.le_of_ble_eq_true rfl)
  have h2 : ar1i (uC s1 (q0 7) (.inr (.inr (2, [.ref (q1 22), .int 0, .int (I 12), .int (I 13 + 1)])))) (q1 22) 2 cw1 (A1 6) := ar1_ne hs.2 (fun e => sbd_ne hs e.symm)
  have f2 := wA_ar (i := I 13) (v := c.toInt8.toInt32) h2 (vp_of (by have := ht.1; omega) (by omega))
  obtain ⟨b1, b2⟩ := i2b_r c
  have h10 : ¬ ((1 : Int32) = 0) := by decide
  have hcan : c_StringLatin1_canEncode Zd K c s1 = some 1 := by
    simp only [c_StringLatin1_canEncode, hce, if_false, Option.bind_some, bz]
    rfl
  have w1 := e2.len (I 13 + 1) (I 12)
  rw [e2.q7] at w1
  have w2 := w1.arr (g := upd (A1 6) (I 13).toNatClampNeg c.toInt8.toInt32) (fun i => by
    by_cases ei : i = (I 13).toNatClampNeg
    · rw [ei, upd_self]; exact fits_b b1 b2
    · rw [upd_ne ei]; exact e2.2.2.2.2.2.2.2 i)
  refine ⟨_, ?_, _, _, _, _, w2, ?_⟩
  · simp only [c_StringBuilder_append_C, isO_ob hs0.1, Option.bind_some, c_AbstractStringBuilder_append_C, gI_ob (k := 3) (v := I 13) hs0.1 rfl, e1, isO_ob hs.1, sb_lat hs, h10, if_false, hcan, gQ_ob (k := 0) (r := some (q1 22)) hs.1 rfl, gI_ob (k := 3) (v := I 13) hs.1 rfl, f1, nar_b b1 b2, f2]
  · have htl := ht.1
    have tn : (I 13).toNatClampNeg = T.length := by rw [tnn]; omega
    refine e3.app (by rw [upd_self, k1, htl]; rfl) (by show T.length + 1 ≤ cw1; omega) (fun i hi => ?_) (fun i hi => ?_)
    · rw [va_up_self, upd_ne (by omega)]
    · have hi : i < 1 := hi
      have : i = 0 := by omega
      subst this
      rw [va_up_self, tn, Nat.add_zero, upd_self, u8_i2b c0 (by omega)]
      rfl
/-- a text more -/
theorem WB.str (hz : Wm Zd s0 cw0) (h : WB K R Q s0 q0 cw0 I0 A0 T s) {b : Nat} {cs : List Int32} (hb : strOf K s b = some cs) (hT : T.length + cs.length ≤ 1200) : ∃ s1, c_StringBuilder_append_q Zd K (q0 7) (some b) s = some (some (q0 7), s1) ∧ WB K R Q s0 q0 cw0 I0 A0 (T ++ cs.map u8) s1 := by
  have L := nums
  obtain ⟨q, cw, I, A, hy, ht⟩ := h
  have htl := ht.1
  have hs0 := hy.sb
  have hcl : (Int32.ofNat cs.length).toInt = cs.length := ofNat_i (by omega)
  have k1 : (I 13 + Int32.ofNat cs.length).toInt = T.length + cs.length := by rw [i32add (by omega) (by omega)]; omega
  obtain ⟨s1, q1, cw1, A1, e1, e2, e3, e4⟩ := hy.ens ht hz (k := I 13 + Int32.ofNat cs.length) (by omega) (by omega)
  have hs := e2.sb
  have hle1 : le K s s1 := by
    by_cases c : (I 13 + Int32.ofNat cs.length).toInt ≤ cw
    · have := ens_no (Zd := Zd) (K := K) hs0 (by have := hy.2.2.2.2.2.1; omega) (k := I 13 + Int32.ofNat cs.length) (by omega) c
      rw [this] at e1
      cases e1
      exact le.rf K s
    · obtain ⟨s9, cw9, g9, d1, d2, d3, -⟩ := grow (Zd := Zd) hy.1 hy.2.2.2.2.2.2.2 (k := I 13 + Int32.ofNat cs.length) (by omega) (by omega) (by have := hy.2.2.2.2.2.2.1; have := hz.1; omega) (by have := hy.2.2.2.2.2.2.1; have := hz.2; omega)
      rw [hy.q7, e1] at d1
      cases d1
      exact d3
  have hb1 := hle1.str hb
  obtain ⟨v, n, fs, f, u1, u2, u3⟩ := strOf_some hb1
  have hn : n = cs.length := by rw [u3, List.length_map, List.length_range]
  obtain ⟨r1, r2, r3, n9, g9, r4, r5, r6⟩ := e2.1.2.2 b v _ u1
  rw [u2] at r4
  cases r4
  have tn : (I 13).toNatClampNeg = T.length := by rw [tnn]; omega
  have tc : (Int32.ofNat n).toNatClampNeg = n := by rw [tnn, hn]; omega
  have hcp : cpB K s1 v 0 (q1 22) (I 13) (Int32.ofNat n) = some (uC s1 (q1 22) (.inl (2, cw1, va_cpy f (A1 6) 0 T.length n))) := by
    have t0 : (0 : Int32).toNatClampNeg = 0 := rfl
    unfold cpB
    rw [u2, Option.bind_some]
    dsimp only
    rw [if_pos hs.2.1, hs.2.2]
    dsimp only
    rw [t0, tc, tn, if_pos ⟨rfl, rfl, by decide, fun e => by have := i32lt.mp e; omega, fun e => by have := i32lt.mp e; rw [hn] at this; omega, by omega, by omega, List.all_eq_true.mpr (fun i hi => by rw [Nat.zero_add]; exact r6 i (List.mem_range.mp hi))⟩]
  have w1 := e2.arr (g := va_cpy f (A1 6) 0 T.length n) (fun i => by
    show fits .byte (.int (if T.length ≤ i ∧ i < T.length + n then f (0 + (i - T.length)) else A1 6 i)) = true
    by_cases c : T.length ≤ i ∧ i < T.length + n
    · rw [if_pos c]; exact r6 _ (by omega)
    · rw [if_neg c]; exact e2.2.2.2.2.2.2.2 i)
  have hs2 := w1.sb
  have f1 : sF (uC s1 (q1 22) (.inl (2, cw1, va_cpy f (A1 6) 0 T.length n))) (q0 7) 2 3 (.int (I 13 + Int32.ofNat cs.length)) = some (uC (uC s1 (q1 22) (.inl (2, cw1, va_cpy f (A1 6) 0 T.length n))) (q0 7) (.inr (.inr (2, [.ref (q1 22), .int 0, .int (I 12), .int (I 13 + Int32.ofNat cs.length)])))) := sF_ob (k := 3) (v := .int (I 13 + Int32.ofNat cs.length)) hs2.1 (Nat.le_of_ble_eq_true rfl)
  have w2 := w1.len (I 13 + Int32.ofNat cs.length) (I 12)
  rw [w1.q7] at w2
  have hnz : nrB 0 = some () := rfl
  have hlen0 := str_len (Zd := Zd) hb
  have hcod : c_String_coder Zd K b s1 = some 0 := by simp only [c_String_coder, gI_cA (k := 1) (v := 0) u1 rfl, Option.bind_some, hnz]
  refine ⟨_, ?_, _, _, _, _, w2, ?_⟩
  · simp only [c_StringBuilder_append_q, isO_ob hs0.1, Option.bind_some, c_AbstractStringBuilder_append_q, nl, str_isO hb, hlen0, gI_ob (k := 3) (v := I 13) hs0.1 rfl, e1, gI_ob (k := 3) (v := I 13) hs.1 rfl, isO_ob hs.1, c_AbstractStringBuilder_putStringAt, c_AbstractStringBuilder_inflateIfNeededFor, gI_ob (k := 1) (v := 0) hs.1 rfl, isO_cA u1, hcod, if_true, gQ_ob (k := 0) (r := some (q1 22)) hs.1 rfl, c_String_getBytes, gQ_cA (k := 0) (r := some v) u1 rfl, shl0, lA_cA u2, hcp, gI_ob (k := 3) (v := I 13) hs2.1 rfl, f1]
  · refine e3.app (by rw [upd_self, k1, List.length_map]) (by rw [List.length_map]; omega) (fun i hi => ?_) (fun i hi => ?_)
    · rw [va_up_self]
      show (if T.length ≤ i ∧ i < T.length + n then f (0 + (i - T.length)) else A1 6 i) = _
      rw [if_neg (by omega)]
    · rw [List.length_map] at hi
      rw [va_up_self]
      show u8 (if T.length ≤ T.length + i ∧ T.length + i < T.length + n then f (0 + (T.length + i - T.length)) else A1 6 (T.length + i)) = _
      rw [if_pos ⟨by omega, by omega⟩, List.getD_eq_getElem?_getD, List.getElem?_map, u3, List.getElem?_map, List.getElem?_range (by omega)]
      show u8 (f _) = u8 (f i)
      congr 2
      omega
end WRITE
