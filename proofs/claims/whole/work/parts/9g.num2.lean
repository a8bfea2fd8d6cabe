/-! Writing: a number. -/
theorem uC_id {s : CS} {v : Nat} {e : CE} (h : s.2.2 v = e) : uC s v e = s := by
  obtain ⟨a, b, f⟩ := s
  show (a, b, va_up f v e) = (a, b, f)
  congr 2
  funext j
  by_cases hj : j = v
  · rw [hj, va_up_self]; exact h.symm
  · rw [va_up_ne _ _ hj]
theorem wrD_s (g : Nat → Int32) (P n k : Nat) (h : k + 1 ≤ P) : upd (wrD g P n k) (P - k - 1) (dgt n k) = wrD g P n (k + 1) := by
  funext p
  by_cases h1 : p = P - k - 1
  · rw [h1, upd_self]
    unfold wrD
    rw [if_pos ⟨by omega, by omega⟩]
    congr 1
    omega
  · rw [upd_ne h1]
    unfold wrD
    by_cases h2 : P ≤ p + k ∧ p < P
    · rw [if_pos h2, if_pos ⟨by omega, by omega⟩]
    · rw [if_neg h2, if_neg (by omega)]
theorem nDig_t {n : Nat} (hn : n < 1000000) : ∃ t, n < 100 ^ (t + 1) ∧ (t = 0 ∨ 100 ^ t ≤ n) ∧ t ≤ 2 ∧ n / 100 ^ t < 100 ∧ 10 ^ (2 * t) = 100 ^ t ∧ ((n / 100 ^ t < 10 ∧ nDig n = 2 * t + 1) ∨ (10 ≤ n / 100 ^ t ∧ nDig n = 2 * t + 2)) := by
  have p1 : (100 : Nat) ^ 1 = 100 := by decide
  have p2 : (100 : Nat) ^ 2 = 10000 := by decide
  have p3 : (100 : Nat) ^ 3 = 1000000 := by decide
  have q2 : (10 : Nat) ^ (2 * 1) = 100 := by decide
  have q4 : (10 : Nat) ^ (2 * 2) = 10000 := by decide
  unfold nDig
  by_cases h1 : n < 10
  · exact ⟨0, by show n < 100 ^ 1; omega, Or.inl rfl, by decide, by show n / 1 < 100; omega, rfl, Or.inl ⟨by show n / 1 < 10; omega, by rw [if_pos h1]⟩⟩
  by_cases h2 : n < 100
  · exact ⟨0, by show n < 100 ^ 1; omega, Or.inl rfl, by decide, by show n / 1 < 100; omega, rfl, Or.inr ⟨by show 10 ≤ n / 1; omega, by rw [if_neg h1, if_pos h2]⟩⟩
  by_cases h3 : n < 1000
  · exact ⟨1, by show n < 100 ^ 2; omega, Or.inr (by omega), by decide, by rw [p1]; omega, by decide, Or.inl ⟨by rw [p1]; omega, by rw [if_neg h1, if_neg h2, if_pos h3]⟩⟩
  by_cases h4 : n < 10000
  · exact ⟨1, by show n < 100 ^ 2; omega, Or.inr (by omega), by decide, by rw [p1]; omega, by decide, Or.inr ⟨by rw [p1]; omega, by rw [if_neg h1, if_neg h2, if_neg h3, if_pos h4]⟩⟩
  by_cases h5 : n < 100000
  · exact ⟨2, by show n < 100 ^ 3; omega, Or.inr (by omega), by decide, by rw [p2]; omega, by decide, Or.inl ⟨by rw [p2]; omega, by rw [if_neg h1, if_neg h2, if_neg h3, if_neg h4, if_pos h5]⟩⟩
  · exact ⟨2, by show n < 100 ^ 3; omega, Or.inr (by omega), by decide, by rw [p2]; omega, by decide, Or.inr ⟨by rw [p2]; omega, by rw [if_neg h1, if_neg h2, if_neg h3, if_neg h4, if_neg h5]⟩⟩
section NUMW2
variable {Zd : Nat → Nat} {K : KE} {s : CS} {v cap : Nat}
/-- the digits without the sign -/
theorem gc_abs (hk : kt Zd K) (hw : wf K s) (hm : v ∈ s.2.1) {n P : Nat} (hn : n < 1000000) (hP : nDig n ≤ P) (hc : P ≤ cap) (hcap : cap < 100000) {x pos : Int32} (hx : x.toInt = -n) (hp : pos.toInt = P) (g : Nat → Int32) : ∃ p1 : Int32, p1.toInt = (P - nDig n : Nat) ∧ ∀ F : Int32 × CS → Option (Int32 × CS), ((c_Integer_getChars_l1 Zd K (some v) 4096 (x, pos, uC s v (.inl (2, cap, g)))).bind fun e15 => (some (e15.2.1 + (-1))).bind fun y22 => (some (-e15.1)).bind fun y23 => (rA K e15.2.2 (Zd 2) 2 y23).bind fun x24 => (some v).bind fun a25z => (wA e15.2.2 a25z 2 y22 (vp_nar .byte x24)).bind fun st26 => (if ((-9) : Int32) ≤ e15.1 then (some (y22, st26)) else ((some (y22 + (-1))).bind fun y37 => (some (-e15.1)).bind fun y38 => (rA K st26 (Zd 3) 2 y38).bind fun x39 => (wA st26 a25z 2 y37 (vp_nar .byte x39)).bind fun st40 => some (y37, st40))).bind F) = F (p1, uC s v (.inl (2, cap, wrD g P n (nDig n)))) := by
  have N := nums
  have N9 : (-9 : Int32).toInt = -9 := by decide
  obtain ⟨t, t1, t2, t3, t4, t5, t6⟩ := nDig_t hn
  have hP2 : 2 * t < P := by rcases t6 with ⟨-, e⟩ | ⟨-, e⟩ <;> omega
  obtain ⟨x1, pos1, i1, i2, i3⟩ := gc_l hk hw hm t 4096 n P x pos g t1 t2 hn hP2 hc hcap (by omega) hx hp
  have hp1 : pos1.toInt = (P - 2 * t : Nat) := by omega
  have e4 : (pos1 + -1).toInt = (P - 2 * t - 1 : Nat) := dec_i hp1 (by omega) (by omega)
  clear t1 t2
  generalize hm9 : n / 100 ^ t = m at i2 t4 t6
  have e5 : (-x1).toInt = m := by
    rw [Int32.toInt_neg, i2]
    have : -(-(m : Int)) = m := by omega
    rw [this]
    apply Int.bmod_eq_of_le
    · omega
    · omega
  have d0 : dgt m 0 = dgt n (2 * t) := by
    unfold dgt
    rw [t5, hm9]
    simp
  have d1 : dgt m 1 = dgt n (2 * t + 1) := by
    have h9 : n / 10 ^ (2 * t + 1) = m / 10 ^ 1 := by rw [Nat.pow_add, t5, ← Nat.div_div_eq_div_mul, hm9]
    unfold dgt
    rw [h9]
  have r2 := tab2 hk (st := uC s v (.inl (2, cap, wrD g P n (2 * t)))) hw e5 t4
  have w2 := wA_u (s := s) (v := v) (cap := cap) (g := wrD g P n (2 * t)) hm (x := dgt m 0) e4 (by omega)
  rw [d0, wrD_s g P n (2 * t) (by omega)] at w2
  rcases t6 with ⟨h9, hd⟩ | ⟨h9, hd⟩
  · have hle : (-9 : Int32) ≤ x1 := i32le.mpr (by omega)
    refine ⟨pos1 + -1, by rw [e4, hd]; omega, fun F => ?_⟩
    simp only [i1, Option.bind_some, r2, nar_d, d0, w2, hle, if_true, hd]
  · have hle : ¬ (-9 : Int32) ≤ x1 := fun e => by have := i32le.mp e; omega
    have e6 : (pos1 + -1 + -1).toInt = (P - (2 * t + 1) - 1 : Nat) := by rw [dec_i e4 (by omega) (by omega)]; omega
    have r3 := tab3 hk (st := uC s v (.inl (2, cap, wrD g P n (2 * t + 1)))) hw e5 t4
    have w3 := wA_u (s := s) (v := v) (cap := cap) (g := wrD g P n (2 * t + 1)) hm (x := dgt m 1) e6 (by omega)
    rw [d1, wrD_s g P n (2 * t + 1) (by omega)] at w3
    refine ⟨pos1 + -1 + -1, by rw [e6, hd]; omega, fun F => ?_⟩
    simp only [i1, Option.bind_some, r2, nar_d, d0, w2, hle, if_false, r3, d1, w3, hd]
theorem gc_neg (hk : kt Zd K) (hw : wf K s) (hm : v ∈ s.2.1) {num pos : Int32} {n nd : Nat} (hnd : nDig n = nd) (hn : n < 1000000) (hx : num.toInt = -n) (hnn : ¬ (0 : Int32) ≤ num) {S : Nat} (hp : pos.toInt = (S + (nd + 1) : Nat)) (hc : S + (nd + 1) ≤ cap) (hcap : cap < 100000) (g : Nat → Int32) : ∃ (x1 : Int32) (g1 : Nat → Int32), c_Integer_getChars Zd K num pos (some v) (uC s v (.inl (2, cap, g))) = some (x1, uC s v (.inl (2, cap, g1))) ∧ (∀ i, i < S ∨ S + (nd + 1) ≤ i → g1 i = g i) ∧ ∀ i, i < nd + 1 → g1 (S + i) = (45 :: tMs nd n).getD i 0 := by
  have h10 : ¬ ((1 : Int32) = 0) := by decide
  obtain ⟨p1, e1, e2⟩ := gc_abs hk hw hm (n := n) (P := S + (nd + 1)) hn (by rw [hnd]; omega) hc hcap (x := num) hx hp g
  rw [hnd] at e1 e2
  have e3 : (p1 + -1).toInt = (S : Nat) := by rw [dec_i e1 (by omega) (by omega)]; omega
  have w := wA_u (s := s) (v := v) (cap := cap) (g := wrD g (S + (nd + 1)) n nd) hm (x := 45) e3 (by omega)
  refine ⟨p1 + -1, upd (wrD g (S + (nd + 1)) n nd) S 45, ?_, fun i hi => ?_, fun i hi => ?_⟩
  · have e9 := e2 (fun e27 => (if (1 : Int32) = (0 : Int32) then (some (e27.1, e27.2)) else ((some (e27.1 + (-1))).bind fun y34 => (wA e27.2 v 2 y34 (vp_nar .byte (45 : Int32))).bind fun st35 => some (y34, st35))).bind fun e30 => some (e30.1, e30.2))
    refine Eq.trans ?_ (e9.trans ?_)
    · simp only [c_Integer_getChars, hnn, if_false, Option.bind_some, h10]
    · simp only [h10, if_false, Option.bind_some, nar_b (show -128 ≤ (45 : Int32).toInt by decide) (by decide), w]
  · rw [upd_ne (by omega)]
    unfold wrD
    rw [if_neg (by omega)]
  · cases i with
    | zero => exact upd_self
    | succ i =>
      rw [upd_ne (by omega)]
      show wrD _ _ _ _ _ = (tMs _ _).getD i 0
      rw [tMs_get _ _ i (by omega)]
      unfold wrD
      rw [if_pos ⟨by omega, by omega⟩, show S + (nd + 1) - 1 - (S + (i + 1)) = nd - 1 - i by omega]
theorem gc_pos (hk : kt Zd K) (hw : wf K s) (hm : v ∈ s.2.1) {num pos : Int32} {n nd : Nat} (hnd : nDig n = nd) (hn : n < 1000000) (hx : (-num).toInt = -n) (hnn : (0 : Int32) ≤ num) {S : Nat} (hp : pos.toInt = (S + nd : Nat)) (hc : S + nd ≤ cap) (hcap : cap < 100000) (g : Nat → Int32) : ∃ (x1 : Int32) (g1 : Nat → Int32), c_Integer_getChars Zd K num pos (some v) (uC s v (.inl (2, cap, g))) = some (x1, uC s v (.inl (2, cap, g1))) ∧ (∀ i, i < S ∨ S + nd ≤ i → g1 i = g i) ∧ ∀ i, i < nd → g1 (S + i) = (tMs nd n).getD i 0 := by
  obtain ⟨p1, e1, e2⟩ := gc_abs hk hw hm (n := n) (P := S + nd) hn (by rw [hnd]; omega) hc hcap (x := -num) hx hp g
  rw [hnd] at e1 e2
  refine ⟨p1, wrD g (S + nd) n nd, ?_, fun i hi => ?_, fun i hi => ?_⟩
  · have e9 := e2 (fun e27 => (if (0 : Int32) = (0 : Int32) then (some (e27.1, e27.2)) else ((some (e27.1 + (-1))).bind fun y34 => (wA e27.2 v 2 y34 (vp_nar .byte (45 : Int32))).bind fun st35 => some (y34, st35))).bind fun e30 => some (e30.1, e30.2))
    refine Eq.trans ?_ (e9.trans ?_)
    · simp only [c_Integer_getChars, hnn, if_true, Option.bind_some]
    · simp only [if_true, Option.bind_some]
  · unfold wrD
    rw [if_neg (by omega)]
  · rw [tMs_get _ _ i (by omega)]
    unfold wrD
    rw [if_pos ⟨by omega, by omega⟩, show S + nd - 1 - (S + i) = nd - 1 - i by omega]
theorem tNum_neg {num : Int32} (h : num.toInt < 0) : tNum num = 45 :: tMs (nDig num.toInt.natAbs) num.toInt.natAbs := by
  unfold tNum
  rw [if_pos h]
  rfl
theorem tNum_pos {num : Int32} (h : ¬ num.toInt < 0) : tNum num = tMs (nDig num.toInt.natAbs) num.toInt.natAbs := by
  unfold tNum
  rw [if_neg h]
  rfl
theorem gc_ok (hk : kt Zd K) (hw : wf K s) (hm : v ∈ s.2.1) {num pos : Int32} (hn : num.toInt.natAbs < 1000000) {S : Nat} (hp : pos.toInt = (S + (tNum num).length : Nat)) (hc : S + (tNum num).length ≤ cap) (hcap : cap < 100000) (g : Nat → Int32) : ∃ (x1 : Int32) (g1 : Nat → Int32), c_Integer_getChars Zd K num pos (some v) (uC s v (.inl (2, cap, g))) = some (x1, uC s v (.inl (2, cap, g1))) ∧ (∀ i, i < S ∨ S + (tNum num).length ≤ i → g1 i = g i) ∧ ∀ i, i < (tNum num).length → g1 (S + i) = (tNum num).getD i 0 := by
  by_cases hneg : num.toInt < 0
  · have htl : (tNum num).length = nDig num.toInt.natAbs + 1 := by rw [tNum_neg hneg, List.length_cons, tMs_len]
    rw [htl] at hp hc
    rw [htl, tNum_neg hneg]
    exact gc_neg hk hw hm rfl hn (by omega) (fun e => by have := i32le.mp e; have := nums; omega) hp hc hcap g
  · have htl : (tNum num).length = nDig num.toInt.natAbs := by rw [tNum_pos hneg, tMs_len]
    rw [htl] at hp hc
    rw [htl, tNum_pos hneg]
    exact gc_pos hk hw hm rfl hn (by rw [neg_i (by omega)]; omega) (i32le.mpr (by have := nums; omega)) hp hc hcap g
theorem ss_num {num : Int32} (hn : num.toInt.natAbs < 1000000) {st : CS} : c_Integer_stringSize Zd K num st = some (Int32.ofNat (tNum num).length) := by
  by_cases hneg : num.toInt < 0
  · have hnn : num < (0 : Int32) := i32lt.mpr (by have := nums; omega)
    have htl : (tNum num).length = nDig num.toInt.natAbs + 1 := by unfold tNum; rw [if_pos hneg, List.length_append, tMs_len, Nat.add_comm]; rfl
    simp only [c_Integer_stringSize, hnn, if_true, Option.bind_some, ss_ok (x := num) (d := 1) (n := num.toInt.natAbs) (by omega) hn, htl]
    rw [Int32.ofNat_add]
    rfl
  · have hnn : ¬ num < (0 : Int32) := fun e => by have := i32lt.mp e; have := nums; omega
    have htl : (tNum num).length = nDig num.toInt.natAbs := by unfold tNum; rw [if_neg hneg, List.length_append, tMs_len]; simp
    simp only [c_Integer_stringSize, hnn, if_false, Option.bind_some, ss_ok (x := -num) (d := 0) (n := num.toInt.natAbs) (by rw [neg_i (by omega)]; omega) hn, htl]
    simp
end NUMW2
section WRITE2
variable {Zd : Nat → Nat} {K : KE} {R : Nat → Option Nat} {Q : Nat → Nat → Option Nat} {s0 s : CS} {q0 : Nat → Nat} {cw0 : Nat} {I0 : Nat → Int32} {A0 : Nat → Nat → Int32} {T : List Int32}
/-- a number more -/
theorem WB.num (hk : kt Zd K) (hz : Wm Zd s0 cw0) (h : WB K R Q s0 q0 cw0 I0 A0 T s) {num : Int32} (hn : num.toInt.natAbs < 1000000) (hT : T.length + (tNum num).length ≤ 1200) : ∃ s1, c_StringBuilder_append_I Zd K (q0 7) num s = some (some (q0 7), s1) ∧ WB K R Q s0 q0 cw0 I0 A0 (T ++ tNum num) s1 := by
  have L := nums
  obtain ⟨q, cw, I, A, hy, ht⟩ := h
  have htl := ht.1
  have hs0 := hy.sb
  have hcl : (Int32.ofNat (tNum num).length).toInt = (tNum num).length := ofNat_i (by omega)
  have k1 : (I 13 + Int32.ofNat (tNum num).length).toInt = (T.length + (tNum num).length : Nat) := by rw [i32add (by omega) (by omega)]; omega
  obtain ⟨s1, q1, cw1, A1, e1, e2, e3, e4⟩ := hy.ens ht hz (k := I 13 + Int32.ofNat (tNum num).length) (by omega) (by omega)
  have hs := e2.sb
  have hc2 := e2.2.2.2.2.2.1.2.2
  obtain ⟨x1, g1, y1, y2, y3⟩ := gc_ok (Zd := Zd) hk e2.1.2.1 hs.2.1 (cap := cw1) hn k1 (by omega) (by omega) (A1 6)
  rw [uC_id hs.2.2] at y1
  have hft : ∀ j, fits .byte (.int ((tNum num).getD j 0)) = true := by
    intro j
    have hms : ∀ j, fits .byte (.int ((tMs (nDig num.toInt.natAbs) num.toInt.natAbs).getD j 0)) = true := by
      intro j
      by_cases c3 : j < nDig num.toInt.natAbs
      · rw [tMs_get _ _ j c3]; exact fits_b (by rw [dgt_i]; omega) (by rw [dgt_i]; omega)
      · rw [List.getD_eq_getElem?_getD, List.getElem?_eq_none (by rw [tMs_len]; omega)]; decide
    unfold tNum
    by_cases hneg : num.toInt < 0
    · rw [if_pos hneg]
      cases j with
      | zero => show fits .byte (.int 45) = true; decide
      | succ j => exact hms j
    · rw [if_neg hneg]
      exact hms j
  have w1 := e2.arr (g := g1) (fun i => by
    by_cases c : i < T.length ∨ T.length + (tNum num).length ≤ i
    · rw [y2 i c]; exact e2.2.2.2.2.2.2.2 i
    · obtain ⟨j, rfl⟩ : ∃ j, i = T.length + j := ⟨i - T.length, by omega⟩
      rw [y3 j (by omega)]
      exact hft j)
  have hs2 := w1.sb
  have f1 : sF (uC s1 (q1 22) (.inl (2, cw1, g1))) (q0 7) 2 3 (.int (I 13 + Int32.ofNat (tNum num).length)) = some (uC (uC s1 (q1 22) (.inl (2, cw1, g1))) (q0 7) (.inr (.inr (2, [.ref (q1 22), .int 0, .int (I 12), .int (I 13 + Int32.ofNat (tNum num).length)])))) := sF_ob (k := 3) (v := .int (I 13 + Int32.ofNat (tNum num).length)) hs2.1 (Nat.le_of_ble_eq_true rfl)
  have w2 := w1.len (I 13 + Int32.ofNat (tNum num).length) (I 12)
  rw [w1.q7] at w2
  have h10 : ¬ ((1 : Int32) = 0) := by decide
  refine ⟨_, ?_, _, _, _, _, w2, ?_⟩
  · simp only [c_StringBuilder_append_I, isO_ob hs0.1, Option.bind_some, c_AbstractStringBuilder_append_I, gI_ob (k := 3) (v := I 13) hs0.1 rfl, ss_num (Zd := Zd) (K := K) hn, e1, isO_ob hs.1, sb_lat hs, h10, if_false, gQ_ob (k := 0) (r := some (q1 22)) hs.1 rfl, y1, f1]
  · refine e3.app (by rw [upd_self, k1]; omega) (by omega) (fun i hi => ?_) (fun i hi => ?_)
    · rw [va_up_self]; exact y2 i (Or.inl hi)
    · rw [va_up_self, y3 i hi]
      unfold tNum
      by_cases hneg : num.toInt < 0
      · rw [if_pos hneg]
        cases i with
        | zero => show u8 45 = 45; decide
        | succ i =>
          have hlen : (tNum num).length = nDig num.toInt.natAbs + 1 := by unfold tNum; rw [if_pos hneg, List.length_append, tMs_len, Nat.add_comm]; rfl
          show u8 ((tMs (nDig num.toInt.natAbs) num.toInt.natAbs).getD i 0) = (tMs (nDig num.toInt.natAbs) num.toInt.natAbs).getD i 0
          rw [tMs_get _ _ i (by omega), dgt_u8]
      · rw [if_neg hneg]
        have hlen : (tNum num).length = nDig num.toInt.natAbs := by unfold tNum; rw [if_neg hneg, List.length_append, tMs_len]; simp
        show u8 ((tMs (nDig num.toInt.natAbs) num.toInt.natAbs).getD i 0) = (tMs (nDig num.toInt.natAbs) num.toInt.natAbs).getD i 0
        rw [tMs_get _ _ i (by omega), dgt_u8]
end WRITE2
