/-! show, print: class and model. -/
/-- what writing may change beside the text -/
def Wn (st : CS) (q : Nat → Nat) (cw : Nat) (st1 : CS) (q1 : Nat → Nat) (cw1 : Nat) : Prop := (∀ k, k ≠ 22 → q1 k = q k) ∧ cw ≤ cw1 ∧ cw1 ≤ 2402 ∧ st1.1.1 + cw ≤ st.1.1 + cw1 ∧ st1.1.2 + 2 * cw ≤ st.1.2 + 2 * cw1
section SHOW
variable {Zd : Nat → Nat} {K : KE} {st : CS} {ms : MS} {q : Nat → Nat} {cw : Nat} {I : Nat → Int32} {A : Nat → Nat → Int32} {R : Nat → Option Nat} {Q : Nat → Nat → Option Nat}
theorem tree_okS (hk : wk K) : ∀ (d a : Nat) (L : List Nd), treeOf Zd K st d a = some L → ∀ x ∈ L, okS x.2.2.2.1 ∧ okS x.2.2.2.2 ∧ -999999 ≤ x.2.2.1.toInt ∧ x.2.2.1.toInt ≤ 999999 := by
  intro d
  induction d with
  | zero => intro a L h; cases h
  | succ d ih =>
    intro a L h
    obtain ⟨o, num, cs, ns, fst, nx, ks, -, hcs, -, hok, rfl⟩ := tree_node hk h
    intro x hx
    rcases List.mem_cons.mp hx with rfl | hx
    · exact ⟨hok.2.1, hok.2.2.1, hok.2.2.2.1⟩
    · obtain ⟨M, hM, hxM⟩ := List.mem_flatten.mp hx
      obtain ⟨k, hk9, rfl⟩ := List.mem_map.mp hM
      obtain ⟨nx9, h9⟩ := Cs.all ks fst none hcs k hk9
      exact ih _ _ h9.1 x hxM
/-- a row, written by the model -/
theorem emit_lock {L : List Nd} {base : Nat} {b : Int32} {T : List Int32} (h : RW L ms base b) (hL : 0 < L.length) (hspan : rd (ms.2.2.1 2) 2100 b = some (Int32.ofNat L.length)) (hT : T.length ≤ 1200) (hm : ∀ y2 : Int32, y2.toInt = base + L.length → MW L ms base b y2 L T) : ∃ ms1, m_emitValue b ms = some ms1 ∧ MB ms T ms1 := by
  have N := nums
  have hb := h.1
  have h24 := h.2.1
  have h21 := h.2.2.1
  have hsp : (Int32.ofNat L.length).toInt = L.length := ofNat_i (by omega)
  have hy : (b + Int32.ofNat L.length).toInt = base + L.length := by rw [i32add (by omega) (by omega)]; omega
  have hm0 : MB ms [] (upd ms.1 11 0, ms.2.1, ms.2.2.1, ms.2.2.2) := ⟨fun k hk => upd_ne hk, rfl, fun _ _ => rfl, rfl, rfl, fun i hi => absurd hi (Nat.not_lt_zero i)⟩
  obtain ⟨m1, v1, e1, e2, e3⟩ := hm _ hy [] [] none [] (by simp) (fun j _ _ => rfl) (fun e _ _ => rfl) rfl (4096 - L.length) [] _ b (by rw [hb]; rfl) hm0 (by show 0 + ([] ++ T ++ []).length ≤ 1200; rw [List.append_nil]; show 0 + T.length ≤ 1200; omega)
  have e3 : MB ms ([] ++ T ++ []) m1 := e3
  rw [List.append_nil, List.nil_append] at e3
  refine ⟨m1, ?_, e3⟩
  have hl : m_emitValue_l1 b (b + Int32.ofNat L.length) 4096 (b, (upd ms.1 11 0, ms.2.1, ms.2.2.1, ms.2.2.2)) = some (v1, m1) := by
    rw [show 4096 - L.length + L.length = (4096 - L.length - 1 + 1) + L.length by omega] at e2
    rw [show (4096 : Nat) = (4096 - L.length - 1 + 1) + L.length by omega, e2, show 4096 - L.length = 4096 - L.length - 1 + 1 by omega, m_emitValue_l1_s, if_pos (i32le.mpr (by rw [hy, e1]; show _ ≤ (base : Int) + (0 + L.length : Nat); omega))]
  simp only [m_emitValue, hspan, Option.bind_some, hl]
theorem Rv.written (h : Rv Zd K st ms q cw I A R Q) {st1 : CS} {q1 : Nat → Nat} {cw1 : Nat} {I1 : Nat → Int32} {A1 : Nat → Nat → Int32} {T : List Int32} {ms1 : MS} (hy : WY K R Q st q cw I A q1 cw1 I1 A1 st1) (ht : TX cw1 I1 A1 T) (hm : MB ms T ms1) (hT : T.length ≤ 1200) : Rv Zd K st1 ms1 q1 cw1 I1 A1 R Q := by
  obtain ⟨hF, hw, ⟨t1, t2, t3, t4⟩, ⟨⟨s1, s2, s3⟩, ⟨s4, s5, s6⟩, ⟨s7, s8, s9, s10⟩, s11, s12, s13⟩, hP, hk, hd, ⟨r1, r2, r3, r4⟩, -, ⟨w1, w2, w3, w4, w5⟩, hz⟩ := h
  obtain ⟨hC, hl, -, hi, hA, ⟨c1, c2, c3⟩, -, hfit⟩ := hy
  obtain ⟨m1, m2, m3, m4, m5, m6⟩ := hm
  obtain ⟨x1, x2, x3⟩ := ht
  have i : ∀ k, k ≠ 12 ∧ k ≠ 13 → I1 k = I k := fun k h9 => hi k h9.1 h9.2
  have hsr : sr ms ms1 := ⟨m3 1 (by decide), m3 2 (by decide), by rw [m4], by rw [m4], by rw [m4], by rw [m4]⟩
  have e12 := m3 12 (by decide)
  have e13 := m3 13 (by decide)
  have e14 := m3 14 (by decide)
  have e15 := m3 15 (by decide)
  have e16 := m3 16 (by decide)
  have e17 := m3 17 (by decide)
  have e18 := m3 18 (by decide)
  refine ⟨hC.1, hC.2.1, ⟨?_, ?_, ?_, ?_⟩, ⟨⟨?_, ?_, ?_⟩, ⟨?_, ?_, ?_⟩, ⟨?_, ?_, ?_, ?_⟩, ?_, ?_, ?_⟩, ?_, ?_, hd.mono hl hsr e14, Rr.mono ⟨r1, r2, r3, r4⟩ hl hsr (i 5 (by decide)) (hA 1 (by decide)) (m1 10 (by decide)) (m3 10 (by decide)), ⟨i32eq (by rw [x1, m5]), by rw [x1]; omega, by rw [x1]; omega, by rw [x1]; omega, c2, by omega, ?_⟩, ⟨?_, ?_, ?_, ?_, ?_⟩, hC.2.2⟩
  · rw [hA 0 (by decide), m3 0 (by decide)]; exact t1
  · rw [i 0 (by decide), m1 0 (by decide)]; exact t2
  · rw [i 0 (by decide)]; exact t3
  · rw [i 0 (by decide)]; exact t4
  · rw [i 9 (by decide), m1 14 (by decide)]; exact s1
  · rw [i 10 (by decide), m1 12 (by decide)]; exact s2
  · rw [i 11 (by decide), m1 13 (by decide)]; exact s3
  · rw [i 11 (by decide)]; exact s4
  · rw [i 10 (by decide)]; exact s5
  · rw [i 10 (by decide)]; exact s6
  · rw [hA 2 (by decide), e16]; exact s7
  · rw [hA 3 (by decide), e15]; exact s8
  · rw [hA 4 (by decide), e17]; exact s9
  · rw [hA 5 (by decide), e18]; exact s10
  · rw [hA 4 (by decide)]; exact s11
  · rw [hA 3 (by decide)]; exact s12
  · rw [hA 5 (by decide)]; exact s13
  · intro j hj h9 hh9
    rw [hA (10 + j) (by omega), e13]
    exact hP j hj h9 hh9
  · unfold Rk isRoot
    rw [e12, e13, e14, e15, e17, e18]
    exact hk
  · intro j hj
    rw [x1] at hj
    rw [x3 j (by omega), m6 j (by omega)]
  · rw [i 15 (by decide)]; exact w1
  · rw [i 15 (by decide)]; exact w2
  · rw [i 17 (by decide)]; exact w3
  · rw [i 17 (by decide)]; exact w4
  · intro j
    rw [hA 7 (by decide), hA 8 (by decide)]
    exact ⟨hfit j, (w5 j).2.1, (w5 j).2.2⟩
theorem write_lock (h : Rv Zd K st ms q cw I A R Q) (hk : kc Zd K) (ht : kt Zd K) (hcw : cw ≤ 2402) (hz : Wm Zd st cw) {a base : Nat} {L : List Nd} {b : Int32} (hL : treeOf Zd K st 5 a = some L) (hrow : rowIs ms base L) (hl : L.length ≤ 24) (hb : b.toInt = base) (h21 : base + 24 ≤ 2100) : ∃ x st1 ms1 q1 cw1 I1 A1, c_PagedValues_writeInstead Zd K (q 0) (some a) st = some (x, st1) ∧ m_emitValue b ms = some ms1 ∧ ms1.1 11 = x ∧ Wn st q cw st1 q1 cw1 ∧ Rv Zd K st1 ms1 q1 cw1 I1 A1 R Q := by
  have hF := h.1
  have ho := h.2.2.2.2.2.2.2.2.1
  have hw5 := h.2.2.2.2.2.2.2.2.2.1.2.2.2.2
  have hokL := tree_ok _ _ _ hL
  have hL0 : 0 < L.length := by
    obtain ⟨⟨x, xs, hx, -⟩, -⟩ := hokL
    rw [hx]; simp
  have hRW : RW L ms base b := ⟨hb, hl, h21, hrow, fun x hx => by
    obtain ⟨o1, o2, o3⟩ := hokL.2 x hx
    exact ⟨o1, o2, by omega⟩, tree_okS hk.2.2 5 a L hL⟩
  have hy0 : WY K R Q st q cw I A q cw I A st := ⟨h.cx, le.rf K st, fun _ _ => rfl, fun _ _ _ => rfl, fun _ _ => rfl, ⟨Nat.le_refl _, ho.2.2.2.2.1, hcw⟩, ⟨Nat.le_refl _, Nat.le_refl _⟩, fun i => (hw5 i).1⟩
  obtain ⟨m9, e1⟩ := sb_set0 (Zd := Zd) (K := K) (written_sbd hF) (by omega) ho.2.1
  have hy1 := hy0.len 0 m9
  have hwb : WB K R Q st q cw I A [] (uC st (q 7) (.inr (.inr (2, [.ref (q 22), .int 0, .int m9, .int 0])))) := ⟨_, _, _, _, hy1, by rw [upd_self]; rfl, Nat.zero_le _, fun i hi => absurd hi (Nat.not_lt_zero i)⟩
  -- the text
  obtain ⟨T, t1, t2, t3⟩ : ∃ T, T.length + 24 ≤ 46 * L.length ∧ CW Zd K R Q st q cw I A 5 a T ∧ ∀ y2 : Int32, y2.toInt = base + L.length → MW L ms base b y2 L T := by
    have hy : (b + Int32.ofNat L.length).toInt = base + L.length := by
      have hsp : (Int32.ofNat L.length).toInt = L.length := ofNat_i (by omega)
      rw [i32add (by omega) (by omega)]; omega
    obtain ⟨T, t1, t2, t3⟩ := tree_tw (q0 := q) (I0 := I) (A0 := A) (R := R) (Q := Q) hk ht hz hRW hy 5 a L hL
    refine ⟨T, t1, t2, fun y2 hy2 => ?_⟩
    rw [i32eq (a := y2) (b := b + Int32.ofNat L.length) (by rw [hy, hy2])]
    exact t3
  have hT : T.length ≤ 1200 := by omega
  obtain ⟨s2, f1, f2⟩ := t2 10 0 [] _ (by decide) (by decide) (by decide) hwb (by show 0 + T.length ≤ 1200; omega)
  rw [List.nil_append] at f2
  have hspan : rd (ms.2.2.1 2) 2100 b = some (Int32.ofNat L.length) := by
    obtain ⟨o, num, cs, ns, fst, nx, ks, -, -, -, -, hLL⟩ := tree_node hk.2.2 hL
    have h9 := (hrow 0 (o, 1 + (kL ks).flatten.length, num, cs, ns) (by rw [hLL]; rfl)).2.1
    rw [rd_in (vp_of (by omega) (by omega)), show b.toNatClampNeg = base + 0 by rw [tnn]; omega, h9, hLL, List.length_cons, Nat.add_comm]
  obtain ⟨ms1, g1, g2⟩ := emit_lock hRW hL0 hspan hT t3
  obtain ⟨q1, cw1, I1, A1, hy, htx⟩ := f2
  have hR := h.written hy htx g2 hT
  have hq : q1 7 = q 7 := hy.q7
  have hq0 : q1 0 = q 0 := hy.2.2.1 0 (by decide)
  have hF1 : Fx (uC st (q 7) (.inr (.inr (2, [.ref (q 22), .int 0, .int m9, .int 0])))) q cw (upd (upd I 12 m9) 13 0) A R Q := hy1.1.1
  have hF2 := hR.1
  have r06 : gQ K s2 (q 0) 0 6 = some (some (q 7)) := by rw [← hq0, fg_0_6 hF2, hq]
  have r7 : isO K s2 (q 7) 2 = some () := by rw [← hq]; exact fo_7 hF2
  have r73 : gI K s2 (q 7) 2 3 = some (I1 13) := by rw [← hq]; exact fg_7_3 hF2
  refine ⟨I1 13, s2, ms1, q1, cw1, I1, A1, ?_, g1, ?_, ⟨hy.2.2.1, hy.2.2.2.2.2.1.1, hy.2.2.2.2.2.1.2.2, hy.2.2.2.2.2.2.1⟩, hR⟩
  · simp only [c_PagedValues_writeInstead, fg_0_6 hF, Option.bind_some, fo_7 hF, e1, fg_0_6 hF1, f1, r06, r7, c_StringBuilder_length, c_AbstractStringBuilder_length, r73]
  · exact i32eq (by rw [g2.2.2.2.2.1, htx.1])
theorem sim_show (h : Rv Zd K st ms q cw I A R Q) (hk : kc Zd K) (ht : kt Zd K) (hcw : cw ≤ 2402) (hz : Wm Zd st cw) (i : Int32) : ∃ x st1 ms1 q1 cw1 I1 A1, c_PagedValues_show Zd K (q 0) i st = some (x, st1) ∧ m_show i ms = some (x, ms1) ∧ Wn st q cw st1 q1 cw1 ∧ Rv Zd K st1 ms1 q1 cw1 I1 A1 R Q := by
  have L := nums
  have h0 := h
  have hWn : Wn st q cw st q cw := ⟨fun _ _ => rfl, Nat.le_refl _, hcw, Nat.le_refl _, Nat.le_refl _⟩
  obtain ⟨hF, hw, hT, hS, hP, hk9, hd, ⟨r1, r2, r3, r4⟩, ho, hb, hz9⟩ := h
  by_cases h1 : i < 0
  · refine ⟨-1, st, ms, q, cw, I, A, ?_, ?_, hWn, h0⟩
    · simp only [c_PagedValues_show, fg_0_4 hF, fo_5 hF, Option.bind_some, c_has hF, h1, if_true]
    · simp only [m_show, Option.bind_some, ← r1, wi_0 r2 (Or.inl h1), if_true]
  by_cases h2 : I 5 ≤ i
  · refine ⟨-1, st, ms, q, cw, I, A, ?_, ?_, hWn, h0⟩
    · simp only [c_PagedValues_show, fg_0_4 hF, fo_5 hF, Option.bind_some, c_has hF, h1, h2, if_true, if_false]
    · simp only [m_show, Option.bind_some, ← r1, wi_0 r2 (Or.inr h2), if_true]
  have e0 : ¬ i.toInt < (0 : Int32).toInt := fun e => h1 (i32lt.mpr e)
  have e1 : ¬ (I 5).toInt ≤ i.toInt := fun e => h2 (i32le.mpr e)
  have hin : vp_in i 32 := vp_of (by omega) (by omega)
  have h48 : (48 : Int32).toInt = 48 := by decide
  have k48 : (48 + i).toInt = 48 + i.toInt := by rw [i32add (by omega) (by omega)]; omega
  obtain ⟨-, a, b2, b3, LL, b4, b5, b6⟩ := r4 i.toNatClampNeg (by rw [tnn]; omega)
  obtain ⟨b, m1, m2⟩ := at_row (r := 48 + i) (by omega) (by omega)
  have tn : (i.toNatClampNeg : Int) = i.toInt := by rw [tnn]; omega
  obtain ⟨x, st1, ms1, q1, cw1, I1, A1, c1, c2, c3, c4, c5⟩ := write_lock h0 hk ht hcw hz b4 b5 b6 (b := b) (by omega) (by omega)
  have h10 : ¬ ((1 : Int32) = 0) := by decide
  refine ⟨x, st1, ms1, q1, cw1, I1, A1, ?_, ?_, c4, c5⟩
  · simp only [c_PagedValues_show, fg_0_4 hF, fo_5 hF, Option.bind_some, c_has hF, h1, h2, if_false, h10, fg_5_0 hF, fr_12 hF hin, b2, fo_0 hF, c1]
  · simp only [m_show, Option.bind_some, ← r1, wi_1 h1 h2, h10, if_false, m1, c2, c3]
/-- who reads, and from which root -/
theorem reader_lock (h : Rv Zd K st ms q cw I A R Q) (r : Int32) : (c_Store_canRead Zd K (q 6) r st = some 0 ∧ m_isReader r ms = some 0) ∨ (c_Store_canRead Zd K (q 6) r st = some 1 ∧ m_isReader r ms = some 1 ∧ ∃ w, c_Store_rootFor Zd K (q 6) r st = some w ∧ m_rootOf r ms = some w ∧ pgr w) := by
  have L := nums
  obtain ⟨hF, hw, hT, hS, hP, hk, hd, hr, ho, hb, hz⟩ := h
  have hS0 := hS
  obtain ⟨⟨s1, s2, s3⟩, ⟨s4, s5, s6⟩, ⟨s7, s8, s9, s10⟩, s11, s12, s13⟩ := hS
  obtain ⟨hcur, hroot⟩ := cur_ok hS0
  have hcurM : rd (ms.2.2.1 15) 2 (curM (ms.2.2.1 16)) = some (A 3 (curM (A 2)).toNatClampNeg) := by
    rw [rd_in (curM_in _), ← s8, ← s7]
  by_cases hm : r = -1
  · right
    subst hm
    refine ⟨?_, ?_, _, ?_, ?_, hcur⟩
    · simp only [c_Store_canRead, if_true, Option.bind_some, bz]; rfl
    · simp only [m_isReader, if_true, Option.bind_some, bz]; rfl
    · simp only [c_Store_rootFor, fo_6 hF, Option.bind_some, c_isOpen hF, show (-1 : Int32) < 0 from by decide, if_true, c_cr hF]
    · simp only [m_rootOf, show ¬ ((0 : Int32) ≤ -1) from by decide, if_false, m_cm, Option.bind_some, hcurM]
  · by_cases h1 : r < 0
    · left
      refine ⟨?_, ?_⟩
      · simp only [c_Store_canRead, hm, if_false, fo_6 hF, Option.bind_some, c_isOpen hF, h1, if_true, bz]; rfl
      · simp only [m_isReader, hm, if_false, m_within_0 (Or.inl h1), Option.bind_some, if_true, bz]; rfl
    · by_cases h2 : 3 ≤ r
      · left
        refine ⟨?_, ?_⟩
        · simp only [c_Store_canRead, hm, if_false, fo_6 hF, Option.bind_some, c_isOpen hF, h1, h2, if_true, bz]; rfl
        · simp only [m_isReader, hm, if_false, m_within_0 (hi := 2) (a := r) (lo := 0) (Or.inr (i32lt.mpr (by have := i32le.mp h2; omega))), Option.bind_some, if_true, bz]; rfl
      · have r0 : ¬ r.toInt < (0 : Int32).toInt := fun e => h1 (i32lt.mpr e)
        have r3 : ¬ (3 : Int32).toInt ≤ r.toInt := fun e => h2 (i32le.mpr e)
        have hin : vp_in r 3 := vp_of (by omega) (by omega)
        have hwi : m_within r 0 2 = some 1 := m_within_1 h1 (fun e => by have := i32lt.mp e; omega)
        by_cases h3 : A 4 r.toNatClampNeg = 0
        · left
          refine ⟨?_, ?_⟩
          · simp only [c_Store_canRead, hm, if_false, fo_6 hF, Option.bind_some, c_isOpen hF, h1, h2, h3, if_true, bz]; rfl
          · simp only [m_isReader, hm, if_false, hwi, Option.bind_some, show ¬ ((1 : Int32) = 0) from by decide, rd_in hin, ← s9, h3, if_true, bz]; rfl
        · right
          refine ⟨?_, ?_, A 5 r.toNatClampNeg, ?_, ?_, s13 _ (by rw [tnn]; omega)⟩
          · simp only [c_Store_canRead, hm, if_false, fo_6 hF, Option.bind_some, c_isOpen hF, h1, h2, h3, show ¬ ((1 : Int32) = 0) from by decide, bz]; rfl
          · simp only [m_isReader, hm, if_false, hwi, Option.bind_some, show ¬ ((1 : Int32) = 0) from by decide, rd_in hin, ← s9, h3, bz]; rfl
          · simp only [c_Store_rootFor, fo_6 hF, Option.bind_some, c_isOpen hF, h1, h2, h3, if_false, show ¬ ((1 : Int32) = 0) from by decide, fg_6_4 hF, fr_20 hF hin]
          · simp only [m_rootOf, i32n (show 0 ≤ r.toInt by omega), if_true, rd_in hin, Option.bind_some, s10]
theorem sim_print (h : Rv Zd K st ms q cw I A R Q) (hk : kc Zd K) (ht : kt Zd K) (hcw : cw ≤ 2402) (hz : Wm Zd st cw) (r id : Int32) : ∃ x st1 ms1 q1 cw1 I1 A1, c_PagedValues_print Zd K (q 0) r id st = some (x, st1) ∧ m_print r id ms = some (x, ms1) ∧ Wn st q cw st1 q1 cw1 ∧ Rv Zd K st1 ms1 q1 cw1 I1 A1 R Q := by
  have L := nums
  have h0 := h
  have hWn : Wn st q cw st q cw := ⟨fun _ _ => rfl, Nat.le_refl _, hcw, Nat.le_refl _, Nat.le_refl _⟩
  have hrd := reader_lock h r
  obtain ⟨hF, hw, hT, hS, hP, hk9, hd, hr, ho, hb, hz9⟩ := h
  have s3 : I 11 = ms.1 13 := hS.1.2.2
  have h10 : ¬ ((1 : Int32) = 0) := by decide
  by_cases hdn : I 11 = 0
  · have hdm : ms.1 13 = 0 := s3.symm.trans hdn
    have g8 : gI K st (q 6) 9 8 = some 0 := by rw [fg_6_8 hF, hdn]
    rcases hrd with ⟨u1, u2⟩ | ⟨u1, u2, w, u3, u4, u5⟩
    · refine ⟨-1, st, ms, q, cw, I, A, ?_, ?_, hWn, h0⟩
      · simp only [c_PagedValues_print, fg_0_5 hF, g8, Option.bind_some, if_true, fo_6 hF, u1, nl]
      · simp only [m_print, hdm, if_true, u2, Option.bind_some, show ¬ ((0 : Int32) ≤ -1) from by decide, if_false]
    · rcases doc_row hP hd u5 id with ⟨e1, e2⟩ | ⟨a, n, e1, e2, e3, e4, LL, e5, e6, e7⟩
      · refine ⟨-1, st, ms, q, cw, I, A, ?_, ?_, hWn, h0⟩
        · simp only [c_PagedValues_print, fg_0_5 hF, g8, Option.bind_some, if_true, fo_6 hF, u1, h10, if_false, u3, c_doc hF hP u5, e1, nl]
        · simp only [m_print, hdm, if_true, u2, Option.bind_some, h10, if_false, u4, m_row hP u5, e2, show ¬ ((0 : Int32) ≤ -1) from by decide]
      · obtain ⟨b, m1, m2⟩ := at_row (r := rowS ms w id) (by omega) (by omega)
        obtain ⟨x, st1, ms1, q1, cw1, I1, A1, c1, c2, c3, c4, c5⟩ := write_lock h0 hk ht hcw hz e5 e6 e7 (b := b) (by omega) (by omega)
        have hge : (0 : Int32) ≤ rowS ms w id := i32n (by omega)
        refine ⟨x, st1, ms1, q1, cw1, I1, A1, ?_, ?_, c4, c5⟩
        · simp only [c_PagedValues_print, fg_0_5 hF, g8, Option.bind_some, if_true, fo_6 hF, u1, h10, if_false, u3, c_doc hF hP u5, e1, nl, fo_0 hF, c1]
        · simp only [m_print, hdm, if_true, u2, Option.bind_some, h10, if_false, u4, m_row hP u5, hge, m1, c2, c3]
  · have hdm : ¬ ms.1 13 = 0 := fun e => hdn (s3.trans e)
    refine ⟨-9, st, ms, q, cw, I, A, ?_, ?_, hWn, h0⟩
    · simp only [c_PagedValues_print, fg_0_5 hF, fg_6_8 hF, Option.bind_some, hdn, if_false]
    · simp only [m_print, hdm, if_false]
end SHOW
