/-! Queries: a number; class and model. -/
section QNUM
variable {Zd : Nat → Nat} {K : KE} {st : CS} {ms : MS} {q : Nat → Nat} {cw : Nat} {I : Nat → Int32} {A : Nat → Nat → Int32} {R : Nat → Option Nat} {Q : Nat → Nat → Option Nat}
theorem dg_val {v c : Int32} (v0 : 0 ≤ v.toInt) (v1 : v.toInt ≤ 1000) (hc : isDg c) : (v * 10 + (c - 48)).toInt = 10 * v.toInt + (c.toInt - 48) ∧ 10 * v + c - 48 = v * 10 + (c - 48) := by
  have N := n48
  obtain ⟨m1, m2⟩ := mul10 v0 (by omega)
  obtain ⟨c0, c1⟩ := hc
  have e1 : (c - 48).toInt = c.toInt - 48 := by rw [i32sub (by omega) (by omega)]; omega
  have e2 : (v * 10 + (c - 48)).toInt = 10 * v.toInt + (c.toInt - 48) := by rw [i32add (by omega) (by omega)]; omega
  refine ⟨e2, i32eq ?_⟩
  have e3 : (10 * v + c).toInt = 10 * v.toInt + c.toInt := by rw [i32add (by omega) (by omega)]; omega
  rw [e2, i32sub (by omega) (by omega)]
  omega
theorem dg3_l : ∀ (m f1 f2 : Nat) (v n : Int32) (P : Int) (sk : CS) (Ik : Nat → Int32) (mk : MS), n.toInt + m = 3 → 0 ≤ n.toInt → P * 10 ^ m = 1000 → 0 ≤ v.toInt → v.toInt < P → m < f1 → m + 2 < f2 → Cx K sk q cw Ik A R Q → Tq Ik A mk →
    ∃ v1 n1 s1 p, c_Text_digits_l1 Zd K (q 1) 3 f1 (v, n, sk) = some (v1, n1, s1) ∧ Cx K s1 q cw (upd Ik 1 p) A R Q ∧ stp K sk s1 ∧ 0 ≤ v1.toInt ∧ v1.toInt ≤ 999 ∧ (Ik 1).toInt ≤ p.toInt ∧ p.toInt ≤ (Ik 0).toInt ∧
      ((∃ n2, m_queryNumber_l1 0 f2 (v, n, mk) = some (v1, n2, (upd mk.1 1 p, mk.2.1, mk.2.2.1, mk.2.2.2))) ∨ (isDg (chr (A 0) (Ik 0) p) ∧ ∃ n2, m_queryNumber_l1 0 f2 (v, n, mk) = some (v1, n2, (upd (upd mk.1 1 p) 2 p, mk.2.1, mk.2.2.1, mk.2.2.2)))) := by
  have L := nums
  have N48 := n48
  have h10 : ¬ ((1 : Int32) = 0) := by decide
  intro m
  induction m with
  | zero =>
    intro f1 f2 v n P sk Ik mk hn n0 hP v0 v1 hf1 hf2 hC hT
    obtain ⟨f1, rfl⟩ : ∃ f, f1 = f + 1 := ⟨f1 - 1, by omega⟩
    obtain ⟨f2, rfl⟩ : ∃ f, f2 = f + 2 := ⟨f2 - 2, by omega⟩
    have hT0 := hT
    obtain ⟨t1, t2, t3, t4, t5, t6, t7, t8⟩ := hT
    have hn3 : n = 3 := i32eq (by omega)
    subst hn3
    have hP : P = 1000 := by rw [Int.pow_zero, Int.mul_one] at hP; exact hP
    have hid : upd Ik 1 (Ik 1) = Ik := upd_id rfl
    have hidm : upd mk.1 1 (Ik 1) = mk.1 := upd_id t3.symm
    refine ⟨v, 3, sk, Ik 1, ?_, by rw [hid]; exact hC, stp.rf K sk, v0, by omega, Int.le_refl _, t7, ?_⟩
    · rw [c_Text_digits_l1_s, if_pos (by show (3 : Int32) ≤ 3; decide)]
    · rw [hidm]
      by_cases hd : isDg (chr (A 0) (Ik 0) (Ik 1))
      · right
        refine ⟨hd, 3 + 1, ?_⟩
        have hb2 : (0 : Int32) ≤ upd mk.1 2 (Ik 1) 2 := i32n t6
        rw [m_queryNumber_l1_s]
        simp only [t5, neg1, if_false, mh hT0, Option.bind_some, m_dig1 hd, h10, if_true, m_fault1 hT0]
        rw [m_queryNumber_l1_s]
        simp only [hb2, if_true]
      · left
        refine ⟨3, ?_⟩
        rw [m_queryNumber_l1_s]
        simp only [t5, neg1, if_false, mh hT0, Option.bind_some, m_dig0 hd, if_true]
  | succ m ih =>
    intro f1 f2 v n P sk Ik mk hn n0 hP v0 v1 hf1 hf2 hC hT
    obtain ⟨f1, rfl⟩ : ∃ f, f1 = f + 1 := ⟨f1 - 1, by omega⟩
    obtain ⟨f2, rfl⟩ : ∃ f, f2 = f + 1 := ⟨f2 - 1, by omega⟩
    have hT0 := hT
    obtain ⟨t1, t2, t3, t4, t5, t6, t7, t8⟩ := hT
    have hle : ¬ (3 : Int32) ≤ n := fun e => by have := i32le.mp e; omega
    have hn3 : ¬ n = 3 := fun e => by rw [e] at hn; omega
    have hch := c_here (Zd := Zd) hC t6 t8
    by_cases hd : isDg (chr (A 0) (Ik 0) (Ik 1))
    · obtain ⟨d1, d2, d3⟩ := chr_lt (c := chr (A 0) (Ik 0) (Ik 1)) rfl (by have := hd.1; omega)
      have k1 : (Ik 1 + 1).toInt = (Ik 1).toInt + 1 := by rw [i32add (by omega) (by omega)]; omega
      have kn : (n + 1).toInt = n.toInt + 1 := by rw [i32add (by omega) (by omega)]; omega
      have hPp : P ≤ 1000 := by
        have h9 : (1 : Int) ≤ 10 ^ (m + 1) := Int.pow_pos (show (0 : Int) < 10 by decide)
        rcases Int.lt_or_le 1000 P with hgt | hle9
        · have := Int.mul_le_mul_of_nonneg_left h9 (show 0 ≤ P by omega)
          rw [hP, Int.mul_one] at this
          omega
        · exact hle9
      obtain ⟨w1, w2⟩ := dg_val v0 (by omega) hd
      obtain ⟨s2, g1, g2, g3⟩ := tw3 hC (Ik 1 + 1)
      have hT1 := hT0.up (p := Ik 1 + 1) (J := mk.2.1) (B := mk.2.2.2) (by omega) (by omega)
      obtain ⟨d0, d9⟩ := hd
      obtain ⟨v2, n2, s3, p, i1, i2, i3, i4, i5, i6, i7, i8⟩ := ih f1 f2 (v * 10 + (chr (A 0) (Ik 0) (Ik 1) - 48)) (n + 1) (10 * P) s2 (upd Ik 1 (Ik 1 + 1)) (upd mk.1 1 (Ik 1 + 1), mk.2.1, mk.2.2.1, mk.2.2.2) (by omega) (by omega) (by rw [← hP, Int.pow_succ, Int.mul_comm 10 P, Int.mul_assoc, Int.mul_comm 10]) (by omega) (by omega) (by omega) (by omega) g2 hT1
      have i6 : (Ik 1 + 1).toInt ≤ p.toInt := i6
      rw [upd_upd] at i2
      refine ⟨v2, n2, s3, p, ?_, i2, g3.tr i3, i4, i5, by omega, i7, ?_⟩
      · rw [c_Text_digits_l1_s, if_neg hle]
        simp only [fo_1 hC.1, Option.bind_some, hch, c_dig1 ⟨d0, d9⟩, h10, if_false, fg_1_3 hC.1, g1]
        exact i1
      · have hst : m_queryNumber_l1 0 (f2 + 1) (v, n, mk) = m_queryNumber_l1 0 f2 (v * 10 + (chr (A 0) (Ik 0) (Ik 1) - 48), n + 1, (upd mk.1 1 (Ik 1 + 1), mk.2.1, mk.2.2.1, mk.2.2.2)) := by
          rw [m_queryNumber_l1_s]
          simp only [t5, neg1, if_false, mh hT0, Option.bind_some, m_dig1 ⟨d0, d9⟩, h10, hn3, if_true, w2, ← t3]
        rw [hst]
        rcases i8 with ⟨n3, i8⟩ | ⟨i9, n3, i8⟩
        · left
          refine ⟨n3, ?_⟩
          rw [i8]
          dsimp only
          rw [upd_upd]
        · right
          refine ⟨i9, n3, ?_⟩
          rw [i8]
          dsimp only
          rw [upd_upd]
    · have hid : upd Ik 1 (Ik 1) = Ik := upd_id rfl
      have hidm : upd mk.1 1 (Ik 1) = mk.1 := upd_id t3.symm
      have hP9 : P ≤ 1000 := by
        have h9 : (1 : Int) ≤ 10 ^ (m + 1) := Int.pow_pos (show (0 : Int) < 10 by decide)
        rcases Int.lt_or_le 1000 P with hgt | hle9
        · have := Int.mul_le_mul_of_nonneg_left h9 (show 0 ≤ P by omega)
          rw [hP, Int.mul_one] at this
          omega
        · exact hle9
      refine ⟨v, n, sk, Ik 1, ?_, by rw [hid]; exact hC, stp.rf K sk, v0, by omega, Int.le_refl _, t7, Or.inl ⟨n, ?_⟩⟩
      · rw [c_Text_digits_l1_s, if_neg hle]
        simp only [fo_1 hC.1, Option.bind_some, hch, c_dig0 hd, if_true]
      · rw [hidm, m_queryNumber_l1_s]
        simp only [t5, neg1, if_false, mh hT0, Option.bind_some, m_dig0 hd, if_true]
theorem qn_bad {ms : MS} (h : 0 ≤ (ms.1 2).toInt) (x13 v n : Int32) (f : Nat) : m_queryNumber_l1 x13 (f + 1) (v, n, ms) = some (v, n, ms) := by
  rw [m_queryNumber_l1_s]
  simp only [i32n h, if_true]
theorem qn_over {I : Nat → Int32} {A : Nat → Nat → Int32} {ms : MS} (hT : Tq I A ms) (hd : isDg (chr (A 0) (I 0) (I 1))) (v n : Int32) (hn : n = 1) (f : Nat) : m_queryNumber_l1 1 (f + 2) (v, n, ms) = some (v, n + 1, (upd ms.1 2 (I 1), ms.2.1, ms.2.2.1, ms.2.2.2)) := by
  have h10 : ¬ ((1 : Int32) = 0) := by decide
  have h3 : ¬ n = 3 := by rw [hn]; decide
  have hb : 0 ≤ (((upd ms.1 2 (I 1), ms.2.1, ms.2.2.1, ms.2.2.2) : MS).1 2).toInt := hT.2.2.2.2.2.1
  have t5 : ms.1 2 = -1 := hT.2.2.2.2.1
  rw [m_queryNumber_l1_s]
  simp only [t5, neg1, if_false, mh hT, Option.bind_some, m_dig1 hd, h10, h3, m_fault1 hT]
  rw [if_pos hn, Option.bind_some]
  exact qn_bad hb 1 v (n + 1) f
theorem qn_zero {I : Nat → Int32} {A : Nat → Nat → Int32} {ms : MS} (hT : Tq I A ms) (hz : chr (A 0) (I 0) (I 1) = 48) (f : Nat) : m_queryNumber_l1 1 (f + 1) (0, 0, ms) = m_queryNumber_l1 1 f (0, 0 + 1, (upd ms.1 1 (I 1 + 1), ms.2.1, ms.2.2.1, ms.2.2.2)) := by
  have h10 : ¬ ((1 : Int32) = 0) := by decide
  have hmh := mh hT
  rw [hz] at hmh
  have hd48 : isDg 48 := by unfold isDg; decide
  have y1 : (10 * 0 + (48 : Int32) - 48) = 0 := by decide
  obtain ⟨t1, t2, t3, t4, t5, t6, t7, t8⟩ := hT
  rw [m_queryNumber_l1_s]
  simp only [t5, neg1, if_false, hmh, Option.bind_some, m_dig1 hd48, h10, show ¬ ((0 : Int32) = 3) from by decide, show ¬ ((0 : Int32) = 1) from by decide, y1, ← t3]
theorem qn_end {I : Nat → Int32} {A : Nat → Nat → Int32} {ms : MS} (hT : Tq I A ms) (hd : ¬ isDg (chr (A 0) (I 0) (I 1))) (x13 v n : Int32) (f : Nat) : m_queryNumber_l1 x13 (f + 1) (v, n, ms) = some (v, n, ms) := by
  have t5 : ms.1 2 = -1 := hT.2.2.2.2.1
  rw [m_queryNumber_l1_s]
  simp only [t5, neg1, if_false, mh hT, Option.bind_some, m_dig0 hd, if_true]
/-- the digits behind the sign -/
theorem dg3_lock (h : Cx K st q cw I A R Q) (hT : Tq I A ms) (hd : isDg (chr (A 0) (I 0) (I 1))) : ∃ v s1 I1 ms1, c_Text_digits Zd K (q 1) 3 st = some (v, s1) ∧ Cx K s1 q cw I1 A R Q ∧ stp K st s1 ∧ kI I I1 ∧ I1 15 = I 15 ∧ kM ms ms1 ∧ (0 ≤ v.toInt ∧ v.toInt ≤ 999) ∧ (∃ n2, ((m_sees (48 : Int32) ms).bind fun x13 => (m_queryNumber_l1 x13 4096 ((0 : Int32), (0 : Int32), ms))) = some (v, n2, ms1)) ∧ (Tq I1 A ms1 ∨ Pn I1 A ms1) := by
  have L := nums
  have N48 := n48
  have h10 : ¬ ((1 : Int32) = 0) := by decide
  have hT0 := hT
  obtain ⟨t1, t2, t3, t4, t5, t6, t7, t8⟩ := hT
  have hch := c_here (Zd := Zd) h t6 t8
  by_cases hz : chr (A 0) (I 0) (I 1) = 48
  · obtain ⟨s1, f1, f2, f3⟩ := c_take1 (Zd := Zd) h t6 t8 (c := 48) (by decide) hz
    obtain ⟨d1, d2, d3⟩ := chr_lt hz (by decide)
    have k1 : (I 1 + 1).toInt = (I 1).toInt + 1 := by rw [i32add (by omega) (by omega)]; omega
    have hT1 := hT0.up (p := I 1 + 1) (J := ms.2.1) (B := ms.2.2.2) (by omega) (by omega)
    have hms := m_sees_q hT0 48
    rw [if_pos hz] at hms
    have hcd : c_Text_digits Zd K (q 1) 3 st = some (0, s1) := by
      simp only [c_Text_digits, fo_1 h.1, Option.bind_some, hch, c_dig1 hd, h10, if_false, f1]
    have hst := qn_zero hT0 hz 4095
    by_cases hd2 : isDg (chr (A 0) (I 0) (I 1 + 1))
    · have hov := qn_over hT1 hd2 0 (0 + 1) (by decide) 4093
      have hp1 : upd I 1 (I 1 + 1) 1 = I 1 + 1 := upd_self
      rw [hp1] at hov
      refine ⟨0, s1, _, (upd (upd ms.1 1 (I 1 + 1)) 2 (I 1 + 1), ms.2.1, ms.2.2.1, ms.2.2.2), hcd, f2, f3, kI.p _ _, rfl, (kM.p _ _ _).tr (kM.f _ _ _), by decide, ⟨0 + 1 + 1, ?_⟩, Or.inr ⟨t4, ⟨by show 0 ≤ (I 1 + 1).toInt; omega, by show (I 1 + 1).toInt ≤ 80; omega, t8⟩, Or.inr hd2, rfl⟩⟩
      rw [hms, Option.bind_some]
      exact hst.trans hov
    · refine ⟨0, s1, _, (upd ms.1 1 (I 1 + 1), ms.2.1, ms.2.2.1, ms.2.2.2), hcd, f2, f3, kI.p _ _, rfl, kM.p _ _ _, by decide, ⟨0 + 1, ?_⟩, Or.inl hT1⟩
      rw [hms, Option.bind_some]
      exact hst.trans (qn_end hT1 hd2 1 0 (0 + 1) 4094)
  · have hms := m_sees_q hT0 48
    rw [if_neg hz] at hms
    obtain ⟨v1, n1, s1, p, i1, i2, i3, i4, i5, i6, i7, i8⟩ := dg3_l (Zd := Zd) (A := A) 3 4096 4096 0 0 1 st I ms (by decide) (by decide) (by decide) (by decide) (by decide) (by decide) (by decide) h hT0
    have hcd : c_Text_digits Zd K (q 1) 3 st = some (v1, s1) := by
      simp only [c_Text_digits, fo_1 h.1, Option.bind_some, hch, c_dig1 hd, h10, if_false, c_take0 (Zd := Zd) h t6 t8 hz, if_true, i1]
    rcases i8 with ⟨n2, i8⟩ | ⟨i9, n2, i8⟩
    · exact ⟨v1, s1, _, (upd ms.1 1 p, ms.2.1, ms.2.2.1, ms.2.2.2), hcd, i2, i3, kI.p _ _, rfl, kM.p _ _ _, ⟨i4, i5⟩, ⟨n2, by rw [hms, Option.bind_some, i8]⟩, Or.inl (hT0.up (by omega) i7)⟩
    · exact ⟨v1, s1, _, (upd (upd ms.1 1 p) 2 p, ms.2.1, ms.2.2.1, ms.2.2.2), hcd, i2, i3, kI.p _ _, rfl, (kM.p _ _ _).tr (kM.f _ _ _), ⟨i4, i5⟩, ⟨n2, by rw [hms, Option.bind_some, i8]⟩, Or.inr ⟨t4, ⟨by show 0 ≤ p.toInt; omega, by show p.toInt ≤ 80; omega, t8⟩, Or.inr i9, rfl⟩⟩
theorem qnum_lock (h : Cx K st q cw I A R Q) (hT : Tq I A ms) : ∃ v v2 s1 I1 ms1, c_Query_number Zd K (some (q 1)) st = some (v, s1) ∧ m_queryNumber ms = some (v2, ms1) ∧ Cx K s1 q cw I1 A R Q ∧ stp K st s1 ∧ kI I I1 ∧ I1 15 = I 15 ∧ kM ms ms1 ∧ ((Tq I1 A ms1 ∧ v2 = v ∧ -999 ≤ v.toInt ∧ v.toInt ≤ 999) ∨ Pn I1 A ms1 ∨ Fq I1 ms1) := by
  have L := nums
  have N48 := n48
  have h10 : ¬ ((1 : Int32) = 0) := by decide
  have hT0 := hT
  obtain ⟨t1, t2, t3, t4, t5, t6, t7, t8⟩ := hT
  -- the sign
  obtain ⟨sg, s1, p, b1, b2, b3, b4, b5, b6⟩ : ∃ (sg : Int32) (s1 : CS) (p : Int32), c_Text_take Zd K (q 1) 45 st = some (sg, s1) ∧ m_takes 45 ms = some (sg, (upd ms.1 1 p, ms.2.1, ms.2.2.1, ms.2.2.2)) ∧ Cx K s1 q cw (upd I 1 p) A R Q ∧ stp K st s1 ∧ Tq (upd I 1 p) A (upd ms.1 1 p, ms.2.1, ms.2.2.1, ms.2.2.2) ∧ (sg = 0 ∨ sg = 1) := by
    by_cases hq : chr (A 0) (I 0) (I 1) = 45
    · obtain ⟨s1, f1, f2, f3⟩ := c_take1 (Zd := Zd) h t6 t8 (c := 45) (by decide) hq
      obtain ⟨d1, d2, d3⟩ := chr_lt hq (by decide)
      have k1 : (I 1 + 1).toInt = (I 1).toInt + 1 := by rw [i32add (by omega) (by omega)]; omega
      exact ⟨1, s1, I 1 + 1, f1, m_takes1 hT0 hq, f2, f3, hT0.up (by omega) (by omega), Or.inr rfl⟩
    · refine ⟨0, st, I 1, c_take0 h t6 t8 hq, m_takes0 hT0 hq, ?_, stp.rf K st, hT0.up t6 t7, Or.inl rfl⟩
      rw [upd_id rfl]; exact h
  have b50 := b5
  obtain ⟨u1, u2, u3, u4, u5, u6, u7, u8⟩ := b5
  have hch := c_here (Zd := Zd) b3 u6 u8
  have hmh := mh b50
  by_cases hd : isDg (chr (A 0) (upd I 1 p 0) (upd I 1 p 1))
  · by_cases hmz : sg = 1 ∧ chr (A 0) (upd I 1 p 0) (upd I 1 p 1) = 48
    · -- a zero behind the sign
      obtain ⟨rfl, hz⟩ := hmz
      obtain ⟨s2, f1, f2, f3⟩ := c_fail1 (Zd := Zd) b3 u4
      have hmf := m_fault1 b50
      obtain ⟨s3, g1, g2, g3⟩ := c_take1 (Zd := Zd) (I := upd (upd I 1 p) 2 (upd I 1 p 1)) f2 u6 u8 (c := 48) (by decide) hz
      have hch2 := c_here (Zd := Zd) (I := upd (upd I 1 p) 2 (upd I 1 p 1)) f2 u6 u8
      obtain ⟨d1, d2, d3⟩ := chr_lt hz (by decide)
      have hp1 : upd I 1 p 1 = p := upd_self
      rw [hp1] at u6 d3 hmf
      have d3 : p.toInt < (I 0).toInt := d3
      have u8 : (I 0).toInt ≤ 80 := u8
      have k1 : (p + 1).toInt = p.toInt + 1 := by rw [i32add (by omega) (by omega)]; omega
      have hb : 0 ≤ (((upd (upd ms.1 1 p) 2 p, ms.2.1, ms.2.2.1, ms.2.2.2) : MS).1 2).toInt := u6
      have hmf : m_fault (upd ms.1 1 p, ms.2.1, ms.2.2.1, ms.2.2.2) = some (upd (upd ms.1 1 p) 2 p, ms.2.1, ms.2.2.1, ms.2.2.2) := hmf
      have hcd : c_Text_digits Zd K (q 1) 3 s2 = some (0, s3) := by
        have hd2 : c_Text_isDigit Zd K (chr (A 0) (upd (upd I 1 p) 2 (upd I 1 p 1) 0) (upd (upd I 1 p) 2 (upd I 1 p 1) 1)) s2 = some 1 := c_dig1 hd
        simp only [c_Text_digits, fo_1 f2.1, Option.bind_some, hch2, hd2, h10, if_false, g1]
      refine ⟨-0, -0, s3, _, (upd (upd ms.1 1 p) 2 p, ms.2.1, ms.2.2.1, ms.2.2.2), ?_, ?_, g2, b4.tr (f3.tr g3), (kI.p _ _).tr ((kI.f _ _).tr (kI.p _ _)), rfl, (kM.p _ _ _).tr (kM.f _ _ _), Or.inr (Or.inr ⟨?_, ?_, ?_, ?_⟩)⟩
      · rw [hz] at hch
        simp only [c_Query_number, Option.bind_some, fo_1 h.1, b1, h10, if_false, fo_1 b3.1, hch, if_true, f1, fo_1 f2.1, hcd]
      · rw [hz] at hmh
        have hd48 : isDg 48 := by rw [← hz]; exact hd
        have hl : m_queryNumber_l1 0 4096 (0, 0, (upd (upd ms.1 1 p) 2 p, ms.2.1, ms.2.2.1, ms.2.2.2)) = some (0, 0, (upd (upd ms.1 1 p) 2 p, ms.2.1, ms.2.2.1, ms.2.2.2)) := by
          rw [show (4096 : Nat) = 4095 + 1 from rfl, m_queryNumber_l1_s]
          simp only [i32n hb, if_true]
        simp only [m_queryNumber, b2, Option.bind_some, hmh, m_dig1 hd48, h10, if_false, if_true, hmf, m_seesB hb, hl]
      · show 0 ≤ (upd I 1 p 1).toInt; rw [hp1]; exact u6
      · show (upd I 1 p 1).toInt ≤ 80; rw [hp1]; omega
      · show p = upd I 1 p 1; rw [hp1]
      · show 0 ≤ (upd I 1 p 1 + 1).toInt; rw [hp1]; omega
    · obtain ⟨v, s2, I2, ms2, g1, g2, g3, g4, g5, g6, g7, ⟨n2, g8⟩, g9⟩ := dg3_lock (Zd := Zd) b3 b50 hd
      obtain ⟨x13, hx13, hl⟩ := ob g8
      have hcs : ((if sg = (0 : Int32) then (some s1) else ((isO K s1 (q 1) 1).bind fun _ => (c_Text_ahead Zd K (q 1) s1).bind fun x25 => if x25 = (48 : Int32) then ((isO K s1 (q 1) 1).bind fun _ => (c_Text_fail Zd K (q 1) s1).bind fun st30 => some st30) else (some s1)))) = some s1 := by
        rcases b6 with rfl | rfl
        · rw [if_pos rfl]
        · rw [if_neg h10, fo_1 b3.1, Option.bind_some, hch, Option.bind_some, if_neg (fun e => hmz ⟨rfl, e⟩)]
      have hms : (if sg = (0 : Int32) then (some (upd ms.1 1 p, ms.2.1, ms.2.2.1, ms.2.2.2)) else ((m_here (upd ms.1 1 p, ms.2.1, ms.2.2.1, ms.2.2.2)).bind fun x66 => if x66 = (48 : Int32) then ((m_fault (upd ms.1 1 p, ms.2.1, ms.2.2.1, ms.2.2.2)).bind fun st71 => some st71) else (some (upd ms.1 1 p, ms.2.1, ms.2.2.1, ms.2.2.2)))) = some (upd ms.1 1 p, ms.2.1, ms.2.2.1, ms.2.2.2) := by
        rcases b6 with rfl | rfl
        · rw [if_pos rfl]
        · rw [if_neg h10, hmh, Option.bind_some, if_neg (fun e => hmz ⟨rfl, e⟩)]
      have hng := neg_i g7.1
      refine ⟨if sg = 0 then v else -v, if sg = 0 then v else -v, s2, I2, ms2, ?_, ?_, g2, b4.tr g3, (kI.p _ _).tr g4, g5, (kM.p _ _ _).tr g6, ?_⟩
      · simp only [fo_1 b3.1, Option.bind_some] at hcs
        simp only [c_Query_number, Option.bind_some, fo_1 h.1, b1, fo_1 b3.1, hcs, g1]
        rcases b6 with rfl | rfl <;> rfl
      · simp only [hmh, Option.bind_some] at hms
        simp only [m_queryNumber, b2, Option.bind_some, hmh, m_dig1 hd, h10, if_false, hms, hx13, hl]
        rcases b6 with rfl | rfl <;> rfl
      · rcases g9 with g9 | g9
        · left
          refine ⟨g9, rfl, ?_⟩
          rcases b6 with rfl | rfl
          · rw [if_pos rfl]; omega
          · rw [if_neg h10]; omega
        · exact Or.inr (Or.inl g9)
  · -- no digit
    have hmf : m_fault (upd ms.1 1 p, ms.2.1, ms.2.2.1, ms.2.2.2) = some (upd (upd ms.1 1 p) 2 p, ms.2.1, ms.2.2.1, ms.2.2.2) := by
      have := m_fault1 b50
      rw [show upd I 1 p 1 = p from upd_self] at this
      exact this
    have h48 : ¬ chr (A 0) (upd I 1 p 0) (upd I 1 p 1) = 48 := fun e => hd (by rw [e]; unfold isDg; decide)
    obtain ⟨s2, f1, f2, f3⟩ := c_fail1 (Zd := Zd) b3 u4
    have hp1 : upd I 1 p 1 = p := upd_self
    rw [hp1] at u6 u7
    have u7 : p.toInt ≤ (I 0).toInt := u7
    have u8 : (I 0).toInt ≤ 80 := u8
    have hb : 0 ≤ (((upd (upd ms.1 1 p) 2 p, ms.2.1, ms.2.2.1, ms.2.2.2) : MS).1 2).toInt := u6
    have hcs : ((if sg = (0 : Int32) then (some s1) else ((isO K s1 (q 1) 1).bind fun _ => (c_Text_ahead Zd K (q 1) s1).bind fun x25 => if x25 = (48 : Int32) then ((isO K s1 (q 1) 1).bind fun _ => (c_Text_fail Zd K (q 1) s1).bind fun st30 => some st30) else (some s1)))) = some s1 := by
      rcases b6 with rfl | rfl
      · rw [if_pos rfl]
      · rw [if_neg h10, fo_1 b3.1, Option.bind_some, hch, Option.bind_some, if_neg h48]
    have hcd : c_Text_digits Zd K (q 1) 3 s1 = some (0, s2) := by
      simp only [c_Text_digits, fo_1 b3.1, Option.bind_some, hch, c_dig0 hd, if_true, f1]
    have hl : m_queryNumber_l1 0 4096 (0, 0, (upd (upd ms.1 1 p) 2 p, ms.2.1, ms.2.2.1, ms.2.2.2)) = some (0, 0, (upd (upd ms.1 1 p) 2 p, ms.2.1, ms.2.2.1, ms.2.2.2)) := by
      rw [show (4096 : Nat) = 4095 + 1 from rfl, m_queryNumber_l1_s]
      simp only [i32n hb, if_true]
    refine ⟨if sg = 0 then 0 else -0, if sg = 0 then 0 else -0, s2, _, (upd (upd ms.1 1 p) 2 p, ms.2.1, ms.2.2.1, ms.2.2.2), ?_, ?_, f2, b4.tr f3, (kI.p _ _).tr (kI.f _ _), rfl, (kM.p _ _ _).tr (kM.f _ _ _), Or.inr (Or.inr ⟨?_, ?_, ?_, ?_⟩)⟩
    · simp only [fo_1 b3.1, Option.bind_some] at hcs
      simp only [c_Query_number, Option.bind_some, fo_1 h.1, b1, fo_1 b3.1, hcs, hcd]
      rcases b6 with rfl | rfl <;> rfl
    · simp only [m_queryNumber, b2, Option.bind_some, hmh, m_dig0 hd, if_true, hmf, m_seesB hb, hl]
      rcases b6 with rfl | rfl <;> rfl
    · show 0 ≤ (upd I 1 p 1).toInt; rw [hp1]; exact u6
    · show (upd I 1 p 1).toInt ≤ 80; rw [hp1]; omega
    · show p = upd I 1 p 1; rw [hp1]
    · show 0 ≤ (upd I 1 p 1).toInt; rw [hp1]; exact u6
end QNUM
