/-! Numbers: class and model. -/
theorem neg_i {v : Int32} (h0 : 0 ≤ v.toInt) : (-v).toInt = -v.toInt := by
  have h1 := v.toInt_lt
  rw [Int32.toInt_neg]
  apply Int.bmod_eq_of_le
  · omega
  · omega
section NUMBER
variable {Zd : Nat → Nat} {K : KE} {st : CS} {ms : MS} {q : Nat → Nat} {cw : Nat} {I : Nat → Int32} {A : Nat → Nat → Int32} {R : Nat → Option Nat} {Q : Nat → Nat → Option Nat}
/-- the digits, behind the sign -/
theorem digs_lock (h : Cx K st q cw I A R Q) (hT : Tq I A ms) :
    ∃ v1 s1 I1 ms1 v2, c_Text_digits Zd K (q 1) 6 st = some (v1, s1) ∧ Cx K s1 q cw I1 A R Q ∧ stp K st s1 ∧ kI I I1 ∧ I1 15 = I 15 ∧ kM ms ms1 ∧
      ((m_here ms).bind fun x4 => (m_isDigit x4).bind fun x7 => (if x7 = (0 : Int32) then ((m_fault ms).bind fun st58 => some st58) else (some ms)).bind fun e11 => (m_sees (48 : Int32) e11).bind fun x13 => (m_number_l1 x13 4096 ((0 : Int32), (0 : Int32), e11)).bind fun e16 => some (e16.1, e16.2.2)) = some (v2, ms1) ∧
      (((0 ≤ v1.toInt ∧ v1.toInt ≤ 999999) ∧ ((v2 = v1 ∧ Tq I1 A ms1) ∨ (I1 2 = -1 ∧ (0 ≤ (I1 1).toInt ∧ (I1 1).toInt ≤ 80 ∧ (I1 0).toInt ≤ 80) ∧ isDg (chr (A 0) (I1 0) (I1 1)) ∧ ms1.1 2 = I1 1))) ∨ Fq I1 ms1) := by
  have L := nums
  have N := n48
  have hT0 := hT
  obtain ⟨t1, t2, t3, t4, t5, t6, t7, t8⟩ := hT
  have hch := c_here (Zd := Zd) h t6 t8
  have h10 : ¬ ((1 : Int32) = 0) := by decide
  by_cases hd : isDg (chr (A 0) (I 0) (I 1))
  · by_cases hz : chr (A 0) (I 0) (I 1) = 48
    · obtain ⟨s1, f1, f2, f3⟩ := c_take1 (Zd := Zd) h t6 t8 (c := 48) (by decide) hz
      obtain ⟨d1, d2, d3⟩ := chr_lt hz (by decide)
      have k1 : (I 1 + 1).toInt = (I 1).toInt + 1 := by rw [i32add (by omega) (by omega)]; omega
      have hT1 := hT0.up (p := I 1 + 1) (J := ms.2.1) (B := ms.2.2.2) (by omega) (by omega)
      have hms := m_sees_q hT0 48
      rw [if_pos hz] at hms
      have hcd : c_Text_digits Zd K (q 1) 6 st = some (0, s1) := by
        simp only [c_Text_digits, fo_1 h.1, Option.bind_some, hch, c_dig1 hd, h10, if_false, f1]
      have y1 : (10 * 0 + (48 : Int32) - 48) = 0 := by decide
      have hmh := mh hT0
      rw [hz] at hmh
      have hd48 : isDg 48 := by rw [← hz]; exact hd
      have hst : m_number_l1 1 4096 (0, 0, ms) = m_number_l1 1 4095 (0, 0 + 1, (upd ms.1 1 (I 1 + 1), ms.2.1, ms.2.2.1, ms.2.2.2)) := by
        rw [show (4096 : Nat) = 4095 + 1 from rfl, m_number_l1_s]
        simp only [t5, neg1, if_false, hmh, Option.bind_some, m_dig1 hd48, h10, y1, show ¬ ((999999 : Int32) < 0) from by decide, show (0 : Int32) ≤ 0 from by decide, if_true, ← t3]
      have hmh1 := mh hT1
      have hmh1 : m_here (upd ms.1 1 (I 1 + 1), ms.2.1, ms.2.2.1, ms.2.2.2) = some (chr (A 0) (I 0) (I 1 + 1)) := hmh1
      have t51 : upd ms.1 1 (I 1 + 1) 2 = -1 := t5
      by_cases hd2 : isDg (chr (A 0) (I 0) (I 1 + 1))
      · have hmf := m_fault1 hT1
        have hmf : m_fault (upd ms.1 1 (I 1 + 1), ms.2.1, ms.2.2.1, ms.2.2.2) = some (upd (upd ms.1 1 (I 1 + 1)) 2 (I 1 + 1), ms.2.1, ms.2.2.1, ms.2.2.2) := hmf
        have hlt : ¬ (999999 : Int32) < 10 * 0 + chr (A 0) (I 0) (I 1 + 1) - 48 := fun e => by
          have := i32lt.mp e
          have e1 : 10 * 0 + chr (A 0) (I 0) (I 1 + 1) = chr (A 0) (I 0) (I 1 + 1) := by
            rw [show (10 * 0 : Int32) = 0 from by decide, Int32.zero_add]
          rw [e1, i32sub (by have := hd2.1; have := hd2.2; omega) (by have := hd2.1; have := hd2.2; omega)] at this
          have := hd2.2
          omega
        refine ⟨0, s1, _, (upd (upd ms.1 1 (I 1 + 1)) 2 (I 1 + 1), ms.2.1, ms.2.2.1, ms.2.2.2), 10 * 0 + chr (A 0) (I 0) (I 1 + 1) - 48, hcd, f2, f3, kI.p _ _, rfl, (kM.p _ _ _).tr (kM.f _ _ _), ?_, Or.inl ⟨by decide, Or.inr ⟨t4, ⟨by show 0 ≤ (I 1 + 1).toInt; omega, by show (I 1 + 1).toInt ≤ 80; omega, t8⟩, hd2, rfl⟩⟩⟩
        simp only [hmh, Option.bind_some, m_dig1 hd48, h10, if_false, hms, hst]
        rw [show (4095 : Nat) = 4094 + 1 from rfl, m_number_l1_s]
        simp only [t51, neg1, if_false, hmh1, Option.bind_some, m_dig1 hd2, h10, hlt, show ¬ ((0 + 1 : Int32) ≤ 0) from by decide, hmf]
        rw [show (4094 : Nat) = 4093 + 1 from rfl, m_number_l1_s]
        have hb2 : (0 : Int32) ≤ upd (upd ms.1 1 (I 1 + 1)) 2 (I 1 + 1) 2 := i32n (show 0 ≤ (I 1 + 1).toInt by omega)
        simp only [hb2, if_true, Option.bind_some]
      · refine ⟨0, s1, _, (upd ms.1 1 (I 1 + 1), ms.2.1, ms.2.2.1, ms.2.2.2), 0, hcd, f2, f3, kI.p _ _, rfl, kM.p _ _ _, ?_, Or.inl ⟨by decide, Or.inl ⟨rfl, hT1⟩⟩⟩
        simp only [hmh, Option.bind_some, m_dig1 hd48, h10, if_false, hms, hst]
        rw [show (4095 : Nat) = 4094 + 1 from rfl, m_number_l1_s]
        simp only [t51, neg1, if_false, hmh1, Option.bind_some, m_dig0 hd2, if_true]
    · have hms := m_sees_q hT0 48
      rw [if_neg hz] at hms
      obtain ⟨v1, n1, s1, p, i1, i2, i3, i4, i5, i6, i7, i8⟩ := dig_l (Zd := Zd) (A := A) 6 4096 4096 0 0 1 st I ms (by decide) (by decide) (by decide) (by decide) (by decide) (Or.inr ⟨rfl, rfl, hz⟩) (by decide) (by decide) h hT0
      have hcd : c_Text_digits Zd K (q 1) 6 st = some (v1, s1) := by
        simp only [c_Text_digits, fo_1 h.1, Option.bind_some, hch, c_dig1 hd, h10, if_false, c_take0 (Zd := Zd) h t6 t8 hz, if_true, i1]
      rcases i8 with ⟨n2, i8⟩ | ⟨v2, n2, i8, i9⟩
      · refine ⟨v1, s1, _, (upd ms.1 1 p, ms.2.1, ms.2.2.1, ms.2.2.2), v1, hcd, i2, i3, kI.p _ _, rfl, kM.p _ _ _, ?_, Or.inl ⟨⟨i4, i5⟩, Or.inl ⟨rfl, hT0.up (by omega) i7⟩⟩⟩
        simp only [mh hT0, Option.bind_some, m_dig1 hd, h10, if_false, hms, i8]
      · refine ⟨v1, s1, _, (upd (upd ms.1 1 p) 2 p, ms.2.1, ms.2.2.1, ms.2.2.2), v2, hcd, i2, i3, kI.p _ _, rfl, (kM.p _ _ _).tr (kM.f _ _ _), ?_, Or.inl ⟨⟨i4, i5⟩, Or.inr ⟨t4, ⟨by show 0 ≤ p.toInt; omega, by show p.toInt ≤ 80; omega, t8⟩, i8, rfl⟩⟩⟩
        simp only [mh hT0, Option.bind_some, m_dig1 hd, h10, if_false, hms, i9]
  · obtain ⟨s1, f1, f2, f3⟩ := c_fail1 (Zd := Zd) h t4
    have hb2 : (0 : Int32) ≤ upd ms.1 2 (I 1) 2 := i32n t6
    refine ⟨0, s1, _, (upd ms.1 2 (I 1), ms.2.1, ms.2.2.1, ms.2.2.2), 0, ?_, f2, f3, kI.f _ _, rfl, kM.f _ _ _, ?_, Or.inr ⟨t6, by show (I 1).toInt ≤ 80; omega, rfl, t6⟩⟩
    · simp only [c_Text_digits, fo_1 h.1, Option.bind_some, hch, c_dig0 hd, if_true, f1]
    · simp only [mh hT0, Option.bind_some, m_dig0 hd, if_true, m_fault1 hT0, m_sees, hb2, bz]
      simp only [true_or, if_true, Option.bind_some]
      rw [show (4096 : Nat) = 4095 + 1 from rfl, m_number_l1_s]
      simp only [hb2, if_true, Option.bind_some]
theorem num_lock (hk : kc Zd K) (h : Cx K st q cw I A R Q) (hT : Tq I A ms) (hW : Wq I A) (z6 : st.1.1 + 3 ≤ Zd 6) (z7 : st.1.2 + 20 ≤ Zd 7) :
    plOut Zd K st q cw I A R Q ms (c_ValueParser_number Zd K (q 2) (some (q 1)) st) ((m_number ms).bind fun m1 => some ((3 : Int32), m1)) := by
  have L := nums
  have hT0 := hT
  obtain ⟨t1, t2, t3, t4, t5, t6, t7, t8⟩ := hT
  have h10 : ¬ ((1 : Int32) = 0) := by decide
  have hb : ∃ sg s1 p, c_Text_take Zd K (q 1) 45 st = some (sg, s1) ∧ m_takes 45 ms = some (sg, (upd ms.1 1 p, ms.2.1, ms.2.2.1, ms.2.2.2)) ∧ Cx K s1 q cw (upd I 1 p) A R Q ∧ stp K st s1 ∧ Tq (upd I 1 p) A (upd ms.1 1 p, ms.2.1, ms.2.2.1, ms.2.2.2) ∧ (sg = 0 ∨ sg = 1) := by
    by_cases hq : chr (A 0) (I 0) (I 1) = 45
    · obtain ⟨s1, f1, f2, f3⟩ := c_take1 (Zd := Zd) h t6 t8 (c := 45) (by decide) hq
      obtain ⟨d1, d2, d3⟩ := chr_lt hq (by decide)
      have k1 : (I 1 + 1).toInt = (I 1).toInt + 1 := by rw [i32add (by omega) (by omega)]; omega
      exact ⟨1, s1, I 1 + 1, f1, m_takes1 hT0 hq, f2, f3, hT0.up (by omega) (by omega), Or.inr rfl⟩
    · refine ⟨0, st, I 1, c_take0 h t6 t8 hq, m_takes0 hT0 hq, ?_, stp.rf K st, hT0.up t6 t7, Or.inl rfl⟩
      rw [upd_id rfl]; exact h
  obtain ⟨sg, s1, p, b1, b2, b3, b4, b5, b6⟩ := hb
  obtain ⟨v1, s2, I2, ms2, v2, g1, g2, g3, g4, g4b, g5, g6, g7⟩ := digs_lock (Zd := Zd) b3 b5
  have hkI : kI I I2 := (kI.p _ _).tr g4
  have hkM : ∀ J : Nat → Int64, kM ms (ms2.1, J, ms2.2.2.1, ms2.2.2.2) := fun J => by
    have h9 : kM ms ms2 := (kM.p ms p ms.2.1).tr g5
    exact ⟨h9.1, h9.2.1, h9.2.2⟩
  have hW2 : Wq I2 A := ⟨by rw [g4b]; exact hW.1, by rw [g4b]; exact hW.2.1, hW.2.2⟩
  -- the model's number
  have hm : ∃ J, m_number ms = some (ms2.1, J, ms2.2.2.1, ms2.2.2.2) ∧ J 0 = (if sg = 0 then v2 else -v2).toInt64 ∧ J 1 = 0 := by
    have g6 := g6
    obtain ⟨x4, y1, g6⟩ := ob g6
    obtain ⟨x7, y2, g6⟩ := ob g6
    obtain ⟨e11, y3, g6⟩ := ob g6
    obtain ⟨x13, y4, g6⟩ := ob g6
    obtain ⟨e16, y5, g6⟩ := ob g6
    have y6 : e16.1 = v2 ∧ e16.2.2 = ms2 := by
      have := Option.some.inj g6
      exact ⟨congrArg (fun x => x.1) this, congrArg (fun x => x.2) this⟩
    refine ⟨vp_updL (vp_updL ms2.2.1 0 (if sg = 0 then v2 else -v2).toInt64) 1 0, ?_, rfl, rfl⟩
    rcases b6 with rfl | rfl
    · simp only [m_number, b2, Option.bind_some, y1, y2, y3, y4, y5, if_true, y6.1, y6.2]
    · simp only [m_number, b2, Option.bind_some, y1, y2, y3, y4, y5, h10, if_false, y6.1, y6.2]
  obtain ⟨J, m1, m2, m3⟩ := hm
  rcases g7 with ⟨⟨v0, v9⟩, g7⟩ | g7
  · have hr : c_Text_isRight Zd K (q 1) s2 = some 1 := by
      rcases g7 with ⟨-, g7⟩ | g7
      · exact c_right1 g2 g7.2.2.2.1
      · exact c_right1 g2 g7.1
    have z61 : s2.1.1 + 1 ≤ Zd 6 := by rw [g3.2, b4.2]; omega
    have z71 : s2.1.2 + 6 ≤ Zd 7 := by rw [g3.2, b4.2]; omega
    obtain ⟨s3, s4, f1, f2, f3, f4, f5, f6⟩ := new_val (num := if sg = 0 then v1 else -v1) hk g2 (show 3 < 7 by decide) (hk.str g2.2.1 (i := 0) rfl) z61 z71
    have hrange : -999999 ≤ (if sg = 0 then v1 else -v1).toInt ∧ (if sg = 0 then v1 else -v1).toInt ≤ 999999 := by
      have hn := neg_i v0
      rcases b6 with rfl | rfl
      · rw [if_pos rfl]; omega
      · rw [if_neg h10]; omega
    refine ⟨s4, I2, A, _, 3, by rw [m1]; rfl, by decide, f3, b4.1.tr (g3.1.tr f4), hW2, hkI, fun _ _ => rfl, hkM J, by rw [f5, g3.2, b4.2]; dsimp only; omega, by rw [f5, g3.2, b4.2]; dsimp only; omega, Or.inl ⟨s2.1.1, _, [], ?_, by rw [g3.2, b4.2]; exact Nat.le_refl _, f6, ⟨by decide, fun c hc => by cases hc⟩, hrange, ?_⟩⟩
    · rcases b6 with rfl | rfl
      · simp only [c_ValueParser_number, Option.bind_some, fo_1 h.1, b1, fo_1 b3.1, g1, fo_1 g2.1, hr, h10, if_false, if_true] at f2 ⊢
        simp only [f1, Option.bind_some, f2]
      · simp only [c_ValueParser_number, Option.bind_some, fo_1 h.1, b1, fo_1 b3.1, g1, fo_1 g2.1, hr, h10, if_false, if_true] at f2 ⊢
        simp only [f1, Option.bind_some, f2]
    · rcases g7 with ⟨g8, g9⟩ | g8
      · left
        refine ⟨g9, ?_, m3⟩
        show J 0 = _
        rw [m2, g8]
        rfl
      · exact Or.inr g8
  · have hr : c_Text_isRight Zd K (q 1) s2 = some 0 := c_right0 g2 g7.1
    refine ⟨s2, I2, A, _, 3, by rw [m1]; rfl, by decide, g2, b4.1.tr g3.1, hW2, hkI, fun _ _ => rfl, hkM J, by rw [g3.2, b4.2]; omega, by rw [g3.2, b4.2]; omega, Or.inr ⟨?_, g7⟩⟩
    simp only [c_ValueParser_number, Option.bind_some, fo_1 h.1, b1, fo_1 b3.1, g1, fo_1 g2.1, hr, if_true]
end NUMBER
