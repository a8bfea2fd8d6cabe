/-! Queries: a segment; class and model. -/
/-- what reading a segment's selectors comes to -/
def CO2 (K : KE) (st : CS) (q : Nat → Nat) (cw : Nat) (I : Nat → Int32) (A : Nat → Nat → Int32) (R : Nat → Option Nat) (Q : Nat → Nat → Option Nat) (ms : MS) (n : Nat) (dp : Int32) (cv : Option CS) (mv : Option MS) : Prop :=
  ∃ st1 I1 A1 R1 ms1, cv = some st1 ∧ mv = some ms1 ∧ Cx K st1 q cw I1 A1 R1 Q ∧ le K st st1 ∧ Wq I1 A1 ∧ kA A A1 ∧ qkI n I I1 ∧ qkR n R R1 ∧ qkM n ms ms1 ∧ qkG ms ms1 ∧ st1.1.1 ≤ st.1.1 + 2 * (8 - n) ∧ st1.1.2 ≤ st.1.2 + 14 * (8 - n) ∧
    ((∃ n1, n < n1 ∧ n1 ≤ 8 ∧ I1 4 = ms1.1 6 ∧ (I1 4).toInt = n1 ∧ PS K st1 I1 R1 ms1 n n1 dp ∧ st1.1.1 + 2 * (8 - n1) ≤ st.1.1 + 2 * (8 - n) ∧ st1.1.2 + 14 * (8 - n1) ≤ st.1.2 + 14 * (8 - n) ∧ Tq I1 A1 ms1) ∨ (Pn I1 A1 ms1 ∧ n < 8) ∨ Fq I1 ms1)
theorem BO.co {K : KE} {st : CS} {q : Nat → Nat} {cw : Nat} {I : Nat → Int32} {A : Nat → Nat → Int32} {R : Nat → Option Nat} {Q : Nat → Nat → Option Nat} {ms : MS} {n : Nat} {dp : Int32} {cv : Option CS} {mv : Option MS} (h : BO K st q cw I A R Q ms n n dp cv mv) : CO2 K st q cw I A R Q ms n dp cv mv := by
  obtain ⟨s3, I3, A3, R3, m3, i1, i2, i3, i4, i5, i6, i7, i8, i9, i10, i11, i12, i13⟩ := h
  exact ⟨s3, I3, A3, R3, m3, i1, i2, i3, i4, i5, i6, i7, i8, i9, i10, i11, i12, i13.imp (fun x => x) (fun x => Or.inr x)⟩
theorem SR.co {Zd : Nat → Nat} {K : KE} {st : CS} {q : Nat → Nat} {cw : Nat} {I : Nat → Int32} {A : Nat → Nat → Int32} {R : Nat → Option Nat} {Q : Nat → Nat → Option Nat} {ms : MS} {n : Nat} {dp : Int32} {cv : Option CS} {mv : Option MS} (h : SR Zd K st q cw I A R Q ms n 1 dp cv mv) : CO2 K st q cw I A R Q ms n dp cv mv := by
  obtain ⟨s3, I3, A3, R3, m3, i1, i2, i3, i4, i5, i6, i7, i8, i9, i10, i11⟩ := h
  rcases i11 with ⟨y1, y2, y3, y4, y5, y6, y7, y8⟩ | ⟨y1, y2, y3⟩
  · refine ⟨s3, I3, A3, R3, m3, i1, i2, i3, i4, i5, i6, i7, i8, i9, i10, by omega, by omega, ?_⟩
    rcases y8 with ⟨y8, y9⟩ | y8
    · refine Or.inl ⟨n + 1, by omega, by omega, y4, by rw [y5]; rfl, fun j h1 h2 => ?_, by omega, by omega, y8⟩
      have : j = n := by omega
      subst this
      exact ⟨y9, by rw [y6, if_pos rfl], fun _ => y7⟩
    · exact Or.inr (Or.inl ⟨y8, y1⟩)
  · exact ⟨s3, I3, A3, R3, m3, i1, i2, i3, i4, i5, i6, i7, i8, i9, i10, y2, y3, Or.inr (Or.inr y1)⟩
section SEG
variable {Zd : Nat → Nat} {K : KE} {st : CS} {ms : MS} {q : Nat → Nat} {cw : Nat} {I : Nat → Int32} {A : Nat → Nat → Int32} {R : Nat → Option Nat} {Q : Nat → Nat → Option Nat}
/-- the dots before a segment -/
theorem dots (h : Cx K st q cw I A R Q) (hT : Tq I A ms) {g : Nat} (hg : (ms.1 5).toInt = g) (hg8 : g ≤ 8) : ∃ (dt dp p : Int32) (sA s2 : CS) (mA : MS), c_Text_take Zd K (q 1) 46 st = some (dt, sA) ∧ (if dt = (0 : Int32) then (some ((0 : Int32), sA)) else ((isO K sA (q 1) 1).bind fun _ => (c_Text_take Zd K (q 1) (46 : Int32) sA).bind fun r41 => if r41.1 = (0 : Int32) then (some ((0 : Int32), r41.2)) else (some ((1 : Int32), r41.2)))) = some (dp, s2) ∧ m_takes (46 : Int32) (ms.1, ms.2.1, va_up ms.2.2.1 4 (upd (ms.2.2.1 4) g 0), ms.2.2.2) = some (dt, mA) ∧ (if dt = (0 : Int32) then (some mA) else ((m_takes (46 : Int32) mA).bind fun r83 => (ix 9 (mA.1 5)).bind fun k84z => (some (vp_nar .boolean r83.1)).bind fun y85 => some (r83.2.1, r83.2.2.1, va_up r83.2.2.2.1 4 (upd (r83.2.2.2.1 4) k84z y85), r83.2.2.2.2))) = some (upd ms.1 1 p, ms.2.1, va_up ms.2.2.1 4 (upd (ms.2.2.1 4) g dp), ms.2.2.2) ∧ Cx K s2 q cw (upd I 1 p) A R Q ∧ stp K st s2 ∧ Tq (upd I 1 p) A (upd ms.1 1 p, ms.2.1, va_up ms.2.2.1 4 (upd (ms.2.2.1 4) g dp), ms.2.2.2) ∧ (dt = 0 ∨ dt = 1) ∧ (dp = 0 ∨ dp = 1) ∧ (dt = 0 → dp = 0) := by
  have N := nums
  have h10 : ¬ ((1 : Int32) = 0) := by decide
  have hT0 := hT
  obtain ⟨t1, t2, t3, t4, t5, t6, t7, t8⟩ := hT
  have hTd : ∀ x : Int32, Tq I A (ms.1, ms.2.1, va_up ms.2.2.1 4 (upd (ms.2.2.1 4) g x), ms.2.2.2) := fun x => ⟨by dsimp only; rw [va_up_ne _ _ (by decide)]; exact t1, t2, t3, t4, t5, t6, t7, t8⟩
  have n0 : vp_nar .boolean 0 = 0 := by decide
  have n1 : vp_nar .boolean 1 = 1 := by decide
  by_cases hq : chr (A 0) (I 0) (I 1) = 46
  · obtain ⟨s1, f1, f2, f3⟩ := c_take1 (Zd := Zd) h t6 t8 (c := 46) (by decide) hq
    obtain ⟨d1, d2, d3⟩ := chr_lt hq (by decide)
    have k1 : (I 1 + 1).toInt = (I 1).toInt + 1 := by rw [i32add (by omega) (by omega)]; omega
    have hmt := m_takes1 (hTd 0) hq
    have hT1 := (hTd 0).up (p := I 1 + 1) (J := ms.2.1) (B := ms.2.2.2) (by omega) (by omega)
    have hg5 : upd ms.1 1 (I 1 + 1) 5 = ms.1 5 := upd_ne (by decide)
    have hin : vp_in (upd ms.1 1 (I 1 + 1) 5) 9 := by rw [hg5]; exact vp_of (by omega) (by omega)
    have tn : (upd ms.1 1 (I 1 + 1) 5).toNatClampNeg = g := by rw [hg5, tnn]; omega
    have hp1 : upd I 1 (I 1 + 1) 1 = I 1 + 1 := upd_self
    by_cases hq2 : chr (A 0) (upd I 1 (I 1 + 1) 0) (upd I 1 (I 1 + 1) 1) = 46
    · obtain ⟨s2, g1, g2, g3⟩ := c_take1 (Zd := Zd) f2 hT1.2.2.2.2.2.1 t8 (c := 46) (by decide) hq2
      obtain ⟨b1, b2, b3⟩ := chr_lt hq2 (by decide)
      rw [hp1] at b3 g2
      have b3 : (I 1 + 1).toInt < (I 0).toInt := b3
      have k2 : (I 1 + 1 + 1).toInt = (I 1 + 1).toInt + 1 := by rw [i32add (by omega) (by omega)]; omega
      have hmt2 := m_takes1 hT1 hq2
      rw [hp1] at hmt2
      dsimp only at hmt2
      rw [upd_upd] at hmt2 g2
      refine ⟨1, 1, I 1 + 1 + 1, s1, s2, _, f1, ?_, hmt, ?_, g2, f3.tr g3, (hTd 1).up (by omega) (by omega), Or.inr rfl, Or.inr rfl, fun e => absurd e h10⟩
      · rw [if_neg h10, fo_1 f2.1, Option.bind_some, g1, Option.bind_some, if_neg h10]
      · rw [if_neg h10, hmt2, Option.bind_some, ix_in hin, Option.bind_some, tn, n1, Option.bind_some]
        dsimp only
        rw [va_up_self, upd_upd, va_up_up]
    · have hmt2 := m_takes0 hT1 hq2
      rw [hp1] at hmt2
      dsimp only at hmt2
      rw [upd_upd] at hmt2
      refine ⟨1, 0, I 1 + 1, s1, s1, _, f1, ?_, hmt, ?_, f2, f3, (hTd 0).up (by omega) (by omega), Or.inr rfl, Or.inl rfl, fun e => absurd e h10⟩
      · rw [if_neg h10, fo_1 f2.1, Option.bind_some, c_take0 (Zd := Zd) f2 hT1.2.2.2.2.2.1 t8 hq2, Option.bind_some, if_pos rfl]
      · rw [if_neg h10, hmt2, Option.bind_some, ix_in hin, Option.bind_some, tn, n0, Option.bind_some]
        dsimp only
        rw [va_up_self, upd_upd, va_up_up]
  · have hmt := m_takes0 (hTd 0) hq
    refine ⟨0, 0, I 1, st, st, _, c_take0 (Zd := Zd) h t6 t8 hq, if_pos rfl, hmt, if_pos rfl, by rw [upd_id rfl]; exact h, stp.rf K st, (hTd 0).up t6 t7, Or.inl rfl, Or.inl rfl, fun _ => rfl⟩
/-- what reading a segment comes to -/
def GO (K : KE) (st : CS) (q : Nat → Nat) (cw : Nat) (I : Nat → Int32) (A : Nat → Nat → Int32) (R : Nat → Option Nat) (Q : Nat → Nat → Option Nat) (ms : MS) (n g : Nat) (cv : Option CS) (mv : Option MS) : Prop :=
  ∃ st1 I1 A1 R1 ms1, cv = some st1 ∧ mv = some ms1 ∧ Cx K st1 q cw I1 A1 R1 Q ∧ le K st st1 ∧ Wq I1 A1 ∧ kA A A1 ∧ qkI n I I1 ∧ qkR n R R1 ∧ qkM n ms ms1 ∧ st1.1.1 ≤ st.1.1 + 2 * (8 - n) ∧ st1.1.2 ≤ st.1.2 + 14 * (8 - n) ∧ (∀ i, i < g → ms1.2.2.1 4 i = ms.2.2.1 4 i ∧ ms1.2.2.1 5 i = ms.2.2.1 5 i) ∧
    ((∃ n1, n < n1 ∧ n1 ≤ 8 ∧ I1 4 = ms1.1 6 ∧ (I1 4).toInt = n1 ∧ PS K st1 I1 R1 ms1 n n1 (ms1.2.2.1 4 g) ∧ (ms1.2.2.1 5 g).toInt = n1 ∧ (ms1.1 5).toInt = g + 1 ∧ st1.1.1 + 2 * (8 - n1) ≤ st.1.1 + 2 * (8 - n) ∧ st1.1.2 + 14 * (8 - n1) ≤ st.1.2 + 14 * (8 - n) ∧ Tq I1 A1 ms1) ∨ (Pn I1 A1 ms1 ∧ n < 8) ∨ Fq I1 ms1)
theorem seg_lock (h : Cx K st q cw I A R Q) (hT : Tq I A ms) (hW : Wq I A) {n g : Nat} (h4 : I 4 = ms.1 6) (hn : (I 4).toInt = n) (h8 : n ≤ 8) (hg : (ms.1 5).toInt = g) (hgn : g ≤ n) (z6 : st.1.1 + 2 * (8 - n) ≤ Zd 6) (z7 : st.1.2 + 14 * (8 - n) ≤ Zd 7) : GO K st q cw I A R Q ms n g (c_Query_segment Zd K (q 4) (some (q 1)) st) (m_segment ms) := by
  have N := nums
  have h10 : ¬ ((1 : Int32) = 0) := by decide
  obtain ⟨dt, dp, p, sA, s2, mA, a1, a2, a3, a4, a5, a6, a7, a8, a9, a10⟩ := dots (Zd := Zd) h hT hg (by omega)
  have hin : vp_in (ms.1 5) 9 := vp_of (by omega) (by omega)
  have tn : (ms.1 5).toNatClampNeg = g := by rw [tnn]; omega
  have n0 : vp_nar .boolean 0 = 0 := by decide
  have hW2 : Wq (upd I 1 p) A := ⟨hW.1, hW.2⟩
  have hs2 : s2.1.1 = st.1.1 ∧ s2.1.2 = st.1.2 := by rw [a6.2]; exact ⟨rfl, rfl⟩
  have hin2 : vp_in (upd ms.1 1 p 5) 9 := by rw [upd_ne (by decide)]; exact hin
  have tn2 : (upd ms.1 1 p 5).toNatClampNeg = g := by rw [upd_ne (by decide)]; exact tn
  have hrd : rd (va_up ms.2.2.1 4 (upd (ms.2.2.1 4) g dp) 4) 9 (upd ms.1 1 p 5) = some dp := by rw [rd_in hin2, tn2, va_up_self, upd_self]
  -- the selectors
  obtain ⟨cv, mv, hco, hcv, hmv⟩ : ∃ cv mv, CO2 K s2 q cw (upd I 1 p) A R Q (upd ms.1 1 p, ms.2.1, va_up ms.2.2.1 4 (upd (ms.2.2.1 4) g dp), ms.2.2.2) n dp cv mv ∧ c_Query_segment Zd K (q 4) (some (q 1)) st = cv ∧ m_segment ms = mv.bind fun e10 => (if (0 : Int32) ≤ (e10.1 2) then (some e10) else ((ix 8 (e10.1 5)).bind fun k15z => (some ((e10.1 5) + 1)).bind fun y16 => some (upd e10.1 5 y16, e10.2.1, va_up e10.2.2.1 5 (upd (e10.2.2.1 5) k15z (e10.1 6)), e10.2.2.2))).bind fun e13 => some e13 := by
    have hb := (brk_lock (Zd := Zd) (dp := dp) a5 a7 hW2 (n := n) h4 hn h8 a9 (by omega) (by omega)).co
    have hdt := (dot_lock (Zd := Zd) (dp := dp) a5 a7 hW2 (n := n) h4 hn h8 a9 (by omega) (by omega)).co
    have hms : m_segment ms = (if dt = (0 : Int32) then ((m_must (91 : Int32) (upd ms.1 1 p, ms.2.1, va_up ms.2.2.1 4 (upd (ms.2.2.1 4) g dp), ms.2.2.2)).bind fun st18 => (if (0 : Int32) ≤ (st18.1 2) then (some (0 : Int32)) else (some (1 : Int32))).bind fun e21 => (m_segment_l1 4096 (e21, (0 : Int32), st18)).bind fun e23 => (m_must (93 : Int32) e23.2.2).bind fun st32 => some st32) else ((some dp).bind fun x43 => if x43 = (0 : Int32) then ((m_shortSegment (upd ms.1 1 p, ms.2.1, va_up ms.2.2.1 4 (upd (ms.2.2.1 4) g dp), ms.2.2.2)).bind fun st46 => some st46) else ((m_sees (91 : Int32) (upd ms.1 1 p, ms.2.1, va_up ms.2.2.1 4 (upd (ms.2.2.1 4) g dp), ms.2.2.2)).bind fun x48 => if x48 = (0 : Int32) then ((m_shortSegment (upd ms.1 1 p, ms.2.1, va_up ms.2.2.1 4 (upd (ms.2.2.1 4) g dp), ms.2.2.2)).bind fun st79 => some st79) else ((m_must (91 : Int32) (upd ms.1 1 p, ms.2.1, va_up ms.2.2.1 4 (upd (ms.2.2.1 4) g dp), ms.2.2.2)).bind fun st53 => (if (0 : Int32) ≤ (st53.1 2) then (some (0 : Int32)) else (some (1 : Int32))).bind fun e56 => (m_segment_l1 4096 (e56, (0 : Int32), st53)).bind fun e58 => (m_must (93 : Int32) e58.2.2).bind fun st67 => some st67)))).bind fun e10 => (if (0 : Int32) ≤ (e10.1 2) then (some e10) else ((ix 8 (e10.1 5)).bind fun k15z => (some ((e10.1 5) + 1)).bind fun y16 => some (upd e10.1 5 y16, e10.2.1, va_up e10.2.2.1 5 (upd (e10.2.2.1 5) k15z (e10.1 6)), e10.2.2.2))).bind fun e13 => some e13 := by
      unfold m_segment
      rw [ix_in hin, Option.bind_some, tn, n0, Option.bind_some, a3, Option.bind_some, a4, Option.bind_some]
      simp only [seg_l2, hrd]
    have hcs : c_Query_segment Zd K (q 4) (some (q 1)) st = (if dt = (0 : Int32) then (c_Query_bracket Zd K (q 4) (some (q 1)) dp s2) else (if dp = (0 : Int32) then (c_Query_dottedSelector Zd K (q 4) (some (q 1)) dp s2) else ((c_Text_ahead Zd K (q 1) s2).bind fun x28 => if x28 = (91 : Int32) then (c_Query_bracket Zd K (q 4) (some (q 1)) dp s2) else (c_Query_dottedSelector Zd K (q 4) (some (q 1)) dp s2)))) := by
      have hid : ∀ x : Option CS, (x.bind fun y => some y) = x := fun x => by cases x <;> rfl
      unfold c_Query_segment
      simp only [Option.bind_some, fo_1 h.1, a1]
      rw [a2]
      simp only [Option.bind_some, fo_4 a5.1, fo_1 a5.1, hid]
    have hch := c_here (Zd := Zd) a5 a7.2.2.2.2.2.1 a7.2.2.2.2.2.2.2
    have hid2 : ∀ x : Option MS, (x.bind fun y => some y) = x := fun x => by cases x <;> rfl
    rcases a8 with rfl | rfl
    · refine ⟨_, _, hb, ?_, ?_⟩
      · rw [hcs, if_pos rfl]
      · rw [hms, if_pos rfl]
    · rcases a9 with rfl | rfl
      · refine ⟨_, _, hdt, ?_, ?_⟩
        · rw [hcs, if_neg h10, if_pos rfl]
        · rw [hms, if_neg h10, Option.bind_some, if_pos rfl, hid2]
      · by_cases hq : chr (A 0) (upd I 1 p 0) (upd I 1 p 1) = 91
        · have hse := m_sees_q a7 91
          rw [if_pos hq] at hse
          refine ⟨_, _, hb, ?_, ?_⟩
          · rw [hcs, if_neg h10, if_neg h10, hch, Option.bind_some, if_pos hq]
          · rw [hms, if_neg h10, Option.bind_some, if_neg h10, hse, Option.bind_some, if_neg h10]
        · have hse := m_sees_q a7 91
          rw [if_neg hq] at hse
          refine ⟨_, _, hdt, ?_, ?_⟩
          · rw [hcs, if_neg h10, if_neg h10, hch, Option.bind_some, if_neg hq]
          · rw [hms, if_neg h10, Option.bind_some, if_neg h10, hse, Option.bind_some, if_pos rfl, hid2]
  obtain ⟨s3, I3, A3, R3, m3, i1, i2, i3, i4, i5, i6, i7, i8, i9, i10, i11, i12, i13⟩ := hco
  rw [hcv, hmv, i2, Option.bind_some]
  have hqi : qkI n I I3 := ((kI.p _ _).q n).tr i7
  have hm2 : qkM n ms (upd ms.1 1 p, ms.2.1, va_up ms.2.2.1 4 (upd (ms.2.2.1 4) g dp), ms.2.2.2) := ⟨fun k a b c d => upd_ne a, fun k a b c d => va_up_ne _ _ a, fun _ _ _ => rfl, fun j _ => ⟨by dsimp only; rw [va_up_ne _ _ (by decide)], by dsimp only; rw [va_up_ne _ _ (by decide)], rfl, rfl⟩⟩
  obtain ⟨g1, g2, g3⟩ := i10
  have g2 : m3.2.2.1 4 = upd (ms.2.2.1 4) g dp := by rw [g2]; dsimp only; rw [va_up_self]
  have g3 : m3.2.2.1 5 = ms.2.2.1 5 := by rw [g3]; dsimp only; rw [va_up_ne _ _ (by decide)]
  have g1 : m3.1 5 = ms.1 5 := by rw [g1]; dsimp only; rw [upd_ne (by decide)]
  have hold : ∀ i, i < g → m3.2.2.1 4 i = ms.2.2.1 4 i ∧ m3.2.2.1 5 i = ms.2.2.1 5 i := fun i hi => ⟨by rw [g2, upd_ne (by omega)], by rw [g3]⟩
  rcases i13 with ⟨n1, v1, v2, v3, v4, v5, v6, v7, v8⟩ | ⟨v1, v2⟩ | v1
  · have hb : ¬ (0 : Int32) ≤ m3.1 2 := by rw [v8.2.2.2.2.1]; decide
    have hin3 : vp_in (m3.1 5) 8 := by rw [g1]; exact vp_of (by omega) (by omega)
    have tn3 : (m3.1 5).toNatClampNeg = g := by rw [g1]; exact tn
    have k5 : (m3.1 5 + 1).toInt = g + 1 := by rw [g1, i32add (by omega) (by omega)]; omega
    refine ⟨s3, I3, A3, R3, (upd m3.1 5 (m3.1 5 + 1), m3.2.1, va_up m3.2.2.1 5 (upd (m3.2.2.1 5) g (m3.1 6)), m3.2.2.2), i1, ?_, i3, a6.1.tr i4, i5, i6, hqi, i8, ?_, by omega, by omega, ?_, Or.inl ⟨n1, v1, v2, ?_, v4, ?_, ?_, ?_, by omega, by omega, ?_⟩⟩
    · rw [if_neg hb, ix_in hin3, Option.bind_some, tn3, Option.bind_some, Option.bind_some]
    · refine (hm2.tr i9).tr ⟨fun k a b c d => upd_ne c, fun k a b c d => va_up_ne _ _ b, fun _ _ _ => rfl, fun j _ => ⟨?_, ?_, rfl, rfl⟩⟩
      · dsimp only
        rw [va_up_ne _ _ (by decide)]
      · dsimp only
        rw [va_up_ne _ _ (by decide)]
    · intro i hi
      dsimp only
      rw [va_up_ne _ _ (by decide), va_up_self, upd_ne (by omega)]
      exact hold i hi
    · dsimp only
      rw [upd_ne (by decide)]; exact v3
    · dsimp only
      rw [va_up_ne _ _ (by decide), g2, upd_self]
      intro j h1 h2
      obtain ⟨b1, b2, b3⟩ := v5 j h1 h2
      refine ⟨?_, b2, b3⟩
      unfold SO at b1 ⊢
      dsimp only
      rw [va_up_ne _ _ (by decide), va_up_ne _ _ (by decide)]
      exact b1
    · dsimp only
      rw [va_up_self, upd_self, ← v3, v4]
    · dsimp only
      rw [upd_self, k5]
    · obtain ⟨y1, y2, y3, y4, y5, y6, y7, y8⟩ := v8
      refine ⟨?_, y2, y3, y4, y5, y6, y7, y8⟩
      dsimp only
      rw [va_up_ne _ _ (by decide)]; exact y1
  · have hb : (0 : Int32) ≤ m3.1 2 := by rw [v1.2.2.2]; exact i32n v1.2.1.1
    exact ⟨s3, I3, A3, R3, m3, i1, by rw [if_pos hb, Option.bind_some], i3, a6.1.tr i4, i5, i6, hqi, i8, hm2.tr i9, by omega, by omega, hold, Or.inr (Or.inl ⟨v1, v2⟩)⟩
  · have hb : (0 : Int32) ≤ m3.1 2 := by rw [v1.2.2.1]; exact i32n v1.1
    exact ⟨s3, I3, A3, R3, m3, i1, by rw [if_pos hb, Option.bind_some], i3, a6.1.tr i4, i5, i6, hqi, i8, hm2.tr i9, by omega, by omega, hold, Or.inr (Or.inr v1)⟩
end SEG
