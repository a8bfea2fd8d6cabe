/-! Queries: a selector behind a dot; class and model. -/
section DOT
variable {Zd : Nat → Nat} {K : KE} {st : CS} {ms : MS} {q : Nat → Nat} {cw : Nat} {I : Nat → Int32} {A : Nat → Nat → Int32} {R : Nat → Option Nat} {Q : Nat → Nat → Option Nat}
theorem dot_lock (h : Cx K st q cw I A R Q) (hT : Tq I A ms) (hW : Wq I A) {n : Nat} (h4 : I 4 = ms.1 6) (hn : (I 4).toInt = n) (h8 : n ≤ 8) {dp : Int32} (hd : dp = 0 ∨ dp = 1) (z6 : st.1.1 + 2 * (8 - n) ≤ Zd 6) (z7 : st.1.2 + 14 * (8 - n) ≤ Zd 7) : SR Zd K st q cw I A R Q ms n 1 dp (c_Query_dottedSelector Zd K (q 4) (some (q 1)) dp st) (m_shortSegment ms) := by
  have N := nums
  have h10 : ¬ ((1 : Int32) = 0) := by decide
  have hch0 := c_here (Zd := Zd) h hT.2.2.2.2.2.1 hT.2.2.2.2.2.2.2
  by_cases h88 : n = 8
  · obtain ⟨s1, f1, f2⟩ := full_lock (Zd := Zd) h hT hW 1 dp n
    have e8 : ms.1 6 = 8 := by rw [← h4]; exact i32eq (by omega)
    have hle : (8 : Int32) ≤ I 4 := i32le.mpr (by omega)
    have hc : c_Query_dottedSelector Zd K (q 4) (some (q 1)) dp st = some s1 := by
      simp only [c_Query_dottedSelector, Option.bind_some, fo_1 h.1, hch0, fg_4_1 h.1, hle, if_true, f1]
    have hm : m_shortSegment ms = m_fault ms := by
      simp only [m_shortSegment, e8, if_true]
      cases m_fault ms <;> rfl
    rw [hc, hm]
    exact f2
  have hn8 : n < 8 := by omega
  have hle : ¬ (8 : Int32) ≤ I 4 := fun e => by have := i32le.mp e; omega
  have e8 : ¬ ms.1 6 = 8 := fun e => by rw [← h4] at e; rw [e] at hn; omega
  have hin : vp_in (ms.1 6) 8 := by rw [← h4]; exact vp_of (by omega) (by omega)
  have tn : (ms.1 6).toNatClampNeg = n := by rw [← h4, tnn]; omega
  have k4 : (I 4 + 1).toInt = n + 1 := by rw [i32add (by omega) (by omega)]; omega
  obtain ⟨s1, I1, e1, e2, e3, e4, e5, e6, e7, e8', e9, e10, e11, e12⟩ := made (Zd := Zd) (ms := ms) h hT hW hn hn8 (op := 1) (Or.inr rfl) hd
  have hs1 : s1.1.1 = st.1.1 ∧ s1.1.2 = st.1.2 := by rw [e3.2]; exact ⟨rfl, rfl⟩
  have e40 := e4
  obtain ⟨t1, t2, t3, t4, t5, t6, t7, t8⟩ := e4
  by_cases hq42 : chr (A 0) (I 0) (I 1) = 42
  · have hq42' : chr (A 0) (I1 0) (I1 1) = 42 := by rw [e10, e11]; exact hq42
    obtain ⟨s2, f1, f2, f3⟩ := c_take1 (Zd := Zd) e2 t6 t8 (c := 42) (by decide) hq42'
    obtain ⟨s3, g1, g2, g3⟩ := sel_int f2 hn8 (o := 2) (Or.inr (Or.inr rfl)) 2
    obtain ⟨d1, d2, d3⟩ := chr_lt hq42' (by decide)
    have k1 : (I1 1 + 1).toInt = (I1 1).toInt + 1 := by rw [i32add (by omega) (by omega)]; omega
    have hmt := m_takes1 e40 hq42'
    have hI : ∀ k, k ≠ 1 → k ≠ 100 + 2 + 4 * n → (upd (upd I1 1 (I1 1 + 1)) (100 + 2 + 4 * n) 2) k = I1 k := fun k a b => (upd_ne b).trans (upd_ne a)
    have hm61 : upd ms.1 1 (I1 1 + 1) 6 = ms.1 6 := upd_ne (by decide)
    refine ⟨s3, _, A, R, (upd (upd ms.1 1 (I1 1 + 1)) 6 (upd ms.1 1 (I1 1 + 1) 6 + 1), ms.2.1, va_up ms.2.2.1 6 (upd (ms.2.2.1 6) n 1), ms.2.2.2), ?_, ?_, g2, e3.1.tr (f3.1.tr g3.1), ?_, fun _ _ => rfl, ?_, qkR.rf n R, ?_, ?_, Or.inl ⟨hn8, by rw [g3.2, f3.2]; omega, by rw [g3.2, f3.2]; omega, ?_, ?_, ?_, ?_, Or.inl ⟨?_, Or.inr (Or.inr ⟨?_, ?_⟩)⟩⟩⟩
    · rw [hq42] at hch0
      simp only [c_Query_dottedSelector, Option.bind_some, fo_1 h.1, hch0, fg_4_1 h.1, hle, if_false, if_true, fo_4 h.1, e1, fo_1 e2.1, f1, h10, g1]
    · simp only [m_shortSegment, e8, if_false, hmt, Option.bind_some, h10, hm61, ix_in hin, tn]
    · exact ⟨by rw [hI 15 (by decide) (by omega)]; exact e5.1, by rw [hI 15 (by decide) (by omega)]; exact e5.2⟩
    · exact e6.tr (fun k a b c d e f => hI k a (by omega))
    · refine ⟨fun k a b c d => (upd_ne d).trans (upd_ne a), fun k a b c d => va_up_ne _ _ c, fun _ _ _ => rfl, fun j hj => ⟨?_, ?_, rfl, rfl⟩⟩
      · dsimp only
        rw [va_up_self, upd_ne (by omega)]
      · dsimp only
        rw [va_up_ne _ _ (by decide)]
    · exact ⟨rfl, rfl, rfl⟩
    · rw [hI 4 (by decide) (by omega), e7, h4]
      dsimp only
      rw [upd_self, upd_ne (by decide)]
    · rw [hI 4 (by decide) (by omega), e7, k4]
    · rw [hI _ (by omega) (by omega), e8']
    · rw [hI _ (by omega) (by omega), e9]
    · unfold Tq
      rw [hI 0 (by decide) (by omega), hI 2 (by decide) (by omega), upd_ne (show 1 ≠ 100 + 2 + 4 * n by omega), upd_self]
      exact ⟨t1, t2, rfl, t4, t5, by omega, by omega, t8⟩
    · rw [show 102 + 4 * n = 100 + 2 + 4 * n by omega, upd_self]
    · dsimp only
      rw [va_up_self, upd_self]
  · have hmt0 := m_takes0 hT hq42
    have hid : upd ms.1 1 (I 1) = ms.1 := upd_id hT.2.2.1.symm
    rw [hid] at hmt0
    have hmt0 : m_takes 42 ms = some (0, ms) := hmt0
    by_cases hl : isLt (chr (A 0) (I 0) (I 1))
    · have hq42' : ¬ chr (A 0) (I1 0) (I1 1) = 42 := by rw [e10, e11]; exact hq42
      have htk := c_take0 (Zd := Zd) e2 t6 t8 hq42'
      obtain ⟨s2, g1, g2, g3⟩ := sel_int e2 hn8 (o := 2) (Or.inr (Or.inr rfl)) 0
      have hI : ∀ k, k ≠ 100 + 2 + 4 * n → (upd I1 (100 + 2 + 4 * n) 0) k = I1 k := fun k b => upd_ne b
      have hT2 : Tq (upd I1 (100 + 2 + 4 * n) 0) A ms := by
        unfold Tq
        rw [hI 0 (by omega), hI 1 (by omega), hI 2 (by omega)]
        exact e40
      have hW2 : Wq (upd I1 (100 + 2 + 4 * n) 0) A := by
        unfold Wq
        rw [hI 15 (by omega)]
        exact e5
      have hl2 : isLt (chr (A 0) (upd I1 (100 + 2 + 4 * n) 0 0) (upd I1 (100 + 2 + 4 * n) 0 1)) := by rw [hI 0 (by omega), hI 1 (by omega), e10, e11]; exact hl
      have hs2 : s2.1.1 = st.1.1 ∧ s2.1.2 = st.1.2 := by rw [g3.2]; exact hs1
      have hqi : qkI n I (upd I1 (100 + 2 + 4 * n) 0) := e6.tr (fun k a b c d e f => hI k (by omega))
      obtain ⟨s3, m1, I3, A3, cs, j1, j2, j3, j4, j5, j6, j8, j9, j10, j11, j12, j14, j15, j16, j17⟩ := name_lock (Zd := Zd) g2 hT2 hW2 hl2 (by omega) (by omega)
      obtain ⟨s4, w1, w2, w3⟩ := sel_name j3 hn8 (some s2.1.1)
      have hk : ∀ k, k ≠ 1 → k ≠ 2 → k ≠ 14 → k ≠ 15 → k ≠ 100 + 2 + 4 * n → I3 k = I1 k := fun k a b c d e => (j14 k a b c d).trans (hI k e)
      have hm6 : m1.1 6 = ms.1 6 := j16.1 6 (by decide) (by decide)
      have hin1 : vp_in (m1.1 6) 8 := by rw [hm6]; exact hin
      have tn1 : (m1.1 6).toNatClampNeg = n := by rw [hm6]; exact tn
      refine ⟨s4, I3, A3, _, (upd m1.1 6 (m1.1 6 + 1), m1.2.1, va_up m1.2.2.1 6 (upd (m1.2.2.1 6) n 0), va_up (va_up m1.2.2.2 4 (vp_updL (m1.2.2.2 4) n (m1.2.1 0))) 5 (vp_updL (m1.2.2.2 5) n (m1.2.1 1))), ?_, ?_, w2, e3.1.tr (g3.1.tr (j4.tr w3.1)), j8, j15, hqi.tr (j14.q n), fun k a => va_up_ne _ _ (by omega), ?_, ?_, Or.inl ⟨hn8, by rw [w3.2]; omega, by rw [w3.2]; omega, ?_, ?_, ?_, ?_, ?_⟩⟩
      · simp only [c_Query_dottedSelector, Option.bind_some, fo_1 h.1, hch0, fg_4_1 h.1, hle, if_false, hq42, c_ns1 hl, h10, fo_4 h.1, e1, fo_1 e2.1, htk, if_true, g1, fo_1 g2.1, j1, w1]
      · simp only [m_shortSegment, e8, if_false, hmt0, Option.bind_some, if_true, j2, ix_in hin1, tn1]
      · refine (j16.q n).tr ⟨fun k a b c d => upd_ne d, fun k a b c d => va_up_ne _ _ c, fun k a b => (va_up_ne _ _ b).trans (va_up_ne _ _ a), fun j hj => ⟨?_, ?_, ?_, ?_⟩⟩
        · dsimp only
          rw [va_up_self, upd_ne (by omega)]
        · dsimp only
          rw [va_up_ne _ _ (by decide)]
        · dsimp only
          rw [va_up_ne _ _ (by decide), va_up_self, updL_ne (by omega)]
        · dsimp only
          rw [va_up_self, updL_ne (by omega)]
      · exact j16.g.tr ⟨rfl, rfl, rfl⟩
      · rw [hk 4 (by decide) (by decide) (by decide) (by decide) (by omega), e7, h4, ← hm6]
        dsimp only
        rw [upd_self]
      · rw [hk 4 (by decide) (by decide) (by decide) (by decide) (by omega), e7, k4]
      · rw [hk _ (by omega) (by omega) (by omega) (by omega) (by omega), e8']
      · rw [hk _ (by omega) (by omega) (by omega) (by omega) (by omega), e9]
      · rcases j17 with j17 | j17
        · refine Or.inl ⟨j17, Or.inl ⟨?_, ?_, s2.1.1, cs.map i2b, va_up_self _ _ _, w3.1.str j9, okS_q j10 j11, ?_⟩⟩
          · rw [j14 _ (by omega) (by omega) (by omega) (by omega), show 102 + 4 * n = 100 + 2 + 4 * n by omega, upd_self]
          · dsimp only
            rw [va_up_self, upd_self]
          · dsimp only
            rw [va_up_ne _ _ (by decide), va_up_self, va_up_self, updL_self, updL_self, j12, enc_i2b j10]
        · exact Or.inr j17
    · -- no name begins
      obtain ⟨s2, f1, f2, f3⟩ := c_fail1 (Zd := Zd) h hT.2.2.2.1
      have hT1 : Tq I A (ms.1, vp_updL (vp_updL ms.2.1 0 0) 1 0, ms.2.2.1, ms.2.2.2) := hT
      have hmh : m_here (ms.1, vp_updL (vp_updL ms.2.1 0 0) 1 0, ms.2.2.1, ms.2.2.2) = some (chr (A 0) (I 0) (I 1)) := mh hT1
      have hmf : m_fault (ms.1, vp_updL (vp_updL ms.2.1 0 0) 1 0, ms.2.2.1, ms.2.2.2) = some (upd ms.1 2 (I 1), vp_updL (vp_updL ms.2.1 0 0) 1 0, ms.2.2.1, ms.2.2.2) := m_fault1 hT1
      obtain ⟨y1, y2, y3, y4, y5, y6, y7, y8⟩ := hT
      have hb2 : (0 : Int32) ≤ upd ms.1 2 (I 1) 2 := i32n y6
      have hqn : m_queryName ms = some (upd ms.1 2 (I 1), vp_updL (vp_updL ms.2.1 0 0) 1 0, ms.2.2.1, ms.2.2.2) := by
        simp only [m_queryName, m_clear, Option.bind_some, y5, neg1, if_false, hmh, m_let0 hl, if_true, hmf]
        rw [show (4096 : Nat) = 4095 + 1 from rfl, m_queryName_l1_s]
        simp only [hb2, if_true, Option.bind_some]
      have hm6 : upd ms.1 2 (I 1) 6 = ms.1 6 := upd_ne (by decide)
      have hin1 : vp_in (upd ms.1 2 (I 1) 6) 8 := by rw [hm6]; exact hin
      have tn1 : (upd ms.1 2 (I 1) 6).toNatClampNeg = n := by rw [hm6]; exact tn
      refine ⟨s2, upd I 2 (I 1), A, R, (upd (upd ms.1 2 (I 1)) 6 (upd ms.1 2 (I 1) 6 + 1), vp_updL (vp_updL ms.2.1 0 0) 1 0, va_up ms.2.2.1 6 (upd (ms.2.2.1 6) n 0), va_up (va_up ms.2.2.2 4 (vp_updL (ms.2.2.2 4) n (vp_updL (vp_updL ms.2.1 0 0) 1 0 0))) 5 (vp_updL (ms.2.2.2 5) n (vp_updL (vp_updL ms.2.1 0 0) 1 0 1))), ?_, ?_, f2, f3.1, ⟨hW.1, hW.2⟩, fun _ _ => rfl, (kI.f _ _).q n, qkR.rf n R, ?_, ⟨rfl, rfl, rfl⟩, Or.inr ⟨⟨y6, by show (I 1).toInt ≤ 80; omega, rfl, y6⟩, by rw [f3.2]; omega, by rw [f3.2]; omega⟩⟩
      · simp only [c_Query_dottedSelector, Option.bind_some, fo_1 h.1, hch0, fg_4_1 h.1, hle, if_false, hq42, c_ns0 hl, if_true, f1]
      · simp only [m_shortSegment, e8, if_false, hmt0, Option.bind_some, if_true, hqn, ix_in hin1, tn1]
      · refine ⟨fun k a b c d => (upd_ne d).trans (upd_ne b), fun k a b c d => va_up_ne _ _ c, fun k a b => (va_up_ne _ _ b).trans (va_up_ne _ _ a), fun j hj => ⟨?_, ?_, ?_, ?_⟩⟩
        · dsimp only
          rw [va_up_self, upd_ne (by omega)]
        · dsimp only
          rw [va_up_ne _ _ (by decide)]
        · dsimp only
          rw [va_up_ne _ _ (by decide), va_up_self, updL_ne (by omega)]
        · dsimp only
          rw [va_up_self, updL_ne (by omega)]
end DOT
