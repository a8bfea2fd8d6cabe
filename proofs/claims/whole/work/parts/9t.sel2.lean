/-! Queries: a selector; class and model. -/
def SO (K : KE) (st : CS) (I : Nat → Int32) (R : Nat → Option Nat) (ms : MS) (j : Nat) : Prop :=
  (I (102 + 4 * j) = 0 ∧ ms.2.2.1 6 j = 0 ∧ ∃ a cs, R (10 + j) = some a ∧ strOf K st a = some cs ∧ okS cs ∧ (ms.2.2.2 4 j, ms.2.2.2 5 j) = enc cs) ∨
  (I (102 + 4 * j) = 1 ∧ ms.2.2.1 6 j = 2 ∧ I (103 + 4 * j) = ms.2.2.1 7 j ∧ -999 ≤ (I (103 + 4 * j)).toInt ∧ (I (103 + 4 * j)).toInt ≤ 999) ∨
  (I (102 + 4 * j) = 2 ∧ ms.2.2.1 6 j = 1)
/-- what reading a query leaves: all but the text's place, the builder, the selectors from n on -/
def qkI (n : Nat) (I I1 : Nat → Int32) : Prop := ∀ k, k ≠ 1 → k ≠ 2 → k ≠ 4 → k ≠ 14 → k ≠ 15 → (k < 100 + 4 * n ∨ 132 ≤ k) → I1 k = I k
def qkR (n : Nat) (R R1 : Nat → Option Nat) : Prop := ∀ k, (k < 10 + n ∨ 18 ≤ k) → R1 k = R k
def qkM (n : Nat) (ms ms1 : MS) : Prop := (∀ k, k ≠ 1 → k ≠ 2 → k ≠ 5 → k ≠ 6 → ms1.1 k = ms.1 k) ∧ (∀ k, k ≠ 4 → k ≠ 5 → k ≠ 6 → k ≠ 7 → ms1.2.2.1 k = ms.2.2.1 k) ∧ (∀ k, k ≠ 4 → k ≠ 5 → ms1.2.2.2 k = ms.2.2.2 k) ∧ ∀ j, j < n → ms1.2.2.1 6 j = ms.2.2.1 6 j ∧ ms1.2.2.1 7 j = ms.2.2.1 7 j ∧ ms1.2.2.2 4 j = ms.2.2.2 4 j ∧ ms1.2.2.2 5 j = ms.2.2.2 5 j
/-- segments stay as they are -/
def qkG (ms ms1 : MS) : Prop := ms1.1 5 = ms.1 5 ∧ ms1.2.2.1 4 = ms.2.2.1 4 ∧ ms1.2.2.1 5 = ms.2.2.1 5
theorem qkI.tr {n : Nat} {I I1 I2 : Nat → Int32} (h : qkI n I I1) (h1 : qkI n I1 I2) : qkI n I I2 := fun k a b c d e f => (h1 k a b c d e f).trans (h k a b c d e f)
theorem qkI.dn {n m : Nat} {I I1 : Nat → Int32} (h : qkI n I I1) (hm : m ≤ n) : qkI m I I1 := fun k a b c d e f => h k a b c d e (by omega)
theorem qkR.tr {n : Nat} {R R1 R2 : Nat → Option Nat} (h : qkR n R R1) (h1 : qkR n R1 R2) : qkR n R R2 := fun k a => (h1 k a).trans (h k a)
theorem qkR.dn {n m : Nat} {R R1 : Nat → Option Nat} (h : qkR n R R1) (hm : m ≤ n) : qkR m R R1 := fun k a => h k (by omega)
theorem qkR.rf (n : Nat) (R : Nat → Option Nat) : qkR n R R := fun _ _ => rfl
theorem qkM.tr {n : Nat} {a b c : MS} (h : qkM n a b) (h1 : qkM n b c) : qkM n a c := ⟨fun k x y z w => (h1.1 k x y z w).trans (h.1 k x y z w), fun k x y z w => (h1.2.1 k x y z w).trans (h.2.1 k x y z w), fun k x y => (h1.2.2.1 k x y).trans (h.2.2.1 k x y), fun j hj => ⟨(h1.2.2.2 j hj).1.trans (h.2.2.2 j hj).1, (h1.2.2.2 j hj).2.1.trans (h.2.2.2 j hj).2.1, (h1.2.2.2 j hj).2.2.1.trans (h.2.2.2 j hj).2.2.1, (h1.2.2.2 j hj).2.2.2.trans (h.2.2.2 j hj).2.2.2⟩⟩
theorem qkM.dn {n m : Nat} {a b : MS} (h : qkM n a b) (hm : m ≤ n) : qkM m a b := ⟨h.1, h.2.1, h.2.2.1, fun j hj => h.2.2.2 j (by omega)⟩
theorem qkG.tr {a b c : MS} (h : qkG a b) (h1 : qkG b c) : qkG a c := ⟨h1.1.trans h.1, h1.2.1.trans h.2.1, h1.2.2.trans h.2.2⟩
theorem kI.q {I I1 : Nat → Int32} (h : kI I I1) (n : Nat) : qkI n I I1 := fun k a b _ d e _ => h k a b d e
theorem kM.q {a b : MS} (h : kM a b) (n : Nat) : qkM n a b := ⟨fun k x y _ _ => h.1 k x y, fun k _ _ _ _ => by rw [h.2.1], fun k _ _ => by rw [h.2.2], fun j _ => ⟨by rw [h.2.1], by rw [h.2.1], by rw [h.2.2], by rw [h.2.2]⟩⟩
theorem kM.g {a b : MS} (h : kM a b) : qkG a b := ⟨h.1 5 (by decide) (by decide), by rw [h.2.1], by rw [h.2.1]⟩
section SEL2
variable {Zd : Nat → Nat} {K : KE} {st : CS} {ms : MS} {q : Nat → Nat} {cw : Nat} {I : Nat → Int32} {A : Nat → Nat → Int32} {R : Nat → Option Nat} {Q : Nat → Nat → Option Nat}
/-- what reading a selector comes to -/
def SR (Zd : Nat → Nat) (K : KE) (st : CS) (q : Nat → Nat) (cw : Nat) (I : Nat → Int32) (A : Nat → Nat → Int32) (R : Nat → Option Nat) (Q : Nat → Nat → Option Nat) (ms : MS) (n : Nat) (op dp : Int32) (cv : Option CS) (mv : Option MS) : Prop :=
  ∃ st1 I1 A1 R1 ms1, cv = some st1 ∧ mv = some ms1 ∧ Cx K st1 q cw I1 A1 R1 Q ∧ le K st st1 ∧ Wq I1 A1 ∧ kA A A1 ∧ qkI n I I1 ∧ qkR n R R1 ∧ qkM n ms ms1 ∧ qkG ms ms1 ∧
    ((n < 8 ∧ st1.1.1 ≤ st.1.1 + 2 ∧ st1.1.2 ≤ st.1.2 + 14 ∧ I1 4 = ms1.1 6 ∧ (I1 4).toInt = n + 1 ∧ I1 (100 + 4 * n) = op ∧ I1 (101 + 4 * n) = dp ∧ ((Tq I1 A1 ms1 ∧ SO K st1 I1 R1 ms1 n) ∨ Pn I1 A1 ms1)) ∨ (Fq I1 ms1 ∧ st1.1.1 ≤ st.1.1 + 2 * (8 - n) ∧ st1.1.2 ≤ st.1.2 + 14 * (8 - n)))
theorem full_lock (h : Cx K st q cw I A R Q) (hT : Tq I A ms) (hW : Wq I A) (op dp : Int32) (n : Nat) : ∃ st1, c_Text_fail Zd K (q 1) st = some st1 ∧ SR Zd K st q cw I A R Q ms n op dp (some st1) (m_fault ms) := by
  have hT0 := hT
  obtain ⟨t1, t2, t3, t4, t5, t6, t7, t8⟩ := hT
  obtain ⟨s1, f1, f2, f3⟩ := c_fail1 (Zd := Zd) h t4
  exact ⟨s1, f1, s1, upd I 2 (I 1), A, R, _, rfl, m_fault1 hT0, f2, f3.1, ⟨hW.1, hW.2⟩, fun _ _ => rfl, (kI.f _ _).q n, qkR.rf n R, (kM.f ms (I 1) _).q n, (kM.f ms (I 1) _).g, Or.inr ⟨⟨t6, by show (I 1).toInt ≤ 80; omega, rfl, t6⟩, by rw [f3.2]; omega, by rw [f3.2]; omega⟩⟩
/-- the selector made and its two marks -/
theorem made (h : Cx K st q cw I A R Q) (hT : Tq I A ms) (hW : Wq I A) {n : Nat} (hn : (I 4).toInt = n) (h8 : n < 8) {op dp : Int32} (ho : op = 0 ∨ op = 1) (hd : dp = 0 ∨ dp = 1) : ∃ s1 I1, c_Query_nextSelector Zd K (q 4) op dp st = some (some (q (200 + n)), s1) ∧ Cx K s1 q cw I1 A R Q ∧ stp K st s1 ∧ Tq I1 A ms ∧ Wq I1 A ∧ qkI n I I1 ∧ I1 4 = I 4 + 1 ∧ I1 (100 + 4 * n) = op ∧ I1 (101 + 4 * n) = dp ∧ I1 0 = I 0 ∧ I1 1 = I 1 ∧ I1 2 = I 2 := by
  obtain ⟨s1, e1, e2, e3⟩ := next_sel (Zd := Zd) h hn h8 ho hd
  have hk : ∀ k, k < 18 → k ≠ 4 → (upd (upd (upd I 4 (I 4 + 1)) (100 + 4 * n) op) (101 + 4 * n) dp) k = I k := fun k a b => (upd_ne (by omega)).trans ((upd_ne (by omega)).trans (upd_ne b))
  refine ⟨s1, _, e1, e2, e3, ?_, ?_, ?_, ?_, ?_, upd_self, hk 0 (by decide) (by decide), hk 1 (by decide) (by decide), hk 2 (by decide) (by decide)⟩
  · unfold Tq
    rw [hk 0 (by decide) (by decide), hk 1 (by decide) (by decide), hk 2 (by decide) (by decide)]
    exact hT
  · unfold Wq
    rw [hk 15 (by decide) (by decide)]
    exact hW
  · intro k a b c d e f
    exact (upd_ne (by omega)).trans ((upd_ne (by omega)).trans (upd_ne c))
  · rw [upd_ne (by omega), upd_ne (by omega), upd_self]
  · rw [upd_ne (by omega), upd_self]
theorem okS_q {ds : List Int32} (h1 : okC ds) (h2 : ds.length ≤ 10) : okS (ds.map i2b) := okS_i2b h2
theorem sel_lock (h : Cx K st q cw I A R Q) (hT : Tq I A ms) (hW : Wq I A) {n : Nat} (h4 : I 4 = ms.1 6) (hn : (I 4).toInt = n) (h8 : n ≤ 8) {op dp : Int32} (ho : op = 0 ∨ op = 1) (hd : dp = 0 ∨ dp = 1) (z6 : st.1.1 + 2 * (8 - n) ≤ Zd 6) (z7 : st.1.2 + 14 * (8 - n) ≤ Zd 7) : SR Zd K st q cw I A R Q ms n op dp (c_Query_bracketSelector Zd K (q 4) (some (q 1)) op dp st) (m_selector ms) := by
  have N := nums
  have h10 : ¬ ((1 : Int32) = 0) := by decide
  by_cases h88 : n = 8
  · obtain ⟨s1, f1, f2⟩ := full_lock (Zd := Zd) h hT hW op dp n
    have e8 : ms.1 6 = 8 := by rw [← h4]; exact i32eq (by omega)
    have hlt : ¬ I 4 < 8 := fun e => by have := i32lt.mp e; omega
    have hc : c_Query_bracketSelector Zd K (q 4) (some (q 1)) op dp st = some s1 := by
      simp only [c_Query_bracketSelector, fg_4_1 h.1, Option.bind_some, hlt, if_false, fo_1 h.1, f1]
    have hm : m_selector ms = m_fault ms := by
      simp only [m_selector, e8, if_true]
      cases m_fault ms <;> rfl
    rw [hc, hm]
    exact f2
  have hn8 : n < 8 := by omega
  have hlt : I 4 < 8 := i32lt.mpr (by omega)
  have e8 : ¬ ms.1 6 = 8 := fun e => by rw [← h4] at e; rw [e] at hn; omega
  have hin : vp_in (ms.1 6) 8 := by rw [← h4]; exact vp_of (by omega) (by omega)
  have tn : (ms.1 6).toNatClampNeg = n := by rw [← h4, tnn]; omega
  have k4 : (I 4 + 1).toInt = n + 1 := by rw [i32add (by omega) (by omega)]; omega
  obtain ⟨s1, I1, e1, e2, e3, e4, e5, e6, e7, e8', e9, e10, e11, e12⟩ := made (Zd := Zd) (ms := ms) h hT hW hn hn8 ho hd
  have hs1 : s1.1.1 = st.1.1 ∧ s1.1.2 = st.1.2 := by rw [e3.2]; exact ⟨rfl, rfl⟩
  have e40 := e4
  obtain ⟨t1, t2, t3, t4, t5, t6, t7, t8⟩ := e4
  have hch := c_here (Zd := Zd) e2 t6 t8
  by_cases hq42 : chr (A 0) (I1 0) (I1 1) = 42
  · -- every one
    obtain ⟨s2, f1, f2, f3⟩ := c_take1 (Zd := Zd) e2 t6 t8 (c := 42) (by decide) hq42
    obtain ⟨s3, g1, g2, g3⟩ := sel_int f2 hn8 (o := 2) (Or.inr (Or.inr rfl)) 2
    obtain ⟨d1, d2, d3⟩ := chr_lt hq42 (by decide)
    have k1 : (I1 1 + 1).toInt = (I1 1).toInt + 1 := by rw [i32add (by omega) (by omega)]; omega
    have hms := m_sees_q e40 39
    rw [hq42, if_neg (by decide)] at hms
    have hmt := m_takes1 e40 hq42
    have hI : ∀ k, k ≠ 1 → k ≠ 100 + 2 + 4 * n → (upd (upd I1 1 (I1 1 + 1)) (100 + 2 + 4 * n) 2) k = I1 k := fun k a b => (upd_ne b).trans (upd_ne a)
    refine ⟨s3, _, A, R, (upd (upd ms.1 1 (I1 1 + 1)) 6 (upd ms.1 1 (I1 1 + 1) 6 + 1), ms.2.1, va_up ms.2.2.1 6 (upd (ms.2.2.1 6) n 1), ms.2.2.2), ?_, ?_, g2, e3.1.tr (f3.1.tr g3.1), ?_, fun _ _ => rfl, ?_, qkR.rf n R, ?_, ?_, Or.inl ⟨hn8, by rw [g3.2, f3.2]; omega, by rw [g3.2, f3.2]; omega, ?_, ?_, ?_, ?_, Or.inl ⟨?_, Or.inr (Or.inr ⟨?_, ?_⟩)⟩⟩⟩
    · simp only [c_Query_bracketSelector, fg_4_1 h.1, Option.bind_some, hlt, if_true, fo_4 h.1, e1, fo_1 e2.1, f1, h10, if_false, g1]
    · simp only [m_selector, e8, if_false, hms, Option.bind_some, if_true, hmt, h10, ix_in hin, tn]
    · exact ⟨by rw [hI 15 (by decide) (by omega)]; exact e5.1, by rw [hI 15 (by decide) (by omega)]; exact e5.2⟩
    · exact e6.tr (fun k a b c d e f => hI k a (by omega))
    · refine ⟨fun k a b c d => (upd_ne d).trans (upd_ne a), fun k a b c d => va_up_ne _ _ c, fun _ _ _ => rfl, fun j hj => ⟨?_, ?_, rfl, rfl⟩⟩
      · dsimp only
        rw [va_up_self, upd_ne (by omega)]
      · dsimp only
        rw [va_up_ne _ _ (by decide)]
    · exact ⟨rfl, rfl, rfl⟩
    · rw [hI 4 (by decide) (by omega), e7, h4]
      dsimp only
      rw [upd_self, upd_ne (by decide)]
    · rw [hI 4 (by decide) (by omega), e7, k4]
    · rw [hI _ (by omega) (by omega), e8']
    · rw [hI _ (by omega) (by omega), e9]
    · unfold Tq
      rw [hI 0 (by decide) (by omega), hI 2 (by decide) (by omega), upd_ne (show 1 ≠ 100 + 2 + 4 * n by omega), upd_self]
      exact ⟨t1, t2, rfl, t4, t5, by omega, by omega, t8⟩
    · rw [show 102 + 4 * n = 100 + 2 + 4 * n by omega, upd_self]
    · dsimp only
      rw [va_up_self, upd_self]
  · have htk := c_take0 (Zd := Zd) e2 t6 t8 hq42
    by_cases hq39 : chr (A 0) (I1 0) (I1 1) = 39
    · -- by a name
      obtain ⟨s2, g1, g2, g3⟩ := sel_int e2 hn8 (o := 2) (Or.inr (Or.inr rfl)) 0
      have hI : ∀ k, k ≠ 100 + 2 + 4 * n → (upd I1 (100 + 2 + 4 * n) 0) k = I1 k := fun k b => upd_ne b
      have hT2 : Tq (upd I1 (100 + 2 + 4 * n) 0) A ms := by
        unfold Tq
        rw [hI 0 (by omega), hI 1 (by omega), hI 2 (by omega)]
        exact e40
      have hW2 : Wq (upd I1 (100 + 2 + 4 * n) 0) A := by
        unfold Wq
        rw [hI 15 (by omega)]
        exact e5
      have hq2 : chr (A 0) (upd I1 (100 + 2 + 4 * n) 0 0) (upd I1 (100 + 2 + 4 * n) 0 1) = 39 := by rw [hI 0 (by omega), hI 1 (by omega)]; exact hq39
      have hms := m_sees_q e40 39
      rw [if_pos hq39] at hms
      have hs2 : s2.1.1 = st.1.1 ∧ s2.1.2 = st.1.2 := by rw [g3.2]; exact hs1
      have hqi : qkI n I (upd I1 (100 + 2 + 4 * n) 0) := e6.tr (fun k a b c d e f => hI k (by omega))
      rcases quo_lock (Zd := Zd) g2 hT2 hW2 hq2 (by omega) (by omega) with ⟨s3, m1, I3, A3, cs, j1, j2, j3, j4, j5, j6, j7, j8, j9, j10, j11, j12, j13, j14, j15, j16⟩ | ⟨s3, m1, I3, A3, j1, j2, j3, j4, j5, j6, j7, j8, j9⟩
      · obtain ⟨s4, w1, w2, w3⟩ := sel_name j3 hn8 (some s2.1.1)
        have hk : ∀ k, k ≠ 1 → k ≠ 2 → k ≠ 14 → k ≠ 15 → k ≠ 100 + 2 + 4 * n → I3 k = I1 k := fun k a b c d e => (j14 k a b c d).trans (hI k e)
        have hm6 : m1.1 6 = ms.1 6 := j16.1 6 (by decide) (by decide)
        refine ⟨s4, I3, A3, _, (upd m1.1 6 (m1.1 6 + 1), m1.2.1, va_up m1.2.2.1 6 (upd (m1.2.2.1 6) n 0), va_up (va_up m1.2.2.2 4 (vp_updL (m1.2.2.2 4) n (m1.2.1 0))) 5 (vp_updL (m1.2.2.2 5) n (m1.2.1 1))), ?_, ?_, w2, e3.1.tr (g3.1.tr (j4.tr w3.1)), j8, j15, hqi.tr (j14.q n), fun k a => va_up_ne _ _ (by omega), ?_, ?_, Or.inl ⟨hn8, by rw [w3.2]; omega, by rw [w3.2]; omega, ?_, ?_, ?_, ?_, Or.inl ⟨j7, Or.inl ⟨?_, ?_, s2.1.1, cs.map i2b, va_up_self _ _ _, w3.1.str j9, okS_q j10 j11, ?_⟩⟩⟩⟩
        · simp only [c_Query_bracketSelector, fg_4_1 h.1, Option.bind_some, hlt, if_true, fo_4 h.1, e1, fo_1 e2.1, htk, hch, hq39, g1, fo_1 g2.1, j1, w1]
        · simp only [m_selector, e8, if_false, hms, Option.bind_some, h10, j2, ix_in hin, tn]
        · refine (j16.q n).tr ⟨fun k a b c d => upd_ne d, fun k a b c d => va_up_ne _ _ c, fun k a b => (va_up_ne _ _ b).trans (va_up_ne _ _ a), fun j hj => ⟨?_, ?_, ?_, ?_⟩⟩
          · dsimp only
            rw [va_up_self, upd_ne (by omega)]
          · dsimp only
            rw [va_up_ne _ _ (by decide)]
          · dsimp only
            rw [va_up_ne _ _ (by decide), va_up_self, updL_ne (by omega)]
          · dsimp only
            rw [va_up_self, updL_ne (by omega)]
        · exact j16.g.tr ⟨rfl, rfl, rfl⟩
        · rw [hk 4 (by decide) (by decide) (by decide) (by decide) (by omega), e7, h4, ← hm6]
          dsimp only
          rw [upd_self]
        · rw [hk 4 (by decide) (by decide) (by decide) (by decide) (by omega), e7, k4]
        · rw [hk _ (by omega) (by omega) (by omega) (by omega) (by omega), e8']
        · rw [hk _ (by omega) (by omega) (by omega) (by omega) (by omega), e9]
        · rw [j14 _ (by omega) (by omega) (by omega) (by omega), show 102 + 4 * n = 100 + 2 + 4 * n by omega, upd_self]
        · dsimp only
          rw [va_up_self, upd_self]
        · dsimp only
          rw [va_up_ne _ _ (by decide), va_up_self, va_up_self, updL_self, updL_self, j12, enc_i2b j10]
      · obtain ⟨s4, w1, w2, w3⟩ := sel_name j3 hn8 (some (Zd 0))
        have hs4 : s4.1.1 = st.1.1 ∧ s4.1.2 = st.1.2 := by rw [w3.2, j4.2]; exact hs2
        refine ⟨s4, I3, A3, _, (upd m1.1 6 (m1.1 6 + 1), m1.2.1, va_up m1.2.2.1 6 (upd (m1.2.2.1 6) n 0), va_up (va_up m1.2.2.2 4 (vp_updL (m1.2.2.2 4) n (m1.2.1 0))) 5 (vp_updL (m1.2.2.2 5) n (m1.2.1 1))), ?_, ?_, w2, e3.1.tr (g3.1.tr (j4.1.tr w3.1)), j6, j8, hqi.tr (j7.q n), fun k a => va_up_ne _ _ (by omega), ?_, ?_, Or.inr ⟨⟨j5.1, j5.2.1, ?_, j5.2.2.2⟩, by omega, by omega⟩⟩
        · simp only [c_Query_bracketSelector, fg_4_1 h.1, Option.bind_some, hlt, if_true, fo_4 h.1, e1, fo_1 e2.1, htk, hch, hq39, g1, fo_1 g2.1, j1, w1]
        · simp only [m_selector, e8, if_false, hms, Option.bind_some, h10, j2, ix_in hin, tn]
        · refine (j9.q n).tr ⟨fun k a b c d => upd_ne d, fun k a b c d => va_up_ne _ _ c, fun k a b => (va_up_ne _ _ b).trans (va_up_ne _ _ a), fun j hj => ⟨?_, ?_, ?_, ?_⟩⟩
          · dsimp only
            rw [va_up_self, upd_ne (by omega)]
          · dsimp only
            rw [va_up_ne _ _ (by decide)]
          · dsimp only
            rw [va_up_ne _ _ (by decide), va_up_self, updL_ne (by omega)]
          · dsimp only
            rw [va_up_self, updL_ne (by omega)]
        · exact j9.g.tr ⟨rfl, rfl, rfl⟩
        · dsimp only
          rw [upd_ne (by decide)]
          exact j5.2.2.1
    · -- by a number
      obtain ⟨s2, g1, g2, g3⟩ := sel_int e2 hn8 (o := 2) (Or.inr (Or.inr rfl)) 1
      have hI : ∀ k, k ≠ 100 + 2 + 4 * n → (upd I1 (100 + 2 + 4 * n) 1) k = I1 k := fun k b => upd_ne b
      have hms := m_sees_q e40 39
      rw [if_neg hq39] at hms
      have hmt := m_takes0 e40 hq42
      have hid : upd ms.1 1 (I1 1) = ms.1 := upd_id t3.symm
      rw [hid] at hmt
      have hT2 : Tq (upd I1 (100 + 2 + 4 * n) 1) A (ms.1, ms.2.1, va_up ms.2.2.1 6 (upd (ms.2.2.1 6) n 2), ms.2.2.2) := by
        unfold Tq
        rw [hI 0 (by omega), hI 1 (by omega), hI 2 (by omega)]
        exact ⟨by dsimp only; rw [va_up_ne _ _ (by decide)]; exact t1, t2, t3, t4, t5, t6, t7, t8⟩
      have hW2 : Wq (upd I1 (100 + 2 + 4 * n) 1) A := by
        unfold Wq
        rw [hI 15 (by omega)]
        exact e5
      have hs2 : s2.1.1 = st.1.1 ∧ s2.1.2 = st.1.2 := by rw [g3.2]; exact hs1
      have hqi : qkI n I (upd I1 (100 + 2 + 4 * n) 1) := e6.tr (fun k a b c d e f => hI k (by omega))
      obtain ⟨v, v2, s3, I3, m1, j1, j2, j3, j4, j5, j6, j7, j8⟩ := qnum_lock (Zd := Zd) g2 hT2
      obtain ⟨s4, w1, w2, w3⟩ := sel_num j3 hn8 v
      have hs4 : s4.1.1 = st.1.1 ∧ s4.1.2 = st.1.2 := by rw [w3.2, j4.2]; exact hs2
      have hk3 : ∀ k, k ≠ 103 + 4 * n → upd I3 (103 + 4 * n) v k = I3 k := fun k a => upd_ne a
      have hk : ∀ k, k ≠ 1 → k ≠ 2 → k ≠ 14 → k ≠ 15 → k ≠ 100 + 2 + 4 * n → k ≠ 103 + 4 * n → upd I3 (103 + 4 * n) v k = I1 k := fun k a b c d e f => (hk3 k f).trans ((j5 k a b c d).trans (hI k e))
      have hm6 : m1.1 6 = ms.1 6 := j7.1 6 (by decide) (by decide)
      have hcs : c_Query_bracketSelector Zd K (q 4) (some (q 1)) op dp st = some s4 := by
        simp only [c_Query_bracketSelector, fg_4_1 h.1, Option.bind_some, hlt, if_true, fo_4 h.1, e1, fo_1 e2.1, htk, hch, hq39, if_false, g1, j1, w1]
      have hmm : m_selector ms = some (upd m1.1 6 (m1.1 6 + 1), m1.2.1, va_up m1.2.2.1 7 (upd (m1.2.2.1 7) n v2), m1.2.2.2) := by
        simp only [m_selector, e8, if_false, hms, Option.bind_some, if_true, hmt, ix_in hin, tn, j2]
      have hqm : qkM n ms (upd m1.1 6 (m1.1 6 + 1), m1.2.1, va_up m1.2.2.1 7 (upd (m1.2.2.1 7) n v2), m1.2.2.2) := by
        have h1 : qkM n ms (ms.1, ms.2.1, va_up ms.2.2.1 6 (upd (ms.2.2.1 6) n 2), ms.2.2.2) := ⟨fun _ _ _ _ _ => rfl, fun k a b c d => va_up_ne _ _ c, fun _ _ _ => rfl, fun j hj => ⟨by
          dsimp only
          rw [va_up_self, upd_ne (by omega)], by
          dsimp only
          rw [va_up_ne _ _ (by decide)], rfl, rfl⟩⟩
        refine h1.tr ((j7.q n).tr ⟨fun k a b c d => upd_ne d, fun k a b c d => va_up_ne _ _ d, fun _ _ _ => rfl, fun j hj => ⟨?_, ?_, rfl, rfl⟩⟩)
        · dsimp only
          rw [va_up_ne _ _ (by decide)]
        · dsimp only
          rw [va_up_self, upd_ne (by omega)]
      have hqg : qkG ms (upd m1.1 6 (m1.1 6 + 1), m1.2.1, va_up m1.2.2.1 7 (upd (m1.2.2.1 7) n v2), m1.2.2.2) := by
        have h1 : qkG ms (ms.1, ms.2.1, va_up ms.2.2.1 6 (upd (ms.2.2.1 6) n 2), ms.2.2.2) := ⟨rfl, rfl, rfl⟩
        exact h1.tr (j7.g.tr ⟨rfl, rfl, rfl⟩)
      have hW3 : Wq (upd I3 (103 + 4 * n) v) A := by
        unfold Wq
        rw [hk3 15 (by omega), j6]
        exact hW2
      have hqI3 : qkI n I (upd I3 (103 + 4 * n) v) := (hqi.tr (j5.q n)).tr (fun k a b c d e f => hk3 k (by omega))
      have h61 : m1.2.2.1 6 n = 2 := by
        rw [j7.2.1]
        dsimp only
        rw [va_up_self, upd_self]
      refine ⟨s4, _, A, R, _, hcs, hmm, w2, e3.1.tr (g3.1.tr (j4.1.tr w3.1)), hW3, fun _ _ => rfl, hqI3, qkR.rf n R, hqm, hqg, ?_⟩
      have com : upd I3 (103 + 4 * n) v 4 = upd m1.1 6 (m1.1 6 + 1) 6 ∧ (upd I3 (103 + 4 * n) v 4).toInt = n + 1 ∧ upd I3 (103 + 4 * n) v (100 + 4 * n) = op ∧ upd I3 (103 + 4 * n) v (101 + 4 * n) = dp := by
        rw [hk 4 (by decide) (by decide) (by decide) (by decide) (by omega) (by omega), hk _ (by omega) (by omega) (by omega) (by omega) (by omega) (by omega), hk _ (by omega) (by omega) (by omega) (by omega) (by omega) (by omega), e7, e8', e9, upd_self, hm6, h4]
        exact ⟨rfl, by rw [← h4]; exact k4, rfl, rfl⟩
      obtain ⟨c1, c2, c3, c4⟩ := com
      rcases j8 with ⟨j8, rfl, j10, j11⟩ | j8 | j8
      · left
        refine ⟨hn8, by omega, by omega, c1, c2, c3, c4, Or.inl ⟨?_, Or.inr (Or.inl ⟨?_, ?_, ?_, ?_, ?_⟩)⟩⟩
        · obtain ⟨y1, y2, y3, y4, y5, y6, y7, y8⟩ := j8
          unfold Tq
          rw [hk3 0 (by omega), hk3 1 (by omega), hk3 2 (by omega)]
          exact ⟨by dsimp only; rw [va_up_ne _ _ (by decide)]; exact y1, y2, y3, y4, y5, y6, y7, y8⟩
        · rw [hk3 _ (by omega), j5 _ (by omega) (by omega) (by omega) (by omega), show 102 + 4 * n = 100 + 2 + 4 * n by omega, upd_self]
        · dsimp only
          rw [va_up_ne _ _ (by decide)]; exact h61
        · rw [upd_self]
          dsimp only
          rw [va_up_self, upd_self]
        · rw [upd_self]; exact j10
        · rw [upd_self]; exact j11
      · left
        refine ⟨hn8, by omega, by omega, c1, c2, c3, c4, Or.inr ?_⟩
        obtain ⟨y1, y2, y3, y4⟩ := j8
        unfold Pn
        rw [hk3 0 (by omega), hk3 1 (by omega), hk3 2 (by omega)]
        exact ⟨y1, y2, y3, y4⟩
      · right
        refine ⟨?_, by omega, by omega⟩
        obtain ⟨y1, y2, y3, y4⟩ := j8
        unfold Fq
        rw [hk3 1 (by omega), hk3 2 (by omega)]
        exact ⟨y1, y2, y3, y4⟩
end SEL2
