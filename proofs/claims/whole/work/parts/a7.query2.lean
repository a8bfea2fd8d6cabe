/-! Queries: a query at a document, at all of them; class and model. -/
section QUERY2
variable {Zd : Nat → Nat} {K : KE} {q : Nat → Nat} {cw : Nat} {R : Nat → Option Nat}
theorem SO.kq {st st1 : CS} {I I1 : Nat → Int32} {A A1 : Nat → Nat → Int32} {Q Q1 : Nat → Nat → Option Nat} {ms ms1 : MS} {j : Nat} (h : SO K st I R ms j) (hf : KQ K st q cw I A R Q ms st1 I1 A1 Q1 ms1) : SO K st1 I1 R ms1 j := by
  obtain ⟨-, hl, -, -, hi, -, -, -, -, ha, hb, -⟩ := hf
  unfold SO
  rw [hi (102 + 4 * j) (by omega) (by omega) (by omega) (by omega), hi (103 + 4 * j) (by omega) (by omega) (by omega) (by omega), ha 6 (by decide) (by decide) (by decide) (by decide) (by decide), ha 7 (by decide) (by decide) (by decide) (by decide) (by decide), hb 4 (by decide), hb 5 (by decide)]
  rcases h with ⟨a1, a2, a, cs, a3, a4, a5⟩ | h
  · exact Or.inl ⟨a1, a2, a, cs, a3, hl.str a4, a5⟩
  · exact Or.inr h
theorem QS.kq {st st1 : CS} {I I1 : Nat → Int32} {A A1 : Nat → Nat → Int32} {Q Q1 : Nat → Nat → Option Nat} {ms ms1 : MS} {g n : Nat} {E : Nat → Nat} (h : QS K st I R ms g n E) (hf : KQ K st q cw I A R Q ms st1 I1 A1 Q1 ms1) : QS K st1 I1 R ms1 g n E := by
  obtain ⟨h1, h2, h3, h4⟩ := h
  have hf0 := hf
  obtain ⟨-, hl, -, -, hi, -, -, hm, -, ha, hb, -⟩ := hf
  refine ⟨h1, h2, by rw [hm 5 (by decide) (by decide) (by decide) (by decide)]; exact h3, fun i hg => ?_⟩
  obtain ⟨g1, g2, g3⟩ := h4 i hg
  rw [ha 5 (by decide) (by decide) (by decide) (by decide) (by decide), ha 4 (by decide) (by decide) (by decide) (by decide) (by decide)]
  refine ⟨g1, g2, fun j x1 x2 => ?_⟩
  obtain ⟨y1, y2, y3⟩ := g3 j x1 x2
  exact ⟨y1.kq hf0, by rw [hi _ (by omega) (by omega) (by omega) (by omega)]; exact y2, fun e => by rw [hi _ (by omega) (by omega) (by omega) (by omega)]; exact y3 e⟩
theorem WK.kq {st st1 : CS} {I I1 : Nat → Int32} {A : Nat → Nat → Int32} {Q Q1 : Nat → Nat → Option Nat} {ms ms1 : MS} (h : WK Zd K st q cw I A R Q ms st1 I1 Q1 ms1) : KQ K st q cw I A R Q ms st1 I1 A Q1 ms1 := by
  obtain ⟨a1, a2, a3, a4, a5, a6, a7, a8, a9, a10, a11⟩ := h
  exact ⟨a1, a2, a3, a5, fun k _ y z w => a6 k y z w, fun _ _ => rfl, fun k _ y z => a7 k y z, fun k x y z _ => a8 k x y z, a9, fun k _ _ x y _ => a10 k x y, fun k _ => by rw [a11], fun j _ => ⟨by rw [a10 1 (by decide) (by decide)], by rw [a10 2 (by decide) (by decide)], fun k _ => by rw [a11]⟩⟩
theorem Rv.kq {st st1 : CS} {I I1 : Nat → Int32} {A A1 : Nat → Nat → Int32} {Q Q1 : Nat → Nat → Option Nat} {ms ms2 : MS} (h : Rv Zd K st ms q cw I A R Q) (hf : KQ K st q cw I A R Q ms st1 I1 A1 Q1 ms2) (hr : Rr Zd K st1 I1 A1 Q1 ms2) : Rv Zd K st1 ms2 q cw I1 A1 R Q1 := by
  obtain ⟨hF, hw, ⟨t1, t2, t3, t4⟩, ⟨⟨s1, s2, s3⟩, ⟨s4, s5, s6⟩, ⟨s7, s8, s9, s10⟩, s11, s12, s13⟩, hP, hk, hd, -, ⟨o1, o2, o3, o4, o5, o6, o7⟩, ⟨w1, w2, w3, w4, w5⟩, hz⟩ := h
  obtain ⟨hC, hl, -, -, hi, hA, hQ, hm, -, ha, hb, hlow⟩ := hf
  have i : ∀ k, k ≠ 5 ∧ k ≠ 6 ∧ k ≠ 7 ∧ k ≠ 8 → I1 k = I k := fun k h9 => hi k h9.1 h9.2.1 h9.2.2.1 h9.2.2.2
  have m : ∀ k, k ≠ 7 ∧ k ≠ 8 ∧ k ≠ 9 ∧ k ≠ 10 → ms2.1 k = ms.1 k := fun k h9 => hm k h9.1 h9.2.1 h9.2.2.1 h9.2.2.2
  have a : ∀ k, k ≠ 1 ∧ k ≠ 2 ∧ k ≠ 8 ∧ k ≠ 9 ∧ k ≠ 10 → ms2.2.2.1 k = ms.2.2.1 k := fun k h9 => ha k h9.1 h9.2.1 h9.2.2.1 h9.2.2.2.1 h9.2.2.2.2
  have e12 := a 12 (by decide)
  have e13 := a 13 (by decide)
  have e14 := a 14 (by decide)
  have e15 := a 15 (by decide)
  have e16 := a 16 (by decide)
  have e17 := a 17 (by decide)
  have e18 := a 18 (by decide)
  refine ⟨hC.1, hC.2.1, ⟨?_, ?_, ?_, ?_⟩, ⟨⟨?_, ?_, ?_⟩, ⟨?_, ?_, ?_⟩, ⟨?_, ?_, ?_, ?_⟩, ?_, ?_, ?_⟩, ?_, ?_, ?_, hr, ⟨?_, ?_, ?_, ?_, o5, o6, ?_⟩, ⟨?_, ?_, ?_, ?_, ?_⟩, hC.2.2⟩
  · rw [hA 0 (by decide), a 0 (by decide)]; exact t1
  · rw [i 0 (by decide), m 0 (by decide)]; exact t2
  · rw [i 0 (by decide)]; exact t3
  · rw [i 0 (by decide)]; exact t4
  · rw [i 9 (by decide), m 14 (by decide)]; exact s1
  · rw [i 10 (by decide), m 12 (by decide)]; exact s2
  · rw [i 11 (by decide), m 13 (by decide)]; exact s3
  · rw [i 11 (by decide)]; exact s4
  · rw [i 10 (by decide)]; exact s5
  · rw [i 10 (by decide)]; exact s6
  · rw [hA 2 (by decide), e16]; exact s7
  · rw [hA 3 (by decide), e15]; exact s8
  · rw [hA 4 (by decide), e17]; exact s9
  · rw [hA 5 (by decide), e18]; exact s10
  · rw [hA 4 (by decide)]; exact s11
  · rw [hA 3 (by decide)]; exact s12
  · rw [hA 5 (by decide)]; exact s13
  · intro j hj h9 hh9
    rw [hA (10 + j) (by omega), e13]
    exact hP j hj h9 hh9
  · unfold Rk isRoot
    rw [e12, e13, e14, e15, e17, e18]
    exact hk
  · intro j hj i9 hi9
    rw [e14, hQ (10 + j) (by omega) (by omega) (by omega)]
    have := (hd j hj i9 hi9).le hl
    cases hq : Q (10 + j) i9 with
    | none => rw [hq] at this; exact this
    | some p =>
      rw [hq] at this
      obtain ⟨h1, L, h2, h3, h4⟩ := this
      exact ⟨h1, L, h2, h3.lowR hlow (by omega), h4⟩
  · rw [i 13 (by decide), m 11 (by decide)]; exact o1
  · rw [i 13 (by decide)]; exact o2
  · rw [i 13 (by decide)]; exact o3
  · rw [i 13 (by decide)]; exact o4
  · rw [i 13 (by decide), hA 6 (by decide), a 11 (by decide)]; exact o7
  · rw [i 15 (by decide)]; exact w1
  · rw [i 15 (by decide)]; exact w2
  · rw [i 17 (by decide)]; exact w3
  · rw [i 17 (by decide)]; exact w4
  · intro j
    rw [hA 6 (by decide), hA 7 (by decide), hA 8 (by decide)]
    exact w5 j
/-- what reading a query leaves as it was -/
theorem Rv.qr {st st1 : CS} {I I1 : Nat → Int32} {A A1 : Nat → Nat → Int32} {R1 : Nat → Option Nat} {Q : Nat → Nat → Option Nat} {ms ms2 : MS} (h : Rv Zd K st ms q cw I A R Q) (hC : Cx K st1 q cw I1 A1 R1 Q) (hl : le K st st1) (hW : Wq I1 A1) (hA : kA A A1) (h0 : I1 0 = 0) (h5 : I1 5 = 0) (hi : ∀ k, k = 9 ∨ k = 10 ∨ k = 11 ∨ k = 13 ∨ k = 17 → I1 k = I k) (m0 : ms2.1 0 = 0) (m10 : ms2.1 10 = 0) (hm : ∀ k, k = 11 ∨ k = 12 ∨ k = 13 ∨ k = 14 → ms2.1 k = ms.1 k) (ha : ∀ k, k = 0 ∨ 8 ≤ k → ms2.2.2.1 k = ms.2.2.1 k) (hs : sr ms ms2) : Rv Zd K st1 ms2 q cw I1 A1 R1 Q := by
  obtain ⟨hF, hw, ⟨t1, t2, t3, t4⟩, ⟨⟨s1, s2, s3⟩, ⟨s4, s5, s6⟩, ⟨s7, s8, s9, s10⟩, s11, s12, s13⟩, hP, hk, hd, -, ⟨o1, o2, o3, o4, o5, o6, o7⟩, ⟨w1, w2, w3, w4, w5⟩, hz⟩ := h
  have N := nums
  have e12 := ha 12 (by decide)
  have e13 := ha 13 (by decide)
  have e14 := ha 14 (by decide)
  have e15 := ha 15 (by decide)
  have e16 := ha 16 (by decide)
  have e17 := ha 17 (by decide)
  have e18 := ha 18 (by decide)
  refine ⟨hC.1, hC.2.1, ⟨?_, ?_, ?_, ?_⟩, ⟨⟨?_, ?_, ?_⟩, ⟨?_, ?_, ?_⟩, ⟨?_, ?_, ?_, ?_⟩, ?_, ?_, ?_⟩, ?_, ?_, ?_, ⟨?_, ?_, ?_, ?_⟩, ⟨?_, ?_, ?_, ?_, o5, o6, ?_⟩, ⟨hW.1, hW.2.1, ?_, ?_, ?_⟩, hC.2.2⟩
  · rw [hA 0 (by decide), ha 0 (by decide)]; exact t1
  · rw [h0, m0]
  · rw [h0]; decide
  · rw [h0]; decide
  · rw [hi 9 (by decide), hm 14 (by decide)]; exact s1
  · rw [hi 10 (by decide), hm 12 (by decide)]; exact s2
  · rw [hi 11 (by decide), hm 13 (by decide)]; exact s3
  · rw [hi 11 (by decide)]; exact s4
  · rw [hi 10 (by decide)]; exact s5
  · rw [hi 10 (by decide)]; exact s6
  · rw [hA 2 (by decide), e16]; exact s7
  · rw [hA 3 (by decide), e15]; exact s8
  · rw [hA 4 (by decide), e17]; exact s9
  · rw [hA 5 (by decide), e18]; exact s10
  · rw [hA 4 (by decide)]; exact s11
  · rw [hA 3 (by decide)]; exact s12
  · rw [hA 5 (by decide)]; exact s13
  · intro j hj h9 hh9
    rw [hA (10 + j) (by omega), e13]
    exact hP j hj h9 hh9
  · unfold Rk isRoot
    rw [e12, e13, e14, e15, e17, e18]
    exact hk
  · exact hd.mono hl hs e14
  · rw [h5, m10]
  · rw [h5]; decide
  · rw [h5]; decide
  · intro j hj
    rw [h5, N.1] at hj
    omega
  · rw [hi 13 (by decide), hm 11 (by decide)]; exact o1
  · rw [hi 13 (by decide)]; exact o2
  · rw [hi 13 (by decide)]; exact o3
  · rw [hi 13 (by decide)]; exact o4
  · rw [hi 13 (by decide), hA 6 (by decide), ha 11 (by decide)]; exact o7
  · rw [hi 17 (by decide)]; exact w3
  · rw [hi 17 (by decide)]; exact w4
  · intro j
    rw [hA 6 (by decide), hA 8 (by decide)]
    exact ⟨(w5 j).1, hW.2.2 j, (w5 j).2.2⟩
theorem as_stop {st : CS} {I : Nat → Int32} {A : Nat → Nat → Int32} {Q : Nat → Nat → Option Nat} (h : Cx K st q cw I A R Q) (h8 : I 8 = 1) (c : Int32) : ∀ f, 0 < f → c_Finder_ask_l1 Zd K (q 5) (some (q 4)) f (c, st) = some (c, st) := by
  intro f hf
  obtain ⟨f, rfl⟩ : ∃ f9, f = f9 + 1 := ⟨f - 1, by omega⟩
  have g87 : gI K st (q 5) 8 7 = some 1 := by rw [fg_5_7 h.1, h8]
  rw [c_Finder_ask_l1_s]
  by_cases e : I 4 ≤ c
  · simp only [Option.bind_some, fg_4_1 h.1, e, if_true]
  · simp only [Option.bind_some, fg_4_1 h.1, e, if_false, g87, show ¬ ((1 : Int32) = 0) from by decide]
theorem kp_stop {st : CS} {I : Nat → Int32} {A : Nat → Nat → Int32} {Q : Nat → Nat → Option Nat} (h : Cx K st q cw I A R Q) (h8 : I 8 = 1) (id c : Int32) : ∀ f, 0 < f → c_Finder_ask_l2 Zd K (q 5) id f (c, st) = some (c, st) := by
  intro f hf
  obtain ⟨f, rfl⟩ : ∃ f9, f = f9 + 1 := ⟨f - 1, by omega⟩
  have g87 : gI K st (q 5) 8 7 = some 1 := by rw [fg_5_7 h.1, h8]
  rw [c_Finder_ask_l2_s]
  by_cases e : I 6 ≤ c
  · simp only [Option.bind_some, fg_5_5 h.1, e, if_true]
  · simp only [Option.bind_some, fg_5_5 h.1, e, if_false, g87, show ¬ ((1 : Int32) = 0) from by decide]
/-- a query at one document -/
theorem ask_lock (hk : kc Zd K) {st : CS} {ms : MS} {I : Nat → Int32} {A : Nat → Nat → Int32} {Q : Nat → Nat → Option Nat} (h : Rv Zd K st ms q cw I A R Q) (h8 : I 8 = ms.1 9) (h8b : I 8 = 0 ∨ I 8 = 1) {g n : Nat} {E : Nat → Nat} (hn8 : n ≤ 8) (hn : (I 4).toInt = n) (hQ : QS K st I R ms g n E) {a w : Nat} (hw : w < 48) (hd : docIs Zd K st ms (24 * w) (some a) 1) {r : Int32} (hr : r.toInt = w) (id : Int32) : ∃ st1 I1 A1 Q1 ms1, c_Finder_ask Zd K (q 5) (some (q 4)) (some a) id st = some st1 ∧ (I 8 = 0 → m_ask r id ms = some ms1) ∧ (I 8 = 1 → ms1 = ms) ∧ KQ K st q cw I A R Q ms st1 I1 A1 Q1 ms1 ∧ Rr Zd K st1 I1 A1 Q1 ms1 := by
  have N := nums
  have h10 : ¬ ((1 : Int32) = 0) := by decide
  have hC := h.cx
  have hrr : Rr Zd K st I A Q ms := h.2.2.2.2.2.2.2.1
  obtain ⟨-, L, y1, y2, y3⟩ := hd
  have hin0 : vp_in (0 : Int32) 32 := vp_of (by decide) (by decide)
  have t0 : (0 : Int32).toNatClampNeg = 0 := by decide
  have hob : ∀ b9, some a = some b9 → ∃ fs, ob1 st b9 11 fs := fun b9 e => by cases e; exact tree_ob hk.2.2 y1
  obtain ⟨s1, e1, e2, hF1⟩ := fa_14 hC.1 hin0 (some a) hob
  rw [t0] at e2 hF1
  have hm14 := hC.1.fl (i := 14) rfl
  have l1 : le K st s1 := by rw [e2]; exact nb_le hC.2.2 hm14.1 hm14.2 rfl
  have z1 : Rz K s1 q := by rw [e2]; exact nb_Rz hC.2.2 hm14.1 hm14.2 rfl rfl
  obtain ⟨s2, f1, f2, hF2⟩ := fw_5_5 hF1 1
  have hm5 := hF1.fl (i := 5) rfl
  have l2 : le K st s2 := l1.tr (by rw [f2]; exact nb_le z1 hm5.1 hm5.2 rfl)
  have c2 : Cx K s2 q cw (upd I 6 1) A R (va_up Q 2 (va_up (Q 2) 0 (some a))) := ⟨hF2, by rw [f2, e2]; exact hC.2.1, by rw [f2]; exact nb_Rz z1 hm5.1 hm5.2 rfl rfl⟩
  have hst2 : s2.1 = st.1 := by rw [f2, e2]; rfl
  rcases h8b with h80 | h81
  · obtain ⟨x, m1, m2⟩ := at_row (r := r) (by omega) (by omega)
    have hsr : sr ms (upd ms.1 7 1, ms.2.1, va_up ms.2.2.1 8 (upd (ms.2.2.1 8) 0 x), ms.2.2.2) := ⟨by dsimp only; rw [va_up_ne _ _ (by decide)], by dsimp only; rw [va_up_ne _ _ (by decide)], rfl, rfl, rfl, rfl⟩
    have hKQ : KQ K st q cw I A R Q ms s2 (upd I 6 1) A (va_up Q 2 (va_up (Q 2) 0 (some a))) (upd ms.1 7 1, ms.2.1, va_up ms.2.2.1 8 (upd (ms.2.2.1 8) 0 x), ms.2.2.2) := ⟨c2, l2, hst2, ⟨h8, Or.inl h80⟩, fun k _ y _ _ => upd_ne y, fun _ _ => rfl, fun k _ y _ => va_up_ne _ _ y, fun k y _ _ _ => upd_ne y, rfl, fun k _ _ y _ _ => va_up_ne _ _ y, fun _ _ => rfl, lowR.sr hsr⟩
    have hRR : RR Zd K s2 (upd I 6 1) (va_up Q 2 (va_up (Q 2) 0 (some a))) (upd ms.1 7 1, ms.2.1, va_up ms.2.2.1 8 (upd (ms.2.2.1 8) 0 x), ms.2.2.2) := by
      refine ⟨rfl, by show 0 ≤ (1 : Int32).toInt; decide, by show (1 : Int32).toInt ≤ 32; decide, fun i hi => ?_⟩
      have hi : (i : Int) < (1 : Int32).toInt := hi
      rw [N.2.1] at hi
      have hi0 : i = 0 := by omega
      subst hi0
      refine ⟨a, 24 * w, 5, L, by rw [va_up_self, va_up_self], ?_, by decide, l2.tree 5 a L y1, y2.same hsr, y3, by omega⟩
      dsimp only
      rw [va_up_self, upd_self, m2, hr]
      omega
    have hQ2 := hQ.kq hKQ
    obtain ⟨hQ3, hQ4, hQ5⟩ := (⟨hQ2.1, hQ2.2.1, (hQ2.le g (Nat.le_refl _)).1⟩ : E 0 = 0 ∧ E g = n ∧ g ≤ E g)
    obtain ⟨s3, I3, Q3, m3, c1, g1, i1, i2, i3⟩ := as_l (Zd := Zd) (q := q) (cw := cw) (A := A) (R := R) hk hn8 g 4096 4096 0 0 0 s2 _ _ _ (by omega) (by rw [hQ3]; decide) (by decide) (by omega) (by omega) c2 hRR h8 h80 hn hQ2
    have hKQ3 := hKQ.tr i3.kq
    have hr3 : Rr Zd K s3 I3 A Q3 m3 := by
      obtain ⟨a1, a2, a3, a4, a5, a6, a7, a8, a9, a10, a11⟩ := i3
      have hsr3 : sr ms m3 := ⟨by rw [a10 1 (by decide) (by decide)]; exact hsr.1, by rw [a10 2 (by decide) (by decide)]; exact hsr.2.1, by rw [a11], by rw [a11], by rw [a11], by rw [a11]⟩
      have u5 : I3 5 = I 5 := (a6 5 (by decide) (by decide) (by decide)).trans (upd_ne (by decide))
      have u10 : m3.1 10 = ms.1 10 := by
        rw [a8 10 (by decide) (by decide) (by decide)]; dsimp only; rw [upd_ne (show (10 : Nat) ≠ 7 by decide)]
      have v10 : m3.2.2.1 10 = ms.2.2.1 10 := by
        rw [a10 10 (by decide) (by decide)]; dsimp only; rw [va_up_ne _ _ (show (10 : Nat) ≠ 8 by decide)]
      have hr9 := hrr.mono (I1 := I3) (A1 := A) hKQ3.2.1 hsr3 u5 rfl u10 v10
      refine ⟨hr9.1, hr9.2.1, hr9.2.2.1, fun i hi => ?_⟩
      rw [a7 1 (by decide) (by decide), va_up_ne _ _ (by decide)]
      exact hr9.2.2.2 i hi
    have h60 := i3.2.2.2.1.2.1
    have h632 := i3.2.2.2.1.2.2.1
    obtain ⟨s4, I4, A4, Q4, m4, n1, n2, j1, j2, j3, j4⟩ := kp_l (Zd := Zd) (q := q) (cw := cw) (R := R) hk.2.2 (id := id) (I3 6).toInt.toNat 4096 4096 0 s3 I3 A Q3 m3 (by rw [N.1]; omega) (by decide) (by omega) (by omega) i3.1 i3.2.2.2.1 hr3 i3.2.2.2.2.1.1 i3.2.2.2.2.1.2
    refine ⟨s4, I4, A4, Q4, m4, ?_, fun _ => ?_, fun e => absurd (h80.symm.trans e) (by decide), hKQ3.tr j3, j4⟩
    · simp only [c_Finder_ask, nl, fg_5_2 hC.1, Option.bind_some, e1, f1, i1, j1]
    · simp only [m_ask, m1, Option.bind_some, ix_in (show vp_in (0 : Int32) 33 from vp_of (by decide) (by decide)), t0, i2, j2]
  · have h81' : upd I 6 1 8 = 1 := h81
    have hKQ : KQ K st q cw I A R Q ms s2 (upd I 6 1) A (va_up Q 2 (va_up (Q 2) 0 (some a))) ms := ⟨c2, l2, hst2, ⟨h8, Or.inr h81⟩, fun k _ y _ _ => upd_ne y, fun _ _ => rfl, fun k _ y _ => va_up_ne _ _ y, fun k y _ _ _ => rfl, rfl, fun k _ _ y _ _ => rfl, fun _ _ => rfl, lowR.rf _ _⟩
    have hr9 := hrr.mono (I1 := upd I 6 1) (A1 := A) l2 (⟨rfl, rfl, rfl, rfl, rfl, rfl⟩ : sr ms ms) (upd_ne (by decide)) rfl rfl rfl
    refine ⟨s2, _, _, _, ms, ?_, fun e => absurd (h81.symm.trans e) h10, fun _ => rfl, hKQ, ⟨hr9.1, hr9.2.1, hr9.2.2.1, fun i hi => ?_⟩⟩
    · simp only [c_Finder_ask, nl, fg_5_2 hC.1, Option.bind_some, e1, f1, as_stop (Zd := Zd) c2 h81' 0 4096 (by decide), kp_stop (Zd := Zd) c2 h81' id 0 4096 (by decide)]
    · rw [va_up_ne _ _ (by decide)]
      exact hr9.2.2.2 i hi
end QUERY2
