/-! Finding: a segment; class and model. -/
section WALK2
variable {Zd : Nat → Nat} {K : KE} {q : Nat → Nat} {cw : Nat} {A : Nat → Nat → Int32} {R : Nat → Option Nat} {gJ bI eI dp : Int32} {b e : Nat}
theorem cp_l (hk : wk K) : ∀ (m f1 f2 : Nat) (n : Int32) (st : CS) (I : Nat → Int32) (Q : Nat → Nat → Option Nat) (ms : MS), n.toInt + m = (I 7).toInt → 0 ≤ n.toInt → m < f1 → m < f2 → Cx K st q cw I A R Q → FR Zd K st I Q ms → (∀ i : Nat, (i : Int) < n.toInt → Q 2 i = Q 3 i ∧ ms.2.2.1 8 i = ms.2.2.1 9 i) → ∃ st1 Q1 ms1 n1 n2, c_Finder_walk_l2 K (q 5) f1 (n, st) = some (n1, st1) ∧ m_ask_l4 f2 (n, ms) = some (n2, ms1) ∧ Cx K st1 q cw I A R Q1 ∧ le K st st1 ∧ st1.1 = st.1 ∧ FR Zd K st1 I Q1 ms1 ∧ (∀ k, k ≠ 2 → Q1 k = Q k) ∧ ms1.1 = ms.1 ∧ ms1.2.1 = ms.2.1 ∧ (∀ k, k ≠ 8 → ms1.2.2.1 k = ms.2.2.1 k) ∧ ms1.2.2.2 = ms.2.2.2 ∧ ∀ i : Nat, (i : Int) < (I 7).toInt → Q1 2 i = Q1 3 i ∧ ms1.2.2.1 8 i = ms1.2.2.1 9 i := by
  have N := nums
  intro m
  induction m with
  | zero =>
    intro f1 f2 n st I Q ms hn n0 hf1 hf2 hC hF hc
    obtain ⟨f1, rfl⟩ : ∃ f, f1 = f + 1 := ⟨f1 - 1, by omega⟩
    obtain ⟨f2, rfl⟩ : ∃ f, f2 = f + 1 := ⟨f2 - 1, by omega⟩
    have hle : I 7 ≤ n := i32le.mpr (by omega)
    have hle2 : ms.1 8 ≤ n := by rw [← hF.1]; exact hle
    refine ⟨st, Q, ms, n, n, ?_, ?_, hC, le.rf K st, rfl, hF, fun _ _ => rfl, rfl, rfl, fun _ _ => rfl, rfl, fun i hi => hc i (by omega)⟩
    · rw [c_Finder_walk_l2_s]
      simp only [fg_5_6 hC.1, Option.bind_some, hle, if_true]
    · rw [m_ask_l4_s]
      simp only [hle2, if_true]
  | succ m ih =>
    intro f1 f2 n st I Q ms hn n0 hf1 hf2 hC hF hc
    obtain ⟨f1, rfl⟩ : ∃ f, f1 = f + 1 := ⟨f1 - 1, by omega⟩
    obtain ⟨f2, rfl⟩ : ∃ f, f2 = f + 1 := ⟨f2 - 1, by omega⟩
    have h32 := hF.2.2.1
    have kn : (n + 1).toInt = n.toInt + 1 := by rw [i32add (by omega) (by omega)]; omega
    have hin : vp_in n 32 := vp_of (by omega) (by omega)
    have hin33 : vp_in n 33 := vp_of (by omega) (by omega)
    have tn : n.toNatClampNeg = n.toInt.toNat := tnn
    obtain ⟨p, c, d, L, y1, y2, y3, y4⟩ := hF.2.2.2.2.2 n.toNatClampNeg (by rw [tnn]; omega)
    have hob : ∀ b, Q 3 n.toNatClampNeg = some b → ∃ fs, ob1 st b 11 fs := fun b e => by rw [y1] at e; cases e; exact tree_ob hk y4.1
    obtain ⟨s1, e1, e2, hF1⟩ := fa_14 hC.1 hin (Q 3 n.toNatClampNeg) hob
    have hm14 := hC.1.fl (i := 14) rfl
    have l1 : le K st s1 := by rw [e2]; exact nb_le hC.2.2 hm14.1 hm14.2 rfl
    have c1 : Cx K s1 q cw I A R (va_up Q 2 (va_up (Q 2) n.toNatClampNeg (Q 3 n.toNatClampNeg))) := ⟨hF1, by rw [e2]; exact hC.2.1, by rw [e2]; exact nb_Rz hC.2.2 hm14.1 hm14.2 rfl rfl⟩
    have hq3 : va_up Q 2 (va_up (Q 2) n.toNatClampNeg (Q 3 n.toNatClampNeg)) 3 = Q 3 := va_up_ne _ _ (by decide)
    have hsr : sr ms (ms.1, ms.2.1, va_up ms.2.2.1 8 (upd (ms.2.2.1 8) n.toNatClampNeg (ms.2.2.1 9 n.toNatClampNeg)), ms.2.2.2) := ⟨by dsimp only; rw [va_up_ne _ _ (by decide)], by dsimp only; rw [va_up_ne _ _ (by decide)], rfl, rfl, rfl, rfl⟩
    have hF2 : FR Zd K s1 I (va_up Q 2 (va_up (Q 2) n.toNatClampNeg (Q 3 n.toNatClampNeg))) (ms.1, ms.2.1, va_up ms.2.2.1 8 (upd (ms.2.2.1 8) n.toNatClampNeg (ms.2.2.1 9 n.toNatClampNeg)), ms.2.2.2) := by
      refine ⟨hF.1, hF.2.1, hF.2.2.1, hF.2.2.2.1, hF.2.2.2.2.1, fun i hi => ?_⟩
      obtain ⟨p9, c9, d9, L9, g1, g2, g3, g4⟩ := hF.2.2.2.2.2 i hi
      exact ⟨p9, c9, d9, L9, by rw [hq3]; exact g1, by dsimp only; rw [va_up_ne _ _ (by decide)]; exact g2, g3, g4.sr l1 hsr⟩
    have q1 : (n + 1).toInt + m = (I 7).toInt := by omega
    have q2 : 0 ≤ (n + 1).toInt := by omega
    have hcc : ∀ i : Nat, (i : Int) < (n + 1).toInt → va_up Q 2 (va_up (Q 2) n.toNatClampNeg (Q 3 n.toNatClampNeg)) 2 i = va_up Q 2 (va_up (Q 2) n.toNatClampNeg (Q 3 n.toNatClampNeg)) 3 i ∧ va_up ms.2.2.1 8 (upd (ms.2.2.1 8) n.toNatClampNeg (ms.2.2.1 9 n.toNatClampNeg)) 8 i = va_up ms.2.2.1 8 (upd (ms.2.2.1 8) n.toNatClampNeg (ms.2.2.1 9 n.toNatClampNeg)) 9 i := by
      intro i hi
      rw [hq3, va_up_self, va_up_self, va_up_ne _ _ (show (9 : Nat) ≠ 8 by decide)]
      by_cases e : i = n.toNatClampNeg
      · rw [e, va_up_self, upd_self]; exact ⟨rfl, rfl⟩
      · rw [va_up_ne _ _ e, upd_ne e]
        exact hc i (by omega)
    obtain ⟨t2, Q2, m2, n1, n2, i1, i2, i3, i4, i5, i6, i7, i8, i9, i10, i11, i12⟩ := ih f1 f2 (n + 1) s1 I _ _ q1 q2 (Nat.lt_of_succ_lt_succ hf1) (Nat.lt_of_succ_lt_succ hf2) c1 hF2 hcc
    have hlt : n.toInt < (I 7).toInt := by omega
    have hle : ¬ I 7 ≤ n := fun e9 => by have := i32le.mp e9; omega
    have hle2 : ¬ ms.1 8 ≤ n := by rw [← hF.1]; exact hle
    refine ⟨t2, Q2, m2, n1, n2, ?_, ?_, i3, l1.tr i4, by rw [i5, e2]; rfl, i6, fun k a => (i7 k a).trans (va_up_ne _ _ a), i8, i9, fun k a => (i10 k a).trans (va_up_ne _ _ a), i11, i12⟩
    · rw [c_Finder_walk_l2_s]
      simp only [fg_5_6 hC.1, Option.bind_some, hle, if_false, fg_5_2 hC.1, fg_5_3 hC.1, fr_15 hC.1 hin, e1]
      exact i1
    · rw [m_ask_l4_s]
      simp only [hle2, if_false, rd_in hin33, ix_in hin33, Option.bind_some]
      exact i2
/-- what a segment leaves as it was -/
def WK (Zd : Nat → Nat) (K : KE) (st : CS) (q : Nat → Nat) (cw : Nat) (I : Nat → Int32) (A : Nat → Nat → Int32) (R : Nat → Option Nat) (Q : Nat → Nat → Option Nat) (ms : MS) (st1 : CS) (I1 : Nat → Int32) (Q1 : Nat → Nat → Option Nat) (ms1 : MS) : Prop :=
  Cx K st1 q cw I1 A R Q1 ∧ le K st st1 ∧ st1.1 = st.1 ∧ RR Zd K st1 I1 Q1 ms1 ∧ (I1 8 = ms1.1 9 ∧ (I1 8 = 0 ∨ I1 8 = 1)) ∧ (∀ k, k ≠ 6 → k ≠ 7 → k ≠ 8 → I1 k = I k) ∧ (∀ k, k ≠ 2 → k ≠ 3 → Q1 k = Q k) ∧ (∀ k, k ≠ 7 → k ≠ 8 → k ≠ 9 → ms1.1 k = ms.1 k) ∧ ms1.2.1 = ms.2.1 ∧ (∀ k, k ≠ 8 → k ≠ 9 → ms1.2.2.1 k = ms.2.2.1 k) ∧ ms1.2.2.2 = ms.2.2.2
theorem walk_lock (hk : kc Zd K) {st : CS} {I : Nat → Int32} {Q : Nat → Nat → Option Nat} {ms : MS} (h : Cx K st q cw I A R Q) (hR : RR Zd K st I Q ms) (h8 : I 8 = ms.1 9) (h80 : I 8 = 0) (hD : DC K st I R ms gJ bI eI b e) (hbe : b < e) (hdp : rd (ms.2.2.1 4) 9 gJ = some (I (101 + 4 * b))) : ∃ st1 I1 Q1 ms1 e39 e45, c_Finder_walk Zd K (q 5) (some (q 4)) bI eI st = some st1 ∧ m_ask_l3 gJ 4096 ((0 : Int32), (upd ms.1 8 0, ms.2.1, ms.2.2.1, ms.2.2.2)) = some e39 ∧ m_ask_l4 4096 ((0 : Int32), (upd e39.2.1 7 (e39.2.1 8), e39.2.2.1, e39.2.2.2.1, e39.2.2.2.2)) = some (e45, ms1) ∧ WK Zd K st q cw I A R Q ms st1 I1 Q1 ms1 := by
  have N := nums
  obtain ⟨D1, D2, D3, D4, D5, D6, D7⟩ := hD
  have hin : vp_in bI 8 := vp_of (by omega) (by omega)
  have tb : bI.toNatClampNeg = b := by rw [tnn]; omega
  have hb8 : b < 8 := by omega
  have hq := (h.1.2.2.1 b hb8).1
  have r1 : gI K st (q (200 + b)) 7 1 = some (I (101 + 4 * b)) := gI_ob (k := 1) (h.1.sl hb8) rfl
  obtain ⟨s1, e1, e2, hF1⟩ := fw_5_6 h.1 0
  have hm5 := h.1.fl (i := 5) rfl
  have l1 : le K st s1 := by rw [e2]; exact nb_le h.2.2 hm5.1 hm5.2 rfl
  have c1 : Cx K s1 q cw (upd I 7 0) A R Q := ⟨hF1, by rw [e2]; exact h.2.1, by rw [e2]; exact nb_Rz h.2.2 hm5.1 hm5.2 rfl rfl⟩
  have hsr : sr ms (upd ms.1 8 0, ms.2.1, ms.2.2.1, ms.2.2.2) := ⟨rfl, rfl, rfl, rfl, rfl, rfl⟩
  have hF : FR Zd K s1 (upd I 7 0) Q (upd ms.1 8 0, ms.2.1, ms.2.2.1, ms.2.2.2) := ⟨rfl, by show 0 ≤ (0 : Int32).toInt; decide, by show (0 : Int32).toInt ≤ 32; decide, h8, Or.inl h80, fun i hi => by
    have hi : (i : Int) < (0 : Int32).toInt := hi
    rw [N.1] at hi
    omega⟩
  have hRR : RR Zd K s1 (upd I 7 0) Q (upd ms.1 8 0, ms.2.1, ms.2.2.1, ms.2.2.2) := ⟨hR.1, hR.2.1, hR.2.2.1, fun i hi => by
    obtain ⟨p, c, d, L, g1, g2, g3, g4⟩ := hR.2.2.2 i hi
    exact ⟨p, c, d, L, g1, g2, g3, g4.sr l1 hsr⟩⟩
  have hDC : DC K s1 (upd I 7 0) R (upd ms.1 8 0, ms.2.1, ms.2.2.1, ms.2.2.2) gJ bI eI b e := by
    refine ⟨D1, D2, D3, D4, fun j x1 x2 => ?_, D6, D7⟩
    have := D5 j x1 x2
    unfold SO at this ⊢
    rw [upd_ne (show 102 + 4 * j ≠ 7 by omega), upd_ne (show 103 + 4 * j ≠ 7 by omega)]
    rcases this with ⟨a1, a2, a, cs, a3, a4, a5⟩ | this
    · exact Or.inl ⟨a1, a2, a, cs, a3, l1.str a4, a5⟩
    · exact Or.inr this
  have h6 := hR.2.2.1
  have h60 := hR.2.1
  obtain ⟨t1, I1, Q1, m1, n1, n2, a1, a2, a3⟩ := row_l (Zd := Zd) (q := q) (cw := cw) (A := A) (R := R) (dp := I (101 + 4 * b)) hk (I 6).toInt.toNat 4096 4096 0 s1 (upd I 7 0) Q (upd ms.1 8 0, ms.2.1, ms.2.2.1, ms.2.2.2) (by show (0 : Int32).toInt + _ = (I 6).toInt; rw [N.1]; omega) (by decide) (by omega) (by omega) c1 hF hRR hDC hdp
  obtain ⟨A1, A2, A3, A4, A5, A6, A7, A8, A9, A10, A11⟩ := a3
  have hsr2 : sr m1 (upd m1.1 7 (m1.1 8), m1.2.1, m1.2.2.1, m1.2.2.2) := ⟨rfl, rfl, rfl, rfl, rfl, rfl⟩
  have hF2 : FR Zd K t1 I1 Q1 (upd m1.1 7 (m1.1 8), m1.2.1, m1.2.2.1, m1.2.2.2) := ⟨A4.1, A4.2.1, A4.2.2.1, A4.2.2.2.1, A4.2.2.2.2.1, fun i hi => by
    obtain ⟨p, c, d, L, g1, g2, g3, g4⟩ := A4.2.2.2.2.2 i hi
    exact ⟨p, c, d, L, g1, g2, g3, g4.sr (le.rf K t1) hsr2⟩⟩
  have h70 := A4.2.1
  have h732 := A4.2.2.1
  obtain ⟨t2, Q2, m2, n3, n4, i1, i2, i3, i4, i5, i6, i7, i8, i9, i10, i11, i12⟩ := cp_l (Zd := Zd) (q := q) (cw := cw) (A := A) (R := R) hk.2.2 (I1 7).toInt.toNat 4096 4096 0 t1 I1 Q1 _ (by rw [N.1]; omega) (by decide) (by omega) (by omega) A1 hF2 (fun i hi => by rw [N.1] at hi; omega)
  obtain ⟨s5, f1, f2, hF5⟩ := fw_5_5 i3.1 (I1 7)
  have hm5' := i3.1.fl (i := 5) rfl
  have l5 : le K t2 s5 := by rw [f2]; exact nb_le i3.2.2 hm5'.1 hm5'.2 rfl
  have c5 : Cx K s5 q cw (upd I1 6 (I1 7)) A R Q2 := ⟨hF5, by rw [f2]; exact i3.2.1, by rw [f2]; exact nb_Rz i3.2.2 hm5'.1 hm5'.2 rfl rfl⟩
  have hm27 : m2.1 7 = m1.1 8 := by rw [i8]; dsimp only; rw [upd_self]
  refine ⟨s5, upd I1 6 (I1 7), Q2, m2, (n2, m1), n4, ?_, a2, i2, c5, l1.tr (A2.tr (i4.tr l5)), by rw [f2]; show t2.1 = st.1; rw [i5, A3, e2]; rfl, ⟨?_, ?_, ?_, fun i hi => ?_⟩, ⟨?_, ?_⟩, fun k x1 x2 x3 => (upd_ne x1).trans ((A5 k x2 x3).trans (upd_ne x2)), fun k x1 x2 => (i7 k x1).trans (A6 k x2), fun k x1 x2 x3 => ?_, ?_, fun k x1 x2 => (i10 k x1).trans (A9 k x2), ?_⟩
  · simp only [c_Finder_walk, Option.bind_some, fg_4_0 h.1, fr_11 h.1 hin, tb, hq, r1, e1, a1, i1, fg_5_6 i3.1, f1]
  · rw [upd_self, hm27]; exact A4.1
  · rw [upd_self]; exact h70
  · rw [upd_self]; exact h732
  · rw [upd_self] at hi
    obtain ⟨w1, w2⟩ := i12 i hi
    obtain ⟨p, c, d, L, g1, g2, g3, g4⟩ := i6.2.2.2.2.2 i hi
    exact ⟨p, c, d, L, by rw [w1]; exact g1, by rw [w2]; exact g2, g3, g4.sr l5 ⟨rfl, rfl, rfl, rfl, rfl, rfl⟩⟩
  · rw [upd_ne (by decide)]; exact i6.2.2.2.1
  · rw [upd_ne (by decide)]
    rcases i6.2.2.2.2.1 with x | ⟨x, -⟩
    · exact Or.inl x
    · exact Or.inr x
  · rw [i8]
    dsimp only
    rw [upd_ne x1, A7 k x2 x3]
    dsimp only
    rw [upd_ne x2]
  · rw [i9]; exact A8
  · rw [i11]; exact A10
end WALK2
