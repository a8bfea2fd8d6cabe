/-! patch alike. -/
section PATCH
variable {Zd : Nat → Nat} {K : KE} {st st1 : CS} {ms ms2 : MS} {q : Nat → Nat} {cw : Nat} {I I1 : Nat → Int32} {A A1 : Nat → Nat → Int32} {R R1 : Nat → Option Nat} {Q : Nat → Nat → Option Nat}
theorem docIs.kW {lo base : Nat} {r : Option Nat} {t : Int32} (h : docIs Zd K st ms base r t) (hl : kW lo ms ms2) (hc : base + 24 ≤ lo) : docIs Zd K st ms2 base r t := by
  cases r with
  | none => exact h
  | some a =>
    obtain ⟨h1, L, h2, h3, h4⟩ := h
    exact ⟨h1, L, h2, h3.kW hl (by omega), h4⟩
/-- what operations leave as it was -/
theorem Rv.pf (h : Rv Zd K st ms q cw I A R Q) (hC : Cx K st1 q cw I1 A1 R1 Q) (hl : le K st st1) (hW : Wp I1 A1) (hI : pI I I1) (hA : pA A A1) (hm : kW 1980 ms ms2) : Rv Zd K st1 ms2 q cw I1 A1 R1 Q := by
  obtain ⟨hF, hw, ⟨t1, t2, t3, t4⟩, ⟨⟨s1, s2, s3⟩, ⟨s4, s5, s6⟩, ⟨s7, s8, s9, s10⟩, s11, s12, s13⟩, hP, hk, hd, ⟨r1, r2, r3, r4⟩, ⟨o1, o2, o3, o4, o5, o6, o7⟩, ⟨w1, w2, w3, w4, w5⟩, hz⟩ := h
  have i : ∀ k, k ≠ 16 ∧ k ≠ 17 → I1 k = I k := fun k h9 => hI k h9.1 h9.2
  have m := hm.1
  have a : ∀ k, k ≠ 1 ∧ k ≠ 2 → ms2.2.2.1 k = ms.2.2.1 k := fun k h9 => hm.2.1 k h9.1 h9.2
  have e12 := a 12 (by decide)
  have e13 := a 13 (by decide)
  have e14 := a 14 (by decide)
  have e15 := a 15 (by decide)
  have e16 := a 16 (by decide)
  have e17 := a 17 (by decide)
  have e18 := a 18 (by decide)
  refine ⟨hC.1, hC.2.1, ⟨?_, ?_, ?_, ?_⟩, ⟨⟨?_, ?_, ?_⟩, ⟨?_, ?_, ?_⟩, ⟨?_, ?_, ?_, ?_⟩, ?_, ?_, ?_⟩, ?_, ?_, ?_, ⟨?_, ?_, ?_, ?_⟩, ⟨?_, ?_, ?_, ?_, o5, o6, ?_⟩, ⟨?_, ?_, hW.1, hW.2.1, ?_⟩, hC.2.2⟩
  · rw [hA 0 (by decide), a 0 (by decide)]; exact t1
  · rw [i 0 (by decide), m]; exact t2
  · rw [i 0 (by decide)]; exact t3
  · rw [i 0 (by decide)]; exact t4
  · rw [i 9 (by decide), m]; exact s1
  · rw [i 10 (by decide), m]; exact s2
  · rw [i 11 (by decide), m]; exact s3
  · rw [i 11 (by decide)]; exact s4
  · rw [i 10 (by decide)]; exact s5
  · rw [i 10 (by decide)]; exact s6
  · rw [hA 2 (by decide), e16]; exact s7
  · rw [hA 3 (by decide), e15]; exact s8
  · rw [hA 4 (by decide), e17]; exact s9
  · rw [hA 5 (by decide), e18]; exact s10
  · rw [hA 4 (by decide)]; exact s11
  · rw [hA 3 (by decide)]; exact s12
  · rw [hA 5 (by decide)]; exact s13
  · intro j hj h9 hh9
    rw [hA (10 + j) (by omega), e13]
    exact hP j hj h9 hh9
  · unfold Rk isRoot
    rw [e12, e13, e14, e15, e17, e18]
    exact hk
  · intro j hj i9 hi9
    rw [e14]
    exact ((hd j hj i9 hi9).le hl).kW hm (by omega)
  · rw [i 5 (by decide), m]; exact r1
  · rw [i 5 (by decide)]; exact r2
  · rw [i 5 (by decide)]; exact r3
  · intro j hj
    rw [i 5 (by decide)] at hj
    obtain ⟨g1, a9, g2, g3⟩ := r4 j hj
    rw [hA 1 (by decide), a 10 (by decide)]
    exact ⟨g1, a9, g2, (g3.le hl).kW hm (by omega)⟩
  · rw [i 13 (by decide), m]; exact o1
  · rw [i 13 (by decide)]; exact o2
  · rw [i 13 (by decide)]; exact o3
  · rw [i 13 (by decide)]; exact o4
  · rw [i 13 (by decide), hA 6 (by decide), a 11 (by decide)]; exact o7
  · rw [i 15 (by decide)]; exact w1
  · rw [i 15 (by decide)]; exact w2
  · intro j
    rw [hA 6 (by decide), hA 7 (by decide)]
    exact ⟨(w5 j).1, (w5 j).2.1, hW.2.2 j⟩
theorem Rv.wp (h : Rv Zd K st ms q cw I A R Q) : Wp I A := by
  obtain ⟨-, -, -, -, -, -, -, -, -, ⟨w1, w2, w3, w4, w5⟩, -⟩ := h
  exact ⟨w3, w4, fun i => (w5 i).2.2⟩
/-- a row's number and where it begins -/
theorem at_n {r : Int32} {n : Nat} (hr : r.toInt = n) (hn : n < 48) : ∃ x, m_at r = some x ∧ x.toInt = (24 * n : Nat) := by
  have N := nums
  have h80 : ¬ (80 : Int32) ≤ r := fun e => by have := i32le.mp e; omega
  refine ⟨24 * r, by simp only [m_at, h80, if_false, Option.bind_some], ?_⟩
  rw [i32mulk 24 (by decide) (by omega) (by omega), hr]
  omega
/-- the operations on a document: class and model -/
theorem appl_lock (hc : kc Zd K) (h : Rv Zd K st ms q cw I A R Q) {ls a0 n : Nat} {Ll Ld : List Nd} (hLl : treeOf Zd K st 5 ls = some Ll) (hrl : rowIs ms 1920 Ll) (hll : Ll.length ≤ 24) (hLd : treeOf Zd K st 5 a0 = some Ld) (hrd : rowIs ms (24 * n) Ld) (hld : Ld.length ≤ 24) {row : Int32} (hrow : row.toInt = n) (hn : n < 48) (z6 : st.1.1 + 794 ≤ Zd 6) (z7 : st.1.2 + 4984 ≤ Zd 7) :
    ∃ x st1 ms4 ms1 I1 A1 R1, c_Patcher_apply Zd K (q 3) (some ls) (some a0) st = some (x, st1) ∧ m_copyRow row 81 ms = some ms4 ∧ m_operate ms4 = some (x, ms1) ∧ st1.1.1 ≤ st.1.1 + 794 ∧ st1.1.2 ≤ st.1.2 + 4984 ∧ Rv Zd K st1 ms1 q cw I1 A1 R1 Q ∧ I1 11 = I 11 ∧ (x = 0 → ∃ r L1, R1 0 = some r ∧ treeOf Zd K st1 5 r = some L1 ∧ rowIs ms1 1980 L1 ∧ L1.length ≤ 24) := by
  have Nn := nums
  have h10 : ¬ ((1 : Int32) = 0) := by decide
  have hC := h.cx
  obtain ⟨xr, hx1, hx2⟩ := at_n hrow hn
  obtain ⟨ms4, c1, c2⟩ := copyRow_ok (s := row) (d := 81) hrd (tree_ok _ _ _ hLd) hld hx1 hx2 at81 (by decide) (b := 1980) (by omega) (by omega) (by omega)
  have hkw : kW 1980 ms ms4 := c2.kW (Nat.le_refl _)
  have hr4 : rowIs ms4 1980 Ld := hrd.cp c2
  have hrl4 : rowIs ms4 1920 Ll := hrl.kW hkw (by omega)
  obtain ⟨o, num, cs, ns, fst, nx, ks, ⟨k, c9, n9, fs, u1, u2, u3, u4, u5, u6, u7, u8, u9⟩, hcs, hlen, hok, hLe⟩ := tree_node hc.2.2 hLl
  have h0 := hrl4 0 (o, 1 + (kL ks).flatten.length, num, cs, ns) (by rw [hLe]; rfl)
  have hkd : rd (ms4.2.2.1 1) 2100 1920 = some o := by rw [rd_in (vp_of (by decide) (by decide)), show (1920 : Int32).toNatClampNeg = 1920 + 0 from by decide, h0.1]
  have hsp : rd (ms4.2.2.1 2) 2100 1920 = some (Int32.ofNat (1 + (kL ks).flatten.length)) := by rw [rd_in (vp_of (by decide) (by decide)), show (1920 : Int32).toNatClampNeg = 1920 + 0 from by decide, h0.2.1]
  have hLl2 : Ll.length = (kL ks).flatten.length + 1 := by rw [hLe, List.length_cons]
  have n1920 : (1920 : Int32).toInt = 1920 := by decide
  have hspi : (Int32.ofNat (1 + (kL ks).flatten.length)).toInt = 1 + (kL ks).flatten.length := by rw [ofNat_i (by omega)]; omega
  have hEi : (1920 + Int32.ofNat (1 + (kL ks).flatten.length)).toInt = (1921 + (kL ks).flatten.length : Nat) := by rw [i32add (by omega) (by omega)]; omega
  have hv1 : (1920 + 1 : Int32).toInt = (1921 : Nat) := by decide
  have hR4 : Rv Zd K st ms4 q cw I A R Q := h.pf hC (le.rf K st) h.wp (pI.rf _) (pA.rf _) hkw
  by_cases o5 : o = 5
  · have hk5 : some k = some (Zd 13) := (kd_14 hc u7 (i := 5) (by decide)).mpr o5
    have hrF : rowF ms4 1921 (kL ks).flatten := by
      rw [hLe] at hrl4
      exact (rowIs_iff.mp hrl4).2
    rcases il_l hc h.2.1 hsp hEi (by omega) ks 1921 4096 4096 fst (1920 + 1) hcs hrF rfl (by omega) hv1 (by omega) (by omega) with ⟨e1, e2, i1, i2, i3⟩ | ⟨i1, i2⟩
    · have hisl : c_Patcher_isList Zd K (some ls) st = some 1 := by simp only [c_Patcher_isList, Option.bind_some, u2, hk5, if_true, u6, i1]
      -- how many
      have hkl : 2 * ks.length ≤ (kL ks).flatten.length := by
        clear hcs hlen hrF i1 i2 hLe hok hEi hspi hsp hkd h0
        have : ∀ ks : List Kd, (∀ k ∈ ks, OPD k.2.2) → 2 * ks.length ≤ (kL ks).flatten.length := by
          intro ks
          induction ks with
          | nil => intro _; exact Nat.le_refl _
          | cons y ys ih =>
            intro hy
            have g1 := (hy y List.mem_cons_self).two'
            have g2 := ih (fun z hz => hy z (List.mem_cons_of_mem _ hz))
            rw [List.length_cons, kL_cons, List.flatten_cons, List.length_append]
            omega
        exact this ks i3
      have hk11 : ks.length ≤ 11 := by omega
      -- the copy
      obtain ⟨s5, V, d1, d2, d3, d4, d5, d6, d7, d8⟩ := copy_ok9 hc 5 10 a0 Ld 0 st hLd (by decide) (by decide) (by decide) hC (by omega) (by omega)
      obtain ⟨s6, f1, f2, f3⟩ := setdoc d2 (some st.1.1)
      have hl6 : le K st s6 := d3.tr f3.1
      have hs6 : s6.1.1 = st.1.1 + Ld.length ∧ s6.1.2 = st.1.2 + 6 * Ld.length := by rw [f3.2]; exact ⟨d4, d5⟩
      have hPF : PF K st ms4 q cw I A R Q s6 I A ms4 (some st.1.1) := ⟨f2, hl6, h.wp, pI.rf _, pA.rf _, kW.rf _ _⟩
      have hPD : PD Zd K st 5 24 s6 ms4 V st.1.1 (nmd [] Ld) := ⟨⟨none, Tw.le hc.2.2 f3.1 _ _ _ _ _ d6⟩, d7, d8, nmd_row [] hr4, by rw [nmd_len]; exact hld⟩
      have m6 : 70 * ks.length ≤ 770 := Nat.mul_le_mul_left 70 hk11
      have m7 : 440 * ks.length ≤ 4840 := Nat.mul_le_mul_left 440 hk11
      obtain ⟨M6, hM6⟩ : ∃ M, M = 70 * ks.length := ⟨_, rfl⟩
      obtain ⟨M7, hM7⟩ : ∃ M, M = 440 * ks.length := ⟨_, rfl⟩
      rw [← hM6] at m6
      rw [← hM7] at m7
      obtain ⟨s7, I7, A7, ms7, r7, w1, w2, w3, w4⟩ := ap_l (Zd := Zd) (d := 3) hc h.2.1 hC.2.2 (by decide) hsp hEi (by omega) ks 1921 4096 4096 fst (1920 + 1) 0 s6 I A ms4 V st.1.1 (nmd [] Ld) hcs hrF rfl (by omega) (by decide) i3 hv1 (by decide) (by rw [Nn.1]; omega) (by omega) (by omega) hPF hPD (by rw [← hM6]; omega) (by rw [← hM7]; omega)
      rw [← hM6] at w1
      rw [← hM7] at w2
      have hg4 : gQ K s6 ls 11 4 = some fst := hl6.fQ (Or.inl rfl) u6
      have hRv : Rv Zd K s7 ms7 q cw I7 A7 (va_up R 0 (some r7)) Q := hR4.pf w3.1 w3.2.1 w3.2.2.1 w3.2.2.2.1 w3.2.2.2.2.1 w3.2.2.2.2.2
      have hcl : ∀ e21, c_Patcher_apply_l1 Zd K (q 3) 4096 (0, fst, s6) = some e21 → c_Patcher_apply Zd K (q 3) (some ls) (some a0) st = (match e21 with | .inl o9 => some o9 | .inr e8 => some ((0 : Int32), e8.2.2)) := by
        intro e21 he
        simp only [c_Patcher_apply, hisl, Option.bind_some, h10, if_false, d1, f1, hg4, he]
        cases e21 <;> rfl
      have hmm : ∀ e12, m_operate_l2 1920 4096 (0, 1920 + 1, ms4) = some e12 → m_operate ms4 = (match e12 with | .inl o9 => some o9 | .inr e8 => some ((0 : Int32), e8.2.2)) := by
        intro e12 he
        simp only [m_operate, at80, Option.bind_some, hkd, o5, if_true, i2, he]
        cases e12 <;> rfl
      rcases w4 with ⟨x, y1, y2, y3⟩ | ⟨x1, r1, x2, x3, N1, L1, y1, y2, y3⟩
      · refine ⟨x, s7, ms4, ms7, I7, A7, _, hcl _ y1, c1, hmm _ y2, by omega, by omega, hRv, w3.2.2.2.1 11 (by decide) (by decide), fun e => absurd e y3⟩
      · obtain ⟨⟨nx9, hT9⟩, -, -, j4, j5⟩ := y3
        exact ⟨0, s7, ms4, ms7, I7, A7, _, hcl _ y1, c1, hmm _ y2, by omega, by omega, hRv, w3.2.2.2.1 11 (by decide) (by decide), fun _ => ⟨r7, L1, va_up_self _ _ _, Tw.tree _ _ _ _ _ hT9, j4, j5⟩⟩
    · have hisl : c_Patcher_isList Zd K (some ls) st = some 0 := by simp only [c_Patcher_isList, Option.bind_some, u2, hk5, if_true, u6, i1]
      refine ⟨-3, st, ms4, ms4, I, A, R, ?_, c1, ?_, by omega, by omega, hR4, rfl, fun e => absurd e (by decide)⟩
      · simp only [c_Patcher_apply, hisl, Option.bind_some, if_true]
      · simp only [m_operate, at80, Option.bind_some, hkd, o5, if_true, i2]
  · have hk5 : ¬ some k = some (Zd 13) := fun e => o5 ((kd_14 hc u7 (i := 5) (by decide)).mp e)
    have hisl : c_Patcher_isList Zd K (some ls) st = some 0 := by simp only [c_Patcher_isList, Option.bind_some, u2, hk5, if_false]
    refine ⟨-3, st, ms4, ms4, I, A, R, ?_, c1, ?_, by omega, by omega, hR4, rfl, fun e => absurd e (by decide)⟩
    · simp only [c_Patcher_apply, hisl, Option.bind_some, if_true]
    · simp only [m_operate, at80, Option.bind_some, hkd, o5, if_false]
end PATCH
