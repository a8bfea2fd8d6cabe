/-! Queries: the whole text; class and model. -/
/-- the segments that are read, their selectors -/
def QS (K : KE) (st : CS) (I : Nat → Int32) (R : Nat → Option Nat) (ms : MS) (g n : Nat) (E : Nat → Nat) : Prop := E 0 = 0 ∧ E g = n ∧ (ms.1 5).toInt = g ∧ ∀ i, i < g → E i < E (i + 1) ∧ (ms.2.2.1 5 i).toInt = E (i + 1) ∧ PS K st I R ms (E i) (E (i + 1)) (ms.2.2.1 4 i)
theorem QS.le {K : KE} {st : CS} {I : Nat → Int32} {R : Nat → Option Nat} {ms : MS} {g n : Nat} {E : Nat → Nat} (h : QS K st I R ms g n E) : ∀ i, i ≤ g → i ≤ E i ∧ E i + (g - i) ≤ n := by
  obtain ⟨h1, h2, -, h4⟩ := h
  have up : ∀ i, i ≤ g → i ≤ E i := by
    intro i
    induction i with
    | zero => intro _; omega
    | succ i ih => intro hi; have := ih (by omega); have := (h4 i (by omega)).1; omega
  have dn : ∀ k, k ≤ g → E (g - k) + k ≤ n := by
    intro k
    induction k with
    | zero => intro _; rw [Nat.sub_zero, h2]; exact Nat.le_refl _
    | succ k ih =>
      intro hk
      have h9 := ih (by omega)
      have h8 := (h4 (g - (k + 1)) (by omega)).1
      rw [show g - (k + 1) + 1 = g - k by omega] at h8
      omega
  intro i hi
  have := dn (g - i) (by omega)
  rw [show g - (g - i) = i by omega] at this
  exact ⟨up i hi, this⟩
section QUERY
variable {Zd : Nat → Nat} {K : KE} {st : CS} {ms : MS} {q : Nat → Nat} {cw : Nat} {I : Nat → Int32} {A : Nat → Nat → Int32} {R : Nat → Option Nat} {Q : Nat → Nat → Option Nat}
/-- what reading a query comes to -/
def QO (K : KE) (st : CS) (q : Nat → Nat) (cw : Nat) (I : Nat → Int32) (A : Nat → Nat → Int32) (R : Nat → Option Nat) (Q : Nat → Nat → Option Nat) (ms : MS) (n0 : Nat) (cv : Option CS) (mv : Option MS) : Prop :=
  ∃ st1 I1 A1 R1 ms1, cv = some st1 ∧ mv = some ms1 ∧ Cx K st1 q cw I1 A1 R1 Q ∧ le K st st1 ∧ Wq I1 A1 ∧ kA A A1 ∧ qkI 0 I I1 ∧ qkR 0 R R1 ∧ qkM 0 ms ms1 ∧ st1.1.1 ≤ st.1.1 + 2 * (8 - n0) ∧ st1.1.2 ≤ st.1.2 + 14 * (8 - n0) ∧ ((∃ (g n : Nat) (E : Nat → Nat), n ≤ 8 ∧ (I1 4).toInt = n ∧ QS K st1 I1 R1 ms1 g n E ∧ I1 2 = -1 ∧ ms1.1 2 = -1) ∨ Fq I1 ms1)
theorem qp_stop (h : Cx K st q cw I A R Q) (h2 : 0 ≤ (I 2).toInt) (f : Nat) (t : Int32) : c_Query_parse_l1 Zd K (q 4) (some (q 1)) (q 1) (f + 1) (t, st) = some (t, st) := by
  rw [c_Query_parse_l1_s]
  by_cases e : (8 : Int32) < t
  · rw [if_pos e]
  · rw [if_neg e]
    simp only [fo_1 h.1, Option.bind_some, c_right0 (Zd := Zd) h h2, if_true]
theorem rq_stop {ms : MS} (h : 0 ≤ (ms.1 2).toInt) (f : Nat) (t : Int32) : m_readQuery_l1 (f + 1) (t, ms) = some (t, ms) := by
  rw [m_readQuery_l1_s]
  dsimp only
  by_cases e : (81 : Int32) ≤ t
  · rw [if_pos e]
  · rw [if_neg e, if_pos (i32n h)]
theorem qp_l : ∀ (m f1 f2 g n : Nat) (E : Nat → Nat) (t t2 : Int32) (sk : CS) (Ik : Nat → Int32) (Ak : Nat → Nat → Int32) (Rk : Nat → Option Nat) (mk : MS), n + m = 8 → 0 ≤ t.toInt → t.toInt ≤ n → 0 ≤ t2.toInt → t2.toInt ≤ n → m + 2 < f1 → m + 2 < f2 → Cx K sk q cw Ik Ak Rk Q → Tq Ik Ak mk → Wq Ik Ak → Ik 4 = mk.1 6 → (Ik 4).toInt = n → QS K sk Ik Rk mk g n E → sk.1.1 + 2 * (8 - n) ≤ Zd 6 → sk.1.2 + 14 * (8 - n) ≤ Zd 7 →
    QO K sk q cw Ik Ak Rk Q mk n ((c_Query_parse_l1 Zd K (q 4) (some (q 1)) (q 1) f1 (t, sk)).bind fun e19 => some e19.2) ((m_readQuery_l1 f2 (t2, mk)).bind fun e4 => some e4.2) := by
  have N := nums
  have N81 : (81 : Int32).toInt = 81 := by decide
  have h10 : ¬ ((1 : Int32) = 0) := by decide
  intro m
  induction m using Nat.strongRecOn with
  | ind m ih =>
    intro f1 f2 g n E t t2 sk Ik Ak Rk mk hnm h0 ht h02 ht2 hf1 hf2 hC hT hW h4 hn hQ z6 z7
    obtain ⟨f1, rfl⟩ : ∃ f, f1 = f + 3 := ⟨f1 - 3, by omega⟩
    obtain ⟨f2, rfl⟩ : ∃ f, f2 = f + 2 := ⟨f2 - 2, by omega⟩
    have hT0 := hT
    obtain ⟨t1, t2', t3, t4, t5, t6, t7, t8⟩ := hT
    have h8 : ¬ (8 : Int32) < t := fun e => by have := i32lt.mp e; omega
    have h81 : ¬ (81 : Int32) ≤ t2 := fun e => by have := i32le.mp e; omega
    by_cases hend : Ik 1 < Ik 0
    · have hnl : ¬ mk.1 0 ≤ mk.1 1 := fun e => by rw [← t2', ← t3] at e; have := i32le.mp e; have := i32lt.mp hend; omega
      have hg := hQ.2.2.1
      have hgn := (hQ.le g (Nat.le_refl _)).1
      rw [hQ.2.1] at hgn
      obtain ⟨s1, I1, A1, R1, m1, x1, x2, x3, x4, x5, x6, x7, x8, x9, x10, x11, x12, x13⟩ := seg_lock (Zd := Zd) hC hT0 hW h4 hn (by omega) hg hgn z6 z7
      have kt1 : (t + 1).toInt = t.toInt + 1 := by rw [i32add (by omega) (by omega)]; omega
      have kt2 : (t2 + 1).toInt = t2.toInt + 1 := by rw [i32add (by omega) (by omega)]; omega
      have hcl : c_Query_parse_l1 Zd K (q 4) (some (q 1)) (q 1) (f1 + 3) (t, sk) = c_Query_parse_l1 Zd K (q 4) (some (q 1)) (q 1) (f1 + 2) (t + 1, s1) := by
        rw [c_Query_parse_l1_s, if_neg h8]
        simp only [fo_1 hC.1, Option.bind_some, c_right1 (Zd := Zd) hC t4, h10, if_false, c_atEnd0 (Zd := Zd) hC hend, if_true, fo_4 hC.1, x1]
      have hml : m_readQuery_l1 (f2 + 2) (t2, mk) = m_readQuery_l1 (f2 + 1) (t2 + 1, m1) := by
        rw [m_readQuery_l1_s]
        simp only [h81, if_false, t5, neg1, hnl, x2, Option.bind_some]
      rw [hcl, hml]
      rcases x13 with ⟨n1, v1, v2, v3, v4, v5, v6, v7, v8, v9, v10⟩ | ⟨v1, v2⟩ | v1
      · -- a segment more
        have hQ1 : QS K s1 I1 R1 m1 (g + 1) n1 (fun k => if k = g + 1 then n1 else E k) := by
          refine ⟨by dsimp only; rw [if_neg (by omega)]; exact hQ.1, by dsimp only; rw [if_pos rfl], by rw [v7]; rfl, fun i hi => ?_⟩
          dsimp only
          by_cases e : i = g
          · subst e
            rw [if_neg (by omega), if_pos rfl, hQ.2.1]
            exact ⟨v1, v6, v5⟩
          · obtain ⟨b1, b2, b3⟩ := hQ.2.2.2 i (by omega)
            obtain ⟨w1, w2⟩ := x12 i (by omega)
            have hle := (hQ.le (i + 1) (by omega)).2
            rw [if_neg (by omega), if_neg (by omega), w1, w2]
            exact ⟨b1, b2, b3.mono x4 (x7.dn (by omega)) (x8.dn (by omega)) (x9.dn (by omega))⟩
        obtain ⟨s3, I3, A3, R3, m3, i1, i2, i3, i4, i5, i6, i7, i8, i9, i10, i11, i12⟩ := ih (8 - n1) (by omega) (f1 + 2) (f2 + 1) (g + 1) n1 _ (t + 1) (t2 + 1) s1 I1 A1 R1 m1 (by omega) (by omega) (by omega) (by omega) (by omega) (by omega) (by omega) x3 v10 x5 v3 v4 hQ1 (by omega) (by omega)
        exact ⟨s3, I3, A3, R3, m3, i1, i2, i3, x4.tr i4, i5, x6.tr i6, (x7.dn (Nat.zero_le _)).tr i7, (x8.dn (Nat.zero_le _)).tr i8, (x9.dn (Nat.zero_le _)).tr i9, by omega, by omega, i12⟩
      · -- a letter or digit too many
        obtain ⟨u1, ⟨u2, u3, u4⟩, u5, u6⟩ := v1
        have hbm : 0 ≤ (m1.1 2).toInt := by rw [u6]; exact u2
        have hq46 := nc_ne u5 nc_lit.2.2.1
        have hq91 := nc_ne u5 nc_lit.2.2.2
        obtain ⟨d1, d2, d3⟩ := chr_lt (c := chr (A1 0) (I1 0) (I1 1)) rfl (by have := u5.r; omega)
        have h8b : ¬ (8 : Int32) < t + 1 := fun e => by have := i32lt.mp e; omega
        obtain ⟨s2, g1, g2, g3⟩ := c_need0 (Zd := Zd) x3 u2 u4 (c := 91) hq91 u1
        have hbr : c_Query_bracket Zd K (q 4) (some (q 1)) 0 s1 = some s2 := by
          simp only [c_Query_bracket, Option.bind_some, fo_1 x3.1, g1]
          rw [show (4096 : Nat) = 4095 + 1 from rfl, br_stop (Zd := Zd) g2 u2]
          rfl
        have hsg : c_Query_segment Zd K (q 4) (some (q 1)) s1 = some s2 := by
          simp only [c_Query_segment, Option.bind_some, fo_1 x3.1, c_take0 (Zd := Zd) x3 u2 u4 hq46, if_true, fo_4 x3.1, hbr]
        refine ⟨s2, upd I1 2 (I1 1), A1, R1, m1, ?_, ?_, g2, x4.tr g3.1, ⟨x5.1, x5.2⟩, x6, (x7.dn (Nat.zero_le _)).tr ((kI.f _ _).q 0), x8.dn (Nat.zero_le _), x9.dn (Nat.zero_le _), by rw [g3.2]; omega, by rw [g3.2]; omega, Or.inr ⟨u2, u3, u6, u2⟩⟩
        · rw [c_Query_parse_l1_s, if_neg h8b]
          simp only [fo_1 x3.1, Option.bind_some, c_right1 (Zd := Zd) x3 u1, h10, if_false, c_atEnd0 (Zd := Zd) x3 (i32lt.mpr d3), if_true, fo_4 x3.1, hsg]
          rw [qp_stop (Zd := Zd) g2 u2]
          rfl
        · rw [rq_stop hbm, Option.bind_some]
      · have hbm : 0 ≤ (m1.1 2).toInt := by rw [v1.2.2.1]; exact v1.1
        refine ⟨s1, I1, A1, R1, m1, ?_, ?_, x3, x4, x5, x6, x7.dn (Nat.zero_le _), x8.dn (Nat.zero_le _), x9.dn (Nat.zero_le _), x10, x11, Or.inr v1⟩
        · rw [qp_stop (Zd := Zd) x3 v1.1, Option.bind_some]
        · rw [rq_stop hbm, Option.bind_some]
    · have hle : mk.1 0 ≤ mk.1 1 := by
        rw [← t2', ← t3]
        refine i32le.mpr ?_
        rcases Int.lt_or_le (Ik 1).toInt (Ik 0).toInt with h9 | h9
        · exact absurd (i32lt.mpr h9) hend
        · exact h9
      refine ⟨sk, Ik, Ak, Rk, mk, ?_, ?_, hC, le.rf K sk, hW, fun _ _ => rfl, fun _ _ _ _ _ _ _ => rfl, qkR.rf _ _, ⟨fun _ _ _ _ _ => rfl, fun _ _ _ _ _ => rfl, fun _ _ _ => rfl, fun j hj => ⟨rfl, rfl, rfl, rfl⟩⟩, by omega, by omega, Or.inl ⟨g, n, E, by omega, hn, hQ, t4, t5⟩⟩
      · rw [c_Query_parse_l1_s, if_neg h8]
        simp only [fo_1 hC.1, Option.bind_some, c_right1 (Zd := Zd) hC t4, h10, if_false, c_atEnd1 (Zd := Zd) hC hend]
      · rw [m_readQuery_l1_s]
        simp only [h81, if_false, t5, neg1, hle, if_true, Option.bind_some]
theorem qp_lock (h : Cx K st q cw I A R Q) (hA : A 0 = ms.2.2.1 0) (h0 : I 0 = ms.1 0) (hl0 : 0 ≤ (I 0).toInt) (hl8 : (I 0).toInt ≤ 80) (hW : Wq I A) (z6 : st.1.1 + 16 ≤ Zd 6) (z7 : st.1.2 + 112 ≤ Zd 7) : QO K st q cw I A R Q ms 0 (c_Query_parse Zd K (q 4) (some (q 1)) st) (m_readQuery ms) := by
  have N := nums
  have h10 : ¬ ((1 : Int32) = 0) := by decide
  obtain ⟨s1, e1, e2, hF1⟩ := fw_4_1 h.1 0
  have hm := h.1.fl (i := 4) rfl
  have a2 : Cx K s1 q cw (upd I 4 0) A R Q := ⟨hF1, by rw [e2]; exact h.2.1, by rw [e2]; exact nb_Rz h.2.2 hm.1 hm.2 rfl rfl⟩
  have a3 : stp K st s1 := ⟨by rw [e2]; exact nb_le h.2.2 hm.1 hm.2 rfl, by rw [e2]; rfl⟩
  obtain ⟨s2, b1, b2, b3⟩ := tw3 a2 0
  obtain ⟨s3, c1, c2, c3⟩ := tw4 b2 (-1)
  have hbg : c_Text_begin Zd K (q 1) s1 = some s3 := by simp only [c_Text_begin, b1, Option.bind_some, c1]
  have hst3 : stp K st s3 := a3.tr (b3.tr c3)
  have hT : Tq (upd (upd (upd I 4 0) 1 0) 2 (-1)) A (upd (upd (upd (upd ms.1 1 0) 2 (-1)) 5 0) 6 0, ms.2.1, ms.2.2.1, ms.2.2.2) := ⟨hA, h0, rfl, rfl, rfl, by show 0 ≤ (0 : Int32).toInt; decide, by show (0 : Int32).toInt ≤ (I 0).toInt; omega, hl8⟩
  have hqi : qkI 0 I (upd (upd (upd I 4 0) 1 0) 2 (-1)) := fun k a b c d e f => (upd_ne b).trans ((upd_ne a).trans (upd_ne c))
  have hqm : qkM 0 ms (upd (upd (upd (upd ms.1 1 0) 2 (-1)) 5 0) 6 0, ms.2.1, ms.2.2.1, ms.2.2.2) := ⟨fun k a b c d => (upd_ne d).trans ((upd_ne c).trans ((upd_ne b).trans (upd_ne a))), fun _ _ _ _ _ => rfl, fun _ _ _ => rfl, fun j hj => absurd hj (Nat.not_lt_zero j)⟩
  have hs3 : s3.1.1 = st.1.1 ∧ s3.1.2 = st.1.2 := by rw [hst3.2]; exact ⟨rfl, rfl⟩
  have hW3 : Wq (upd (upd (upd I 4 0) 1 0) 2 (-1)) A := ⟨hW.1, hW.2⟩
  generalize hms : ((upd (upd (upd (upd ms.1 1 0) 2 (-1)) 5 0) 6 0, ms.2.1, ms.2.2.1, ms.2.2.2) : MS) = m0 at hT hqm
  have hm5 : m0.1 5 = 0 := by rw [← hms]; rfl
  have hm6 : m0.1 6 = 0 := by rw [← hms]; rfl
  have hrq : m_readQuery ms = (m_must (36 : Int32) m0).bind fun st2 => (m_readQuery_l1 4096 ((0 : Int32), st2)).bind fun e4 => some e4.2 := by rw [← hms]; rfl
  by_cases hq : chr (A 0) (upd (upd (upd I 4 0) 1 0) 2 (-1) 0) (upd (upd (upd I 4 0) 1 0) 2 (-1) 1) = 36
  · obtain ⟨s4, g1, g2, g3⟩ := c_need1 (Zd := Zd) c2 hT.2.2.2.2.2.1 hT.2.2.2.2.2.2.2 (c := 36) (by decide) hq
    obtain ⟨d1, d2, d3⟩ := chr_lt hq (by decide)
    have d3 : (0 : Int32).toInt < (I 0).toInt := d3
    have hmm := m_must1 hT hq
    have hs4 : s4.1.1 = st.1.1 ∧ s4.1.2 = st.1.2 := by rw [g3.2]; exact hs3
    have hQ0 : QS K s4 (upd (upd (upd (upd I 4 0) 1 0) 2 (-1)) 1 (upd (upd (upd I 4 0) 1 0) 2 (-1) 1 + 1)) R (upd m0.1 1 (upd (upd (upd I 4 0) 1 0) 2 (-1) 1 + 1), m0.2.1, m0.2.2.1, m0.2.2.2) 0 0 (fun _ => 0) := ⟨rfl, rfl, by dsimp only; rw [upd_ne (by decide), hm5]; rfl, fun i hi => absurd hi (Nat.not_lt_zero i)⟩
    obtain ⟨s5, I5, A5, R5, m5, i1, i2, i3, i4, i5, i6, i7, i8, i9, i10, i11, i12⟩ := qp_l (Zd := Zd) 8 4096 4096 0 0 _ 0 0 s4 _ A R _ (by decide) (by decide) (by decide) (by decide) (by decide) (by decide) (by decide) g2 (hT.up (J := m0.2.1) (B := m0.2.2.2) (p := upd (upd (upd I 4 0) 1 0) 2 (-1) 1 + 1) (by show 0 ≤ ((0 : Int32) + 1).toInt; decide) (by show ((0 : Int32) + 1).toInt ≤ (I 0).toInt; rw [show ((0 : Int32) + 1).toInt = 1 from by decide]; omega)) ⟨hW.1, hW.2⟩ (by dsimp only; rw [upd_ne (show (6 : Nat) ≠ 1 by decide), hm6]; rfl) rfl hQ0 (by omega) (by omega)
    refine ⟨s5, I5, A5, R5, m5, ?_, ?_, i3, hst3.1.tr (g3.1.tr i4), i5, i6, hqi.tr (((kI.p _ _).q 0).tr i7), i8, hqm.tr (((kM.p m0 _ m0.2.1).q 0).tr i9), by omega, by omega, i12⟩
    · simp only [c_Query_parse, e1, Option.bind_some, fo_1 a2.1, hbg, fo_1 c2.1, g1]
      exact i1
    · rw [hrq, hmm, Option.bind_some]
      exact i2
  · obtain ⟨s4, g1, g2, g3⟩ := c_need0 (Zd := Zd) c2 hT.2.2.2.2.2.1 hT.2.2.2.2.2.2.2 (c := 36) hq rfl
    have hmm := m_must0 hT hq
    have hz0 : 0 ≤ (upd (upd (upd I 4 0) 1 0) 2 (-1) 1).toInt := hT.2.2.2.2.2.1
    refine ⟨s4, _, A, R, _, ?_, ?_, g2, hst3.1.tr g3.1, ⟨hW.1, hW.2⟩, fun _ _ => rfl, hqi.tr ((kI.f _ _).q 0), qkR.rf _ _, hqm.tr ((kM.f m0 (upd (upd (upd I 4 0) 1 0) 2 (-1) 1) m0.2.1).q 0), by rw [g3.2]; omega, by rw [g3.2]; omega, Or.inr ⟨by rw [upd_self]; exact hz0, by rw [upd_self]; show (0 : Int32).toInt ≤ 80; decide, by rw [upd_self]; dsimp only; rw [upd_self], hz0⟩⟩
    · simp only [c_Query_parse, e1, Option.bind_some, fo_1 a2.1, hbg, fo_1 c2.1, g1]
      rw [show (4096 : Nat) = 4095 + 1 from rfl, qp_stop (Zd := Zd) g2 (by rw [upd_self]; exact hz0)]
      rfl
    · rw [hrq, hmm, Option.bind_some, show (4096 : Nat) = 4095 + 1 from rfl, rq_stop (by dsimp only; rw [upd_self]; exact hz0)]
      rfl
end QUERY
