/-! Queries: selectors in brackets, one after the other; class and model. -/
theorem SO.mono {K : KE} {st st1 : CS} {I I1 : Nat → Int32} {R R1 : Nat → Option Nat} {ms ms1 : MS} {j n : Nat} (h : SO K st I R ms j) (hl : le K st st1) (hI : qkI n I I1) (hR : qkR n R R1) (hM : qkM n ms ms1) (hj : j < n) : SO K st1 I1 R1 ms1 j := by
  obtain ⟨m1, m2, m3, m4⟩ := hM.2.2.2 j hj
  have i2 : I1 (102 + 4 * j) = I (102 + 4 * j) := hI _ (by omega) (by omega) (by omega) (by omega) (by omega) (by omega)
  have i3 : I1 (103 + 4 * j) = I (103 + 4 * j) := hI _ (by omega) (by omega) (by omega) (by omega) (by omega) (by omega)
  have r : R1 (10 + j) = R (10 + j) := hR _ (by omega)
  unfold SO
  rw [i2, i3, r, m1, m2, m3, m4]
  rcases h with ⟨a1, a2, a, cs, a3, a4, a5, a6⟩ | h | h
  · exact Or.inl ⟨a1, a2, a, cs, a3, hl.str a4, a5, a6⟩
  · exact Or.inr (Or.inl h)
  · exact Or.inr (Or.inr h)
/-- the selectors of a segment, from b on -/
def PS (K : KE) (st : CS) (I : Nat → Int32) (R : Nat → Option Nat) (ms : MS) (b n : Nat) (dp : Int32) : Prop := ∀ j, b ≤ j → j < n → SO K st I R ms j ∧ I (100 + 4 * j) = (if j = b then 1 else 0) ∧ (j = b → I (101 + 4 * j) = dp)
theorem PS.mono {K : KE} {st st1 : CS} {I I1 : Nat → Int32} {R R1 : Nat → Option Nat} {ms ms1 : MS} {b n : Nat} {dp : Int32} (h : PS K st I R ms b n dp) (hl : le K st st1) (hI : qkI n I I1) (hR : qkR n R R1) (hM : qkM n ms ms1) : PS K st1 I1 R1 ms1 b n dp := by
  intro j h1 h2
  obtain ⟨a1, a2, a3⟩ := h j h1 h2
  have i0 : I1 (100 + 4 * j) = I (100 + 4 * j) := hI _ (by omega) (by omega) (by omega) (by omega) (by omega) (by omega)
  have i1 : I1 (101 + 4 * j) = I (101 + 4 * j) := hI _ (by omega) (by omega) (by omega) (by omega) (by omega) (by omega)
  exact ⟨a1.mono hl hI hR hM h2, by rw [i0]; exact a2, fun e => by rw [i1]; exact a3 e⟩
/-- what reading selectors comes to -/
def BO (K : KE) (st : CS) (q : Nat → Nat) (cw : Nat) (I : Nat → Int32) (A : Nat → Nat → Int32) (R : Nat → Option Nat) (Q : Nat → Nat → Option Nat) (ms : MS) (b n : Nat) (dp : Int32) (cv : Option CS) (mv : Option MS) : Prop :=
  ∃ st1 I1 A1 R1 ms1, cv = some st1 ∧ mv = some ms1 ∧ Cx K st1 q cw I1 A1 R1 Q ∧ le K st st1 ∧ Wq I1 A1 ∧ kA A A1 ∧ qkI n I I1 ∧ qkR n R R1 ∧ qkM n ms ms1 ∧ qkG ms ms1 ∧ st1.1.1 ≤ st.1.1 + 2 * (8 - n) ∧ st1.1.2 ≤ st.1.2 + 14 * (8 - n) ∧
    ((∃ n1, n < n1 ∧ n1 ≤ 8 ∧ I1 4 = ms1.1 6 ∧ (I1 4).toInt = n1 ∧ PS K st1 I1 R1 ms1 b n1 dp ∧ st1.1.1 + 2 * (8 - n1) ≤ st.1.1 + 2 * (8 - n) ∧ st1.1.2 + 14 * (8 - n1) ≤ st.1.2 + 14 * (8 - n) ∧ Tq I1 A1 ms1) ∨ Fq I1 ms1)
theorem m_takesB {ms : MS} (h : 0 ≤ (ms.1 2).toInt) (c : Int32) : m_takes c ms = some (0, ms) := by
  have b0 : bz 0 = some () := rfl
  have hid : upd ms.1 1 (ms.1 1) = ms.1 := upd_id rfl
  simp only [m_takes, m_seesB h, Option.bind_some, if_true, b0, hid]
theorem seg_stop (f : Nat) (t : Int32) (ms : MS) : m_segment_l1 (f + 1) (0, t, ms) = some (0, t, ms) := by
  rw [m_segment_l1_s]
  dsimp only
  by_cases e : (10 : Int32) ≤ t
  · rw [if_pos e]
  · rw [if_neg e, if_pos rfl]
theorem seg_l2 : ∀ (f : Nat) (e : Int32 × Int32 × MS), m_segment_l2 f e = m_segment_l1 f e := by
  intro f
  induction f with
  | zero => intro e; rfl
  | succ f ih =>
    intro e
    rw [m_segment_l2_s, m_segment_l1_s]
    simp only [ih]
section BRK
variable {Zd : Nat → Nat} {K : KE} {st : CS} {ms : MS} {q : Nat → Nat} {cw : Nat} {I : Nat → Int32} {A : Nat → Nat → Int32} {R : Nat → Option Nat} {Q : Nat → Nat → Option Nat}
theorem br_stop (h : Cx K st q cw I A R Q) (h2 : 0 ≤ (I 2).toInt) (f : Nat) (t dp : Int32) : c_Query_bracket_l1 Zd K (q 4) (some (q 1)) dp (q 1) (f + 1) (t, st) = some (.inr (t, st)) := by
  rw [c_Query_bracket_l1_s]
  by_cases e : (8 : Int32) < t
  · rw [if_pos e]
  · rw [if_neg e]
    simp only [fo_1 h.1, Option.bind_some, c_right0 (Zd := Zd) h h2, if_true]
theorem nc_ne {c d : Int32} (h : isNc c) (hd : ¬ isNc d) : ¬ c = d := fun e => hd (by rw [← e]; exact h)
theorem nc_lit : ¬ isNc 93 ∧ ¬ isNc 44 ∧ ¬ isNc 46 ∧ ¬ isNc 91 := by unfold isNc isLt isDg; decide
theorem br_l {b : Nat} {dp : Int32} (hd : dp = 0 ∨ dp = 1) : ∀ (m f1 f2 n : Nat) (t t2 : Int32) (sk : CS) (Ik : Nat → Int32) (Ak : Nat → Nat → Int32) (Rk : Nat → Option Nat) (mk : MS), n + m = 8 → b ≤ n → t.toInt = n - b → t2.toInt = n - b → m + 1 < f1 → m + 1 < f2 → Cx K sk q cw Ik Ak Rk Q → Tq Ik Ak mk → Wq Ik Ak → Ik 4 = mk.1 6 → (Ik 4).toInt = n → PS K sk Ik Rk mk b n dp → sk.1.1 + 2 * (8 - n) ≤ Zd 6 → sk.1.2 + 14 * (8 - n) ≤ Zd 7 →
    BO K sk q cw Ik Ak Rk Q mk b n dp ((c_Query_bracket_l1 Zd K (q 4) (some (q 1)) dp (q 1) f1 (t, sk)).bind fun e15 => match e15 with | .inl o9 => some o9 | .inr e8 => some e8.2) ((m_segment_l1 f2 (1, t2, mk)).bind fun e23 => (m_must (93 : Int32) e23.2.2).bind fun st32 => some st32) := by
  have N := nums
  have N10 : (10 : Int32).toInt = 10 := by decide
  have h10 : ¬ ((1 : Int32) = 0) := by decide
  intro m
  induction m with
  | zero =>
    intro f1 f2 n t t2 sk Ik Ak Rk mk hnm hb ht ht2 hf1 hf2 hC hT hW h4 hn hps z6 z7
    obtain ⟨f1, rfl⟩ : ∃ f, f1 = f + 1 := ⟨f1 - 1, by omega⟩
    obtain ⟨f2, rfl⟩ : ∃ f, f2 = f + 2 := ⟨f2 - 2, by omega⟩
    have hop : ∃ op : Int32, (if t = (0 : Int32) then (some (1 : Int32)) else (some (0 : Int32))) = some op ∧ (op = 0 ∨ op = 1) := by
      by_cases e : t = 0
      · exact ⟨1, if_pos e, Or.inr rfl⟩
      · exact ⟨0, if_neg e, Or.inl rfl⟩
    obtain ⟨op, ho1, ho2⟩ := hop
    have t5 : mk.1 2 = -1 := hT.2.2.2.2.1
    obtain ⟨s1, I1, A1, R1, m1, x1, x2, x3, x4, x5, x6, x7, x8, x9, x10, x11⟩ := sel_lock (Zd := Zd) hC hT hW h4 hn (by omega) ho2 hd z6 z7
    rcases x11 with ⟨y1, -⟩ | ⟨y1, y2, y3⟩
    · omega
    · have hbm : 0 ≤ (m1.1 2).toInt := by rw [y1.2.2.1]; exact y1.1
      have h8 : ¬ (8 : Int32) < t := fun e => by have := i32lt.mp e; omega
      have h10t : ¬ (10 : Int32) ≤ t2 := fun e => by have := i32le.mp e; omega
      refine ⟨s1, I1, A1, R1, m1, ?_, ?_, x3, x4, x5, x6, x7, x8, x9, x10, y2, y3, Or.inr y1⟩
      · rw [c_Query_bracket_l1_s, if_neg h8]
        simp only [fo_1 hC.1, Option.bind_some, c_right1 (Zd := Zd) hC hT.2.2.2.1, h10, if_false, ho1, fo_4 hC.1, x1, fo_1 x3.1, c_right0 (Zd := Zd) x3 y1.1, if_true]
      · rw [m_segment_l1_s]
        simp only [h10t, if_false, h10, t5, neg1, x2, Option.bind_some, m_takesB hbm, seg_stop, m_mustB hbm]
  | succ m ih =>
    intro f1 f2 n t t2 sk Ik Ak Rk mk hnm hb ht ht2 hf1 hf2 hC hT hW h4 hn hps z6 z7
    obtain ⟨f1, rfl⟩ : ∃ f, f1 = f + 2 := ⟨f1 - 2, by omega⟩
    obtain ⟨f2, rfl⟩ : ∃ f, f2 = f + 2 := ⟨f2 - 2, by omega⟩
    have hop : ∃ op : Int32, (if t = (0 : Int32) then (some (1 : Int32)) else (some (0 : Int32))) = some op ∧ (op = 0 ∨ op = 1) ∧ op = (if n = b then 1 else 0) := by
      by_cases e : t = 0
      · have : n = b := by rw [e] at ht; omega
        exact ⟨1, if_pos e, Or.inr rfl, by rw [if_pos this]⟩
      · have : ¬ n = b := fun e9 => e (i32eq (by omega))
        exact ⟨0, if_neg e, Or.inl rfl, by rw [if_neg this]⟩
    obtain ⟨op, ho1, ho2, ho3⟩ := hop
    have t5 : mk.1 2 = -1 := hT.2.2.2.2.1
    have h8 : ¬ (8 : Int32) < t := fun e => by have := i32lt.mp e; omega
    have h10t : ¬ (10 : Int32) ≤ t2 := fun e => by have := i32le.mp e; omega
    obtain ⟨s1, I1, A1, R1, m1, x1, x2, x3, x4, x5, x6, x7, x8, x9, x10, x11⟩ := sel_lock (Zd := Zd) hC hT hW h4 hn (by omega) ho2 hd z6 z7
    -- the class's and the model's loop, up to behind the selector
    have hcl : ∀ F : (CS ⊕ (Int32 × CS)) → Option CS, ((c_Query_bracket_l1 Zd K (q 4) (some (q 1)) dp (q 1) (f1 + 2) (t, sk)).bind F) = (c_Text_isRight Zd K (q 1) s1).bind fun x30 => if x30 = (0 : Int32) then F (.inl s1) else ((c_Text_take Zd K (q 1) (93 : Int32) s1).bind fun r36 => if r36.1 = (0 : Int32) then ((isO K r36.2 (q 1) 1).bind fun _ => (c_Text_need Zd K (q 1) (44 : Int32) r36.2).bind fun r40 => (c_Query_bracket_l1 Zd K (q 4) (some (q 1)) dp (q 1) (f1 + 1) (t + 1, r40.2)).bind F) else F (.inl r36.2)) := by
      intro F
      rw [c_Query_bracket_l1_s, if_neg h8]
      simp only [fo_1 hC.1, Option.bind_some, c_right1 (Zd := Zd) hC hT.2.2.2.1, h10, if_false, ho1, fo_4 hC.1, x1, fo_1 x3.1]
      cases c_Text_isRight Zd K (q 1) s1 with
      | none => rfl
      | some x30 =>
        simp only [Option.bind_some]
        by_cases e : x30 = 0
        · rw [if_pos e, if_pos e]; rfl
        · rw [if_neg e, if_neg e]
          cases c_Text_take Zd K (q 1) 93 s1 with
          | none => rfl
          | some r36 =>
            simp only [Option.bind_some]
            by_cases e2 : r36.1 = 0
            · rw [if_pos e2, if_pos e2]
              cases isO K r36.2 (q 1) 1 with
              | none => rfl
              | some u =>
                simp only [Option.bind_some]
                cases c_Text_need Zd K (q 1) 44 r36.2 <;> rfl
            · rw [if_neg e2, if_neg e2]; rfl
    have hml : (m_segment_l1 (f2 + 2) (1, t2, mk)).bind (fun e23 => (m_must (93 : Int32) e23.2.2).bind fun st32 => some st32) = (m_takes 44 m1).bind fun r42 => (m_segment_l1 (f2 + 1) (r42.1, t2 + 1, r42.2)).bind (fun e23 => (m_must (93 : Int32) e23.2.2).bind fun st32 => some st32) := by
      rw [m_segment_l1_s]
      simp only [h10t, if_false, h10, t5, neg1, x2, Option.bind_some]
      cases m_takes 44 m1 <;> rfl
    rw [hcl, hml]
    rcases x11 with ⟨y1, y2, y3, y4, y5, y6, y7, y8⟩ | ⟨y1, y2, y3⟩
    · rcases y8 with ⟨y8, y9⟩ | y8
      · have y80 := y8
        obtain ⟨u1, u2, u3, u4, u5, u6, u7, u8⟩ := y8
        have hps1 : PS K s1 I1 R1 m1 b (n + 1) dp := by
          intro j h1 h2
          by_cases e : j = n
          · subst e
            exact ⟨y9, by rw [y6, ho3], fun _ => y7⟩
          · exact (hps.mono x4 x7 x8 x9) j h1 (by omega)
        rw [c_right1 (Zd := Zd) x3 u4, Option.bind_some, if_neg h10]
        by_cases hq93 : chr (A1 0) (I1 0) (I1 1) = 93
        · -- the last one
          obtain ⟨s2, g1, g2, g3⟩ := c_take1 (Zd := Zd) x3 u6 u8 (c := 93) (by decide) hq93
          obtain ⟨d1, d2, d3⟩ := chr_lt hq93 (by decide)
          have k1 : (I1 1 + 1).toInt = (I1 1).toInt + 1 := by rw [i32add (by omega) (by omega)]; omega
          have hmt := m_takes0 y80 (c := 44) (by rw [hq93]; decide)
          rw [show upd m1.1 1 (I1 1) = m1.1 from upd_id u3.symm] at hmt
          have hmt : m_takes 44 m1 = some (0, m1) := hmt
          refine ⟨s2, upd I1 1 (I1 1 + 1), A1, R1, (upd m1.1 1 (I1 1 + 1), m1.2.1, m1.2.2.1, m1.2.2.2), ?_, ?_, g2, x4.tr g3.1, ⟨x5.1, x5.2⟩, x6, x7.tr ((kI.p _ _).q n), x8, x9.tr ((kM.p _ _ _).q n), x10.tr (kM.p m1 (I1 1 + 1) m1.2.1).g, by rw [g3.2]; omega, by rw [g3.2]; omega, Or.inl ⟨n + 1, by omega, by omega, y4, y5, hps1.mono g3.1 ((kI.p _ _).q _) (qkR.rf _ _) ((kM.p m1 (I1 1 + 1) m1.2.1).q _), by rw [g3.2]; omega, by rw [g3.2]; omega, y80.up (by omega) (by omega)⟩⟩
          · rw [g1, Option.bind_some, if_neg h10]
          · rw [hmt, Option.bind_some, seg_stop, Option.bind_some, m_must1 y80 hq93, Option.bind_some]
        · have htk := c_take0 (Zd := Zd) x3 u6 u8 hq93
          rw [htk, Option.bind_some, if_pos rfl, fo_1 x3.1, Option.bind_some]
          by_cases hq44 : chr (A1 0) (I1 0) (I1 1) = 44
          · -- one more
            obtain ⟨s2, g1, g2, g3⟩ := c_need1 (Zd := Zd) x3 u6 u8 (c := 44) (by decide) hq44
            obtain ⟨d1, d2, d3⟩ := chr_lt hq44 (by decide)
            have k1 : (I1 1 + 1).toInt = (I1 1).toInt + 1 := by rw [i32add (by omega) (by omega)]; omega
            have kt1 : (t + 1).toInt = t.toInt + 1 := by rw [i32add (by omega) (by omega)]; omega
            have kt2 : (t2 + 1).toInt = t2.toInt + 1 := by rw [i32add (by omega) (by omega)]; omega
            have hmt := m_takes1 y80 hq44
            have hs2 : s2.1.1 = s1.1.1 ∧ s2.1.2 = s1.1.2 := by rw [g3.2]; exact ⟨rfl, rfl⟩
            obtain ⟨s3, I3, A3, R3, m3, i1, i2, i3, i4, i5, i6, i7, i8, i9, i10, i11, i12, i13⟩ := ih (f1 + 1) (f2 + 1) (n + 1) (t + 1) (t2 + 1) s2 (upd I1 1 (I1 1 + 1)) A1 R1 (upd m1.1 1 (I1 1 + 1), m1.2.1, m1.2.2.1, m1.2.2.2) (by omega) (by omega) (by omega) (by omega) (by omega) (by omega) g2 (y80.up (by omega) (by omega)) ⟨x5.1, x5.2⟩ y4 (by show (I1 4).toInt = _; rw [y5]; rfl) (hps1.mono g3.1 ((kI.p _ _).q _) (qkR.rf _ _) ((kM.p m1 (I1 1 + 1) m1.2.1).q _)) (by omega) (by omega)
            refine ⟨s3, I3, A3, R3, m3, ?_, ?_, i3, x4.tr (g3.1.tr i4), i5, x6.tr i6, x7.tr (((kI.p _ _).q n).tr (i7.dn (by omega))), x8.tr (i8.dn (by omega)), x9.tr (((kM.p m1 (I1 1 + 1) m1.2.1).q n).tr (i9.dn (by omega))), x10.tr ((kM.p m1 (I1 1 + 1) m1.2.1).g.tr i10), by omega, by omega, ?_⟩
            · rw [g1, Option.bind_some]
              exact i1
            · rw [hmt, Option.bind_some]
              exact i2
            · rcases i13 with ⟨n1, v1, v2, v3, v4, v5, v6, v7, v8⟩ | v1
              · exact Or.inl ⟨n1, by omega, v2, v3, v4, v5, by omega, by omega, v8⟩
              · exact Or.inr v1
          · -- neither
            obtain ⟨s2, g1, g2, g3⟩ := c_need0 (Zd := Zd) x3 u6 u8 (c := 44) hq44 u4
            have hmt := m_takes0 y80 hq44
            rw [show upd m1.1 1 (I1 1) = m1.1 from upd_id u3.symm] at hmt
            have hmt : m_takes 44 m1 = some (0, m1) := hmt
            refine ⟨s2, upd I1 2 (I1 1), A1, R1, (upd m1.1 2 (I1 1), m1.2.1, m1.2.2.1, m1.2.2.2), ?_, ?_, g2, x4.tr g3.1, ⟨x5.1, x5.2⟩, x6, x7.tr ((kI.f _ _).q n), x8, x9.tr ((kM.f _ _ _).q n), x10.tr (kM.f m1 (I1 1) m1.2.1).g, by rw [g3.2]; omega, by rw [g3.2]; omega, Or.inr ⟨u6, by show (I1 1).toInt ≤ 80; omega, rfl, u6⟩⟩
            · rw [g1, Option.bind_some, br_stop (Zd := Zd) g2 u6, Option.bind_some]
            · rw [hmt, Option.bind_some, seg_stop, Option.bind_some, m_must0 y80 hq93, Option.bind_some]
      · -- a letter or digit too many
        obtain ⟨u1, ⟨u2, u3, u4⟩, u5, u6⟩ := y8
        have hbm : 0 ≤ (m1.1 2).toInt := by rw [u6]; exact u2
        have hq93 := nc_ne u5 nc_lit.1
        have hq44 := nc_ne u5 nc_lit.2.1
        obtain ⟨s2, g1, g2, g3⟩ := c_need0 (Zd := Zd) x3 u2 u4 (c := 44) hq44 u1
        rw [c_right1 (Zd := Zd) x3 u1, Option.bind_some, if_neg h10, c_take0 (Zd := Zd) x3 u2 u4 hq93, Option.bind_some, if_pos rfl, fo_1 x3.1, Option.bind_some]
        refine ⟨s2, upd I1 2 (I1 1), A1, R1, m1, ?_, ?_, g2, x4.tr g3.1, ⟨x5.1, x5.2⟩, x6, x7.tr ((kI.f _ _).q n), x8, x9, x10, by rw [g3.2]; omega, by rw [g3.2]; omega, Or.inr ⟨u2, u3, u6, u2⟩⟩
        · rw [g1, Option.bind_some, br_stop (Zd := Zd) g2 u2, Option.bind_some]
        · rw [m_takesB hbm, Option.bind_some, seg_stop, Option.bind_some, m_mustB hbm, Option.bind_some]
    · have hbm : 0 ≤ (m1.1 2).toInt := by rw [y1.2.2.1]; exact y1.1
      refine ⟨s1, I1, A1, R1, m1, ?_, ?_, x3, x4, x5, x6, x7, x8, x9, x10, y2, y3, Or.inr y1⟩
      · rw [c_right0 (Zd := Zd) x3 y1.1, Option.bind_some, if_pos rfl]
      · rw [m_takesB hbm, Option.bind_some, seg_stop, Option.bind_some, m_mustB hbm, Option.bind_some]
/-- a segment in brackets -/
theorem brk_lock (h : Cx K st q cw I A R Q) (hT : Tq I A ms) (hW : Wq I A) {n : Nat} (h4 : I 4 = ms.1 6) (hn : (I 4).toInt = n) (h8 : n ≤ 8) {dp : Int32} (hd : dp = 0 ∨ dp = 1) (z6 : st.1.1 + 2 * (8 - n) ≤ Zd 6) (z7 : st.1.2 + 14 * (8 - n) ≤ Zd 7) : BO K st q cw I A R Q ms n n dp (c_Query_bracket Zd K (q 4) (some (q 1)) dp st) ((m_must (91 : Int32) ms).bind fun st18 => (if (0 : Int32) ≤ (st18.1 2) then (some (0 : Int32)) else (some (1 : Int32))).bind fun e21 => (m_segment_l1 4096 (e21, (0 : Int32), st18)).bind fun e23 => (m_must (93 : Int32) e23.2.2).bind fun st32 => some st32) := by
  have N := nums
  have hT0 := hT
  obtain ⟨t1, t2, t3, t4, t5, t6, t7, t8⟩ := hT
  by_cases hq : chr (A 0) (I 0) (I 1) = 91
  · obtain ⟨s1, g1, g2, g3⟩ := c_need1 (Zd := Zd) h t6 t8 (c := 91) (by decide) hq
    obtain ⟨d1, d2, d3⟩ := chr_lt hq (by decide)
    have k1 : (I 1 + 1).toInt = (I 1).toInt + 1 := by rw [i32add (by omega) (by omega)]; omega
    have hs1 : s1.1.1 = st.1.1 ∧ s1.1.2 = st.1.2 := by rw [g3.2]; exact ⟨rfl, rfl⟩
    obtain ⟨s3, I3, A3, R3, m3, i1, i2, i3, i4, i5, i6, i7, i8, i9, i10, i11, i12, i13⟩ := br_l (Zd := Zd) (b := n) hd (8 - n) 4096 4096 n 0 0 s1 (upd I 1 (I 1 + 1)) A R (upd ms.1 1 (I 1 + 1), ms.2.1, ms.2.2.1, ms.2.2.2) (by omega) (Nat.le_refl _) (by rw [Int.sub_self]; rfl) (by rw [Int.sub_self]; rfl) (by omega) (by omega) g2 (hT0.up (by omega) (by omega)) ⟨hW.1, hW.2⟩ h4 hn (fun j h1 h2 => by omega) (by omega) (by omega)
    refine ⟨s3, I3, A3, R3, m3, ?_, ?_, i3, g3.1.tr i4, i5, i6, ((kI.p _ _).q n).tr i7, i8, ((kM.p ms (I 1 + 1) ms.2.1).q n).tr i9, (kM.p ms (I 1 + 1) ms.2.1).g.tr i10, by omega, by omega, ?_⟩
    · simp only [c_Query_bracket, Option.bind_some, fo_1 h.1, g1]
      exact i1
    · have hb : upd ms.1 1 (I 1 + 1) 2 = -1 := t5
      rw [m_must1 hT0 hq, Option.bind_some]
      simp only [hb, neg1, if_false, Option.bind_some]
      exact i2
    · rcases i13 with ⟨n1, v1, v2, v3, v4, v5, v6, v7, v8⟩ | v1
      · exact Or.inl ⟨n1, v1, v2, v3, v4, v5, by omega, by omega, v8⟩
      · exact Or.inr v1
  · obtain ⟨s1, g1, g2, g3⟩ := c_need0 (Zd := Zd) h t6 t8 (c := 91) hq t4
    have hb : 0 ≤ (((upd ms.1 2 (I 1), ms.2.1, ms.2.2.1, ms.2.2.2) : MS).1 2).toInt := t6
    have hb2 : (0 : Int32) ≤ upd ms.1 2 (I 1) 2 := i32n t6
    refine ⟨s1, upd I 2 (I 1), A, R, (upd ms.1 2 (I 1), ms.2.1, ms.2.2.1, ms.2.2.2), ?_, ?_, g2, g3.1, ⟨hW.1, hW.2⟩, fun _ _ => rfl, (kI.f _ _).q n, qkR.rf _ _, (kM.f _ _ _).q n, (kM.f ms (I 1) ms.2.1).g, by rw [g3.2]; omega, by rw [g3.2]; omega, Or.inr ⟨t6, by show (I 1).toInt ≤ 80; omega, rfl, t6⟩⟩
    · simp only [c_Query_bracket, Option.bind_some, fo_1 h.1, g1]
      rw [show (4096 : Nat) = 4095 + 1 from rfl, br_stop (Zd := Zd) g2 t6]
      rfl
    · rw [m_must0 hT0 hq, Option.bind_some]
      simp only [hb2, if_true, Option.bind_some]
      rw [show (4096 : Nat) = 4095 + 1 from rfl, seg_stop, Option.bind_some, m_mustB hb]
      rfl
end BRK
