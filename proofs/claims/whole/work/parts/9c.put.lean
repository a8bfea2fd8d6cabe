/-! put: class and model. -/
section PUT
variable {Zd : Nat → Nat} {K : KE} {q : Nat → Nat} {cw : Nat} {R : Nat → Option Nat} {Q : Nat → Nat → Option Nat} {st st1 : CS} {I I1 : Nat → Int32} {A A1 : Nat → Nat → Int32} {ms ms2 : MS}
theorem rowIs.low {c b : Nat} {L : List Nd} (h : rowIs ms b L) (hl : lowM c ms ms2) (hc : b + L.length ≤ c) : rowIs ms2 b L := by
  intro i x hx
  obtain ⟨h1, h2, h3, h4, h5⟩ := h i x hx
  have hi : i < L.length := (List.getElem?_eq_some_iff.mp hx).1
  obtain ⟨g1, g2, g3⟩ := hl.2.2.2 (b + i) (by omega)
  exact ⟨g1.trans h1, g2.trans h2, (g3 0 (by decide)).trans h3, (g3 1 (by decide)).trans h4, fun h0 => by rw [g3 2 (by decide), g3 3 (by decide)]; exact h5 h0⟩
theorem docIs.low {c base : Nat} {r : Option Nat} {t : Int32} (h : docIs Zd K st ms base r t) (hl : lowM c ms ms2) (hc : base + 24 ≤ c) : docIs Zd K st ms2 base r t := by
  cases r with
  | none => exact h
  | some a =>
    obtain ⟨h1, L, h2, h3, h4⟩ := h
    exact ⟨h1, L, h2, h3.low hl (by omega), h4⟩
theorem Rv.cx (h : Rv Zd K st ms q cw I A R Q) : Cx K st q cw I A R Q := ⟨h.1, h.2.1, h.2.2.2.2.2.2.2.2.2.2⟩
theorem Rv.wq (h : Rv Zd K st ms q cw I A R Q) : Wq I A := by
  obtain ⟨hF, hw, hT, hS, hP, hk, hd, hr, ho, ⟨w1, w2, w3, w4, w5⟩, hz⟩ := h
  exact ⟨w1, w2, fun i => (w5 i).2.1⟩
/-- what reading a text leaves as it was -/
theorem Rv.read (h : Rv Zd K st ms q cw I A R Q) (hC : Cx K st1 q cw I1 A1 R Q) (hl : le K st st1) (hW : Wq I1 A1) (hI : kI3 I I1) (hA : kA A A1) (hm : lowM 1920 ms ms2) : Rv Zd K st1 ms2 q cw I1 A1 R Q := by
  obtain ⟨hF, hw, ⟨t1, t2, t3, t4⟩, ⟨⟨s1, s2, s3⟩, ⟨s4, s5, s6⟩, ⟨s7, s8, s9, s10⟩, s11, s12, s13⟩, hP, hk, hd, ⟨r1, r2, r3, r4⟩, ⟨o1, o2, o3, o4, o5, o6, o7⟩, ⟨w1, w2, w3, w4, w5⟩, hz⟩ := h
  have i : ∀ k, k ≠ 1 ∧ k ≠ 2 ∧ k ≠ 3 ∧ k ≠ 14 ∧ k ≠ 15 → I1 k = I k := fun k h9 => hI k h9.1 h9.2.1 h9.2.2.1 h9.2.2.2.1 h9.2.2.2.2
  have m : ∀ k, k ≠ 1 ∧ k ≠ 2 ∧ k ≠ 3 ∧ k ≠ 4 → ms2.1 k = ms.1 k := fun k h9 => hm.1 k h9.1 h9.2.1 h9.2.2.1 h9.2.2.2
  have a : ∀ k, k ≠ 1 ∧ k ≠ 2 ∧ k ≠ 3 → ms2.2.2.1 k = ms.2.2.1 k := fun k h9 => hm.2.1 k h9.1 h9.2.1 h9.2.2
  have e12 := a 12 (by decide)
  have e13 := a 13 (by decide)
  have e14 := a 14 (by decide)
  have e15 := a 15 (by decide)
  have e16 := a 16 (by decide)
  have e17 := a 17 (by decide)
  have e18 := a 18 (by decide)
  refine ⟨hC.1, hC.2.1, ⟨?_, ?_, ?_, ?_⟩, ⟨⟨?_, ?_, ?_⟩, ⟨?_, ?_, ?_⟩, ⟨?_, ?_, ?_, ?_⟩, ?_, ?_, ?_⟩, ?_, ?_, ?_, ⟨?_, ?_, ?_, ?_⟩, ⟨?_, ?_, ?_, ?_, o5, o6, ?_⟩, ⟨hW.1, hW.2.1, ?_, ?_, ?_⟩, hC.2.2⟩
  · rw [hA 0 (by decide), a 0 (by decide)]; exact t1
  · rw [i 0 (by decide), m 0 (by decide)]; exact t2
  · rw [i 0 (by decide)]; exact t3
  · rw [i 0 (by decide)]; exact t4
  · rw [i 9 (by decide), m 14 (by decide)]; exact s1
  · rw [i 10 (by decide), m 12 (by decide)]; exact s2
  · rw [i 11 (by decide), m 13 (by decide)]; exact s3
  · rw [i 11 (by decide)]; exact s4
  · rw [i 10 (by decide)]; exact s5
  · rw [i 10 (by decide)]; exact s6
  · rw [hA 2 (by decide), e16]; exact s7
  · rw [hA 3 (by decide), e15]; exact s8
  · rw [hA 4 (by decide), e17]; exact s9
  · rw [hA 5 (by decide), e18]; exact s10
  · rw [hA 4 (by decide)]; exact s11
  · rw [hA 3 (by decide)]; exact s12
  · rw [hA 5 (by decide)]; exact s13
  · intro j hj h9 hh9
    rw [hA (10 + j) (by omega), e13]
    exact hP j hj h9 hh9
  · unfold Rk isRoot
    rw [e12, e13, e14, e15, e17, e18]
    exact hk
  · intro j hj i9 hi9
    rw [e14]
    exact ((hd j hj i9 hi9).le hl).low hm (by omega)
  · rw [i 5 (by decide), m 10 (by decide)]; exact r1
  · rw [i 5 (by decide)]; exact r2
  · rw [i 5 (by decide)]; exact r3
  · intro j hj
    rw [i 5 (by decide)] at hj
    obtain ⟨g1, a9, g2, g3⟩ := r4 j hj
    rw [hA 1 (by decide), a 10 (by decide)]
    exact ⟨g1, a9, g2, (g3.le hl).low hm (by omega)⟩
  · rw [i 13 (by decide), m 11 (by decide)]; exact o1
  · rw [i 13 (by decide)]; exact o2
  · rw [i 13 (by decide)]; exact o3
  · rw [i 13 (by decide)]; exact o4
  · rw [i 13 (by decide), hA 6 (by decide), a 11 (by decide)]; exact o7
  · rw [i 17 (by decide)]; exact w3
  · rw [i 17 (by decide)]; exact w4
  · intro j
    rw [hA 6 (by decide), hA 8 (by decide)]
    exact ⟨(w5 j).1, hW.2.2 j, (w5 j).2.2⟩
theorem clear_lock (h : Rv Zd K st ms q cw I A R Q) : ∃ st1, c_Text_clear Zd K (q 1) st = some st1 ∧ st1.1 = st.1 ∧ le K st st1 ∧ Rv Zd K st1 (upd ms.1 0 0, ms.2.1, ms.2.2.1, ms.2.2.2) q cw (upd I 0 0) A R Q := by
  obtain ⟨hF, hw, ⟨t1, t2, t3, t4⟩, hS, hP, hk, hd, hr, ho, hb, hz⟩ := h
  obtain ⟨st2, e1, e2, hF2⟩ := fw_1_2 hF 0
  have l2 : le K st st2 := by rw [e2]; exact nb_le hz (hF.fl (i := 1) rfl).1 (hF.fl (i := 1) rfl).2 rfl
  have z2 : Rz K st2 q := by rw [e2]; exact nb_Rz hz (hF.fl (i := 1) rfl).1 (hF.fl (i := 1) rfl).2 rfl rfl
  refine ⟨st2, by simp only [c_Text_clear, e1, Option.bind_some], by rw [e2]; rfl, l2, hF2, by rw [e2]; exact hw, ⟨t1, rfl, by show 0 ≤ (0 : Int32).toInt; decide, by show (0 : Int32).toInt ≤ 80; decide⟩, hS, hP, hk, hd.mono l2 ⟨rfl, rfl, rfl, rfl, rfl, rfl⟩ rfl, hr.mono l2 ⟨rfl, rfl, rfl, rfl, rfl, rfl⟩ rfl rfl rfl rfl, ho, hb, z2⟩
theorem size_l {d : Nat} {fv : Option Nat → Int32 → CS → Option Int32} {a1 : Int32} (hf : ∀ a L, treeOf Zd K st d a = some L → fv (some a) (a1 + 1) st = some (Int32.ofNat L.length)) : ∀ (ks : List Kd) (fuel : Nat) (n : Int32) (r : Option Nat), Cs (fT Zd K st d) r ks none → ks.length < fuel → c_Value_sizeOf_l1 K fv a1 st fuel (n, r) = some (n + Int32.ofNat (kL ks).flatten.length, none) := by
  intro ks
  induction ks with
  | nil =>
    intro fuel n r h hl
    obtain ⟨f, rfl⟩ : ∃ f, fuel = f + 1 := ⟨fuel - 1, by omega⟩
    have h : r = none := h
    subst h
    rw [c_Value_sizeOf_l1_s]
    show some (n, none) = _
    have : n + Int32.ofNat (kL []).flatten.length = n := by
      show n + 0 = n
      simp
    rw [this]
  | cons x ks ih =>
    rintro fuel n r ⟨h1, nx, h2, h3⟩ hl
    obtain ⟨f, rfl⟩ : ∃ f, fuel = f + 1 := ⟨fuel - 1, by omega⟩
    subst h1
    rw [c_Value_sizeOf_l1_s]
    have hl : ks.length < f := by have : ks.length + 1 < f + 1 := hl; omega
    simp only [nl, Option.bind_some, hf _ _ h2.1, h2.2, ih f _ nx h3 hl]
    rw [kL_cons, List.flatten_cons, List.length_append, Int32.ofNat_add, Int32.add_assoc]
theorem size_ok (hk : wk K) : ∀ (d e a : Nat) (L : List Nd) (a1 : Int32), treeOf Zd K st d a = some L → d ≤ e → 0 ≤ a1.toInt → a1.toInt + d ≤ 8 → c_Value_sizeOf Zd K e (some a) a1 st = some (Int32.ofNat L.length) := by
  have N := nums
  intro d
  induction d with
  | zero => intro e a L a1 h; cases h
  | succ d ih =>
    intro e a L a1 h he h0 h8
    obtain ⟨e, rfl⟩ : ∃ f, e = f + 1 := ⟨e - 1, by omega⟩
    obtain ⟨o, num, cs, ns, fst, nx, ks, ⟨k, c, n, fs, u1, u2, u3, u4, u5, u6, u7, u8, u9⟩, hcs, hlen, hok, rfl⟩ := tree_node hk h
    have h88 : (8 : Int32).toInt = 8 := by decide
    have hlt : ¬ (8 : Int32) ≤ a1 := fun e9 => by have := i32le.mp e9; omega
    have k1 : (a1 + 1).toInt = a1.toInt + 1 := by rw [i32add (by omega) (by omega)]; omega
    have hl := size_l (Zd := Zd) (K := K) (st := st) (fv := c_Value_sizeOf Zd K e) (a1 := a1) (fun a L h9 => ih e a L (a1 + 1) h9 (by omega) (by omega) (by omega)) ks 4096 1 fst hcs (by omega)
    show c_Value_sizeOf_b Zd K (c_Value_sizeOf Zd K e) (some a) a1 st = _
    simp only [c_Value_sizeOf_b, hlt, if_false, Option.bind_some, u6, hl]
    rw [List.length_cons, Nat.add_comm, Int32.ofNat_add]
    rfl
theorem sim_put (h : Rv Zd K st ms q cw I A R Q) (hk : kc Zd K) (z6 : st.1.1 + 120 ≤ Zd 6) (z7 : st.1.2 + 816 ≤ Zd 7) (id : Int32) : ∃ x st1 ms1 I1 A1 Q1, c_PagedValues_put Zd K (q 0) id st = some (x, st1) ∧ m_put id ms = some (x, ms1) ∧ st1.1.1 ≤ st.1.1 + 120 ∧ st1.1.2 ≤ st.1.2 + 816 ∧ Rv Zd K st1 ms1 q cw I1 A1 R Q1 := by
  have L := nums
  have h0 := h
  have hF := h.1
  obtain ⟨-, -, ⟨t1, t2, t3, t4⟩, hS, -⟩ := h
  have s3 : I 11 = ms.1 13 := hS.1.2.2
  have h10 : ¬ ((1 : Int32) = 0) := by decide
  by_cases hdn : I 11 = 0
  · have hdm : ms.1 13 = 0 := s3.symm.trans hdn
    have g8 : gI K st (q 6) 9 8 = some 0 := by rw [fg_6_8 hF, hdn]
    by_cases hid : id < 0 ∨ 8 ≤ id
    · have hc : c_PagedValues_isId Zd K id st = some 0 := by
        rcases hid with e | e
        · simp only [c_PagedValues_isId, e, if_true, Option.bind_some, bz]; rfl
        · by_cases e1 : id < 0
          · simp only [c_PagedValues_isId, e1, if_true, Option.bind_some, bz]; rfl
          · simp only [c_PagedValues_isId, e1, e, if_true, if_false, Option.bind_some, bz]; rfl
      have hm : m_within id 0 7 = some 0 := m_within_0 (hid.imp (fun e => e) (fun e => i32lt.mpr (by have := i32le.mp e; rw [show (8 : Int32).toInt = 8 from by decide] at this; rw [show (7 : Int32).toInt = 7 from by decide]; omega)))
      refine ⟨-1, st, ms, I, A, Q, ?_, ?_, by omega, by omega, h0⟩
      · simp only [c_PagedValues_put, fg_0_5 hF, g8, Option.bind_some, if_true, hc]
      · simp only [m_put, hdm, if_true, hm, Option.bind_some]
    · have hi0 : ¬ id < 0 := fun e => hid (Or.inl e)
      have hi8 : ¬ 8 ≤ id := fun e => hid (Or.inr e)
      have hc : c_PagedValues_isId Zd K id st = some 1 := by
        simp only [c_PagedValues_isId, hi0, hi8, if_false, Option.bind_some, bz]; rfl
      have hm : m_within id 0 7 = some 1 := m_within_1 hi0 (fun e => hi8 (i32le.mpr (by have := i32lt.mp e; rw [show (7 : Int32).toInt = 7 from by decide] at this; rw [show (8 : Int32).toInt = 8 from by decide]; omega)))
      obtain ⟨st2, I2, A2, m2, p1, p2, p3, p4, p5, p6, p7, p8, p9, p10⟩ := parse_lock (ms := ms) hk h0.cx t1 t2 t3 t4 h0.wq z6 z7
      have hR2 := h0.read p2 p3 p4 p5 p6 p7
      obtain ⟨st3, c1, c2, c3, hR3⟩ := clear_lock hR2
      have hF2 := hR2.1
      have hF3 := hR3.1
      have hcp : ∀ cv, c_ValueParser_parse Zd K (q 2) (some (q 1)) st = some (cv, st2) → c_PagedValues_put Zd K (q 0) id st = nl cv ((gQ K st3 (q 0) 0 0).bind fun x31 => x31.bind fun a32z => (gI K st3 a32z 1 4).bind fun x33 => (some (((-100) : Int32) - x33)).bind fun y34 => some (y34, st3)) (fun a30z => (isO K st3 (q 0) 0).bind fun _ => (c_PagedValues_change Zd K (q 0) id cv st3).bind fun r37 => (if r37.1 = (0 : Int32) then ((c_Value_sizeOf Zd K 10 cv (0 : Int32) r37.2).bind fun x41 => some x41) else (some r37.1)).bind fun e38 => some (e38, r37.2)) := by
        intro cv hcv
        simp only [c_PagedValues_put, fg_0_5 hF, g8, Option.bind_some, if_true, hc, h10, if_false, fg_0_1 hF, fg_0_0 hF, fo_2 hF, hcv, fg_0_0 hF2, fo_1 hF2, c1]
      rcases p10 with ⟨a, N, L9, e1, e2, e3, e4, e5, e6, e7, e8, e9⟩ | ⟨e1, u1, u2, u3, u4⟩
      · have htr := c3.tree 5 a L9 (Tw.tree _ _ _ _ _ e2)
        have hsrc : srcOk Zd K st3 (upd m2.1 0 0, m2.2.1, m2.2.2.1, m2.2.2.2) (some a) 80 := Or.inr ⟨a, 1920, 1920, L9, rfl, by decide, at80, by decide, Nat.le_refl _, by omega, htr, e9, e6⟩
        have hdn3 : upd I2 0 0 11 = 0 := (p5 11 (by decide) (by decide) (by decide) (by decide) (by decide)).trans hdn
        obtain ⟨st4, ms4, I4, A4, Q4, x, d1, d2, d3, d4, d5, d6⟩ := pv_change hR3 hdn3 hk.2.2 hi0 hi8 hsrc
        have hbad : (m2.1 2) < (0 : Int32) := by rw [e8]; decide
        have hb1 : st4.1.1 = st2.1.1 ∧ st4.1.2 = st2.1.2 := by rw [d3, c2]; exact ⟨rfl, rfl⟩
        by_cases hx : x = 0
        · have hrow : rowIs ms4 1920 L9 := d6 1920 L9 (by decide) e9
          have htr4 := d4.tree 5 a L9 htr
          have hsz := size_ok hk.2.2 5 10 a L9 0 htr4 (by decide) (by decide) (by decide)
          have hspan : rd (ms4.2.2.1 2) 2100 1920 = some (Int32.ofNat L9.length) := by
            obtain ⟨o, num, cs, ns, fst, nx, ks, -, -, -, -, hL⟩ := tree_node hk.2.2 htr4
            have h9 := (hrow 0 (o, 1 + (kL ks).flatten.length, num, cs, ns) (by rw [hL]; rfl)).2.1
            rw [rd_in (vp_of (by decide) (by decide))]
            show some (ms4.2.2.1 2 (1920 + 0)) = _
            rw [h9, hL, List.length_cons, Nat.add_comm]
          refine ⟨Int32.ofNat L9.length, st4, ms4, I4, A4, Q4, ?_, ?_, by omega, by omega, d5⟩
          · rw [hcp _ e1]
            simp only [nl, fo_0 hF3, Option.bind_some, d1, hx, if_true, hsz]
          · simp only [m_put, hdm, if_true, hm, Option.bind_some, h10, if_false, p1, hbad, d2, hx, at80, hspan]
        · refine ⟨x, st4, ms4, I4, A4, Q4, ?_, ?_, by omega, by omega, d5⟩
          · rw [hcp _ e1]
            simp only [nl, fo_0 hF3, Option.bind_some, d1, hx, if_false]
          · simp only [m_put, hdm, if_true, hm, Option.bind_some, h10, if_false, p1, hbad, d2, hx]
      · have hbad : ¬ (m2.1 2) < (0 : Int32) := fun e => by rw [u3] at e; have := i32lt.mp e; omega
        refine ⟨-100 - I2 2, st3, (upd m2.1 0 0, m2.2.1, m2.2.2.1, m2.2.2.2), upd I2 0 0, A2, Q, ?_, ?_, by rw [c2]; omega, by rw [c2]; omega, hR3⟩
        · rw [hcp _ e1]
          simp only [nl, fg_0_0 hF3, Option.bind_some, fg_1_4 hF3]
          rfl
        · simp only [m_put, hdm, if_true, hm, Option.bind_some, h10, if_false, p1, hbad]
          rw [u3]
  · have hdm : ¬ ms.1 13 = 0 := fun e => hdn (s3.trans e)
    refine ⟨-9, st, ms, I, A, Q, ?_, ?_, by omega, by omega, h0⟩
    · simp only [c_PagedValues_put, fg_0_5 hF, fg_6_8 hF, Option.bind_some, hdn, if_false]
    · simp only [m_put, hdm, if_false, Option.bind_some]
end PUT
