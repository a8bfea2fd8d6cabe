/-! Queries: all documents, the answer; class and model. -/
section QUERY3
variable {Zd : Nat → Nat} {K : KE} {q : Nat → Nat} {cw : Nat} {R : Nat → Option Nat}
theorem c_ql2 (o : Nat) (a1 x : Int32) : ∀ f e, c_PagedValues_query_l2 Zd K o a1 x f e = c_PagedValues_query_l1 Zd K o a1 x f e := by
  intro f
  induction f with
  | zero => intro e; rfl
  | succ f ih => intro e; rw [c_PagedValues_query_l2_s, c_PagedValues_query_l1_s]; simp only [ih]
theorem m_ql2 (r id : Int32) : ∀ f e, m_query_l2 r id f e = m_query_l1 r id f e := by
  intro f
  induction f with
  | zero => intro e; rfl
  | succ f ih => intro e; rw [m_query_l2_s, m_query_l1_s]; simp only [ih]
theorem qs_mv {st st1 : CS} {I I1 : Nat → Int32} {ms ms1 : MS} {g n : Nat} {E : Nat → Nat} (h : QS K st I R ms g n E) (hl : le K st st1) (hi : ∀ k, 100 ≤ k → I1 k = I k) (h5 : ms1.1 5 = ms.1 5) (ha : ms1.2.2.1 = ms.2.2.1) (hb : ms1.2.2.2 = ms.2.2.2) : QS K st1 I1 R ms1 g n E := by
  obtain ⟨h1, h2, h3, h4⟩ := h
  refine ⟨h1, h2, by rw [h5]; exact h3, fun i hg => ?_⟩
  obtain ⟨g1, g2, g3⟩ := h4 i hg
  rw [ha]
  refine ⟨g1, g2, fun j x1 x2 => ?_⟩
  obtain ⟨y1, y2, y3⟩ := g3 j x1 x2
  refine ⟨?_, by rw [hi _ (by omega)]; exact y2, fun e => by rw [hi _ (by omega)]; exact y3 e⟩
  unfold SO at y1 ⊢
  rw [hi (102 + 4 * j) (by omega), hi (103 + 4 * j) (by omega), ha, hb]
  rcases y1 with ⟨a1, a2, a, cs, a3, a4, a5⟩ | y1
  · exact Or.inl ⟨a1, a2, a, cs, a3, hl.str a4, a5⟩
  · exact Or.inr y1
theorem KQ.rf {st : CS} {I : Nat → Int32} {A : Nat → Nat → Int32} {Q : Nat → Nat → Option Nat} {ms : MS} (hC : Cx K st q cw I A R Q) (h8 : I 8 = ms.1 9) (h8b : I 8 = 0 ∨ I 8 = 1) : KQ K st q cw I A R Q ms st I A Q ms := ⟨hC, le.rf K st, rfl, ⟨h8, h8b⟩, fun _ _ _ _ _ => rfl, fun _ _ => rfl, fun _ _ _ _ => rfl, fun _ _ _ _ _ => rfl, rfl, fun _ _ _ _ _ _ => rfl, fun _ _ => rfl, lowR.rf _ _⟩
theorem KQ.root {st st1 : CS} {I I1 : Nat → Int32} {A A1 : Nat → Nat → Int32} {Q Q1 : Nat → Nat → Option Nat} {ms ms1 : MS} (hf : KQ K st q cw I A R Q ms st1 I1 A1 Q1 ms1) (r : Int32) : m_rootOf r ms1 = m_rootOf r ms := by
  have ha := hf.2.2.2.2.2.2.2.2.2.1
  simp only [m_rootOf, m_current, ha 15 (by decide) (by decide) (by decide) (by decide) (by decide), ha 16 (by decide) (by decide) (by decide) (by decide) (by decide), ha 18 (by decide) (by decide) (by decide) (by decide) (by decide)]
theorem ql_c {st : CS} {ms : MS} {I : Nat → Int32} {A : Nat → Nat → Int32} {Q : Nat → Nat → Option Nat} (hF : Fx st q cw I A R Q) (hP : Rp A ms) {w : Int32} (hw : pgr w) {c id : Int32} (hc : ¬ 8 ≤ c) {st1 : CS} {f : Nat} (h1 : (id = -1 ∨ id = c) → c_Finder_ask Zd K (q 5) (some (q 4)) (docS A Q w c) c st = some st1) (h2 : ¬ (id = -1 ∨ id = c) → st1 = st) : c_PagedValues_query_l1 Zd K (q 0) id w (f + 1) (c, st) = c_PagedValues_query_l1 Zd K (q 0) id w f (c + 1, st1) := by
  rw [c_PagedValues_query_l1_s]
  by_cases e1 : id = -1
  · simp only [hc, if_false, e1, if_true, fg_0_4 hF, fg_0_3 hF, fg_0_5 hF, fo_6 hF, c_doc hF hP hw, fo_5 hF, Option.bind_some, h1 (Or.inl e1)]
  · by_cases e2 : id = c
    · have h9 := h1 (Or.inr e2)
      subst e2
      simp only [hc, if_false, e1, if_true, fg_0_4 hF, fg_0_3 hF, fg_0_5 hF, fo_6 hF, c_doc hF hP hw, fo_5 hF, Option.bind_some, h9]
    · rw [h2 (fun e => e.elim e1 e2)]
      simp only [hc, if_false, e1, e2, Option.bind_some]
theorem ql_m {ms : MS} {A : Nat → Nat → Int32} (hP : Rp A ms) {w : Int32} (hw : pgr w) {r c id : Int32} (hc : ¬ 8 ≤ c) (h9 : ms.1 9 = 0) (hroot : m_rootOf r ms = some w) {ms1 : MS} {f : Nat} (h1 : ¬ rowS ms w c < 0 → (id = -1 ∨ id = c) → m_ask (rowS ms w c) c ms = some ms1) (h2 : rowS ms w c < 0 ∨ ¬ (id = -1 ∨ id = c) → ms1 = ms) : m_query_l1 r id (f + 1) (c, ms) = m_query_l1 r id f (c + 1, ms1) := by
  rw [m_query_l1_s]
  by_cases e0 : rowS ms w c < 0
  · rw [h2 (Or.inl e0)]
    simp only [hc, if_false, h9, if_true, hroot, m_row hP hw, Option.bind_some, e0]
  · by_cases e1 : id = -1
    · simp only [hc, if_false, h9, if_true, hroot, m_row hP hw, Option.bind_some, e0, e1, h1 e0 (Or.inl e1)]
    · by_cases e2 : id = c
      · have h8 := h1 e0 (Or.inr e2)
        subst e2
        simp only [hc, if_false, h9, if_true, hroot, m_row hP hw, Option.bind_some, e0, e1, h8]
      · rw [h2 (Or.inr (fun e => e.elim e1 e2))]
        simp only [hc, if_false, h9, if_true, hroot, m_row hP hw, Option.bind_some, e0, e1, e2]
theorem ql_l (hk : kc Zd K) {r id w : Int32} (hw : pgr w) {g n : Nat} {E : Nat → Nat} (hn8 : n ≤ 8) : ∀ (m f1 f2 : Nat) (c c2 : Int32) (st : CS) (I : Nat → Int32) (A : Nat → Nat → Int32) (Q : Nat → Nat → Option Nat) (ms : MS), c.toInt + m = 8 → 0 ≤ c.toInt → m < f1 → m < f2 → (I 8 = 0 → c2 = c) → Rv Zd K st ms q cw I A R Q → I 8 = ms.1 9 → (I 8 = 0 ∨ I 8 = 1) → (I 4).toInt = n → QS K st I R ms g n E → m_rootOf r ms = some w → ∃ st1 I1 A1 Q1 ms1 n1 n2, c_PagedValues_query_l1 Zd K (q 0) id w f1 (c, st) = some (n1, st1) ∧ m_query_l1 r id f2 (c2, ms) = some (n2, ms1) ∧ KQ K st q cw I A R Q ms st1 I1 A1 Q1 ms1 ∧ Rr Zd K st1 I1 A1 Q1 ms1 := by
  have N := nums
  have h10 : ¬ ((1 : Int32) = 0) := by decide
  intro m
  induction m with
  | zero =>
    intro f1 f2 c c2 st I A Q ms hm c0 hf1 hf2 hcc h h8 h8b hn hQ hroot
    obtain ⟨f1, rfl⟩ : ∃ f, f1 = f + 1 := ⟨f1 - 1, by omega⟩
    obtain ⟨f2, rfl⟩ : ∃ f, f2 = f + 1 := ⟨f2 - 1, by omega⟩
    have hc : (8 : Int32) ≤ c := i32le.mpr (by omega)
    refine ⟨st, I, A, Q, ms, c, c2, ?_, ?_, KQ.rf h.cx h8 h8b, h.2.2.2.2.2.2.2.1⟩
    · rw [c_PagedValues_query_l1_s]
      simp only [hc, if_true]
    · rw [m_query_l1_s]
      rcases h8b with e | e
      · rw [hcc e]; simp only [hc, if_true]
      · have e9 : ¬ ms.1 9 = 0 := by rw [← h8, e]; exact h10
        simp only [e9, if_false, ite_self]
  | succ m ih =>
    intro f1 f2 c c2 st I A Q ms hm c0 hf1 hf2 hcc h h8 h8b hn hQ hroot
    obtain ⟨f1, rfl⟩ : ∃ f, f1 = f + 1 := ⟨f1 - 1, by omega⟩
    have hc : ¬ (8 : Int32) ≤ c := fun e => by have := i32le.mp e; omega
    have kn : (c + 1).toInt = c.toInt + 1 := by rw [i32add (by omega) (by omega)]; omega
    have q1 : (c + 1).toInt + m = 8 := by omega
    have q2 : 0 ≤ (c + 1).toInt := by omega
    have hF := h.1
    have hP : Rp A ms := h.2.2.2.2.1
    have hd : Rd Zd K st Q ms := h.2.2.2.2.2.2.1
    -- one document
    obtain ⟨s1, I1, A1, Q1, m1, a1, a2, a3, a4, a5⟩ : ∃ s1 I1 A1 Q1 m1, c_PagedValues_query_l1 Zd K (q 0) id w (f1 + 1) (c, st) = c_PagedValues_query_l1 Zd K (q 0) id w f1 (c + 1, s1) ∧ (I 8 = 0 → ∀ f, m_query_l1 r id (f + 1) (c, ms) = m_query_l1 r id f (c + 1, m1)) ∧ (I 8 = 1 → m1 = ms) ∧ KQ K st q cw I A R Q ms s1 I1 A1 Q1 m1 ∧ Rr Zd K s1 I1 A1 Q1 m1 := by
      by_cases hsel : id = -1 ∨ id = c
      · rcases doc_row hP hd hw c with ⟨e1, e2⟩ | ⟨a, k, e1, e2, e3, e4⟩
        · refine ⟨st, I, A, Q, ms, ql_c hF hP hw hc (fun _ => by rw [e1]; rfl) (fun _ => rfl), fun e f => ql_m hP hw hc (h8.symm.trans e) hroot (fun e9 => absurd (by rw [e2]; decide) e9) (fun _ => rfl), fun _ => rfl, KQ.rf h.cx h8 h8b, h.2.2.2.2.2.2.2.1⟩
        · obtain ⟨s1, I1, A1, Q1, m1, b1, b2, b3, b4, b5⟩ := ask_lock hk h h8 h8b hn8 hn hQ e2 e4 e3 c
          have hge : ¬ rowS ms w c < 0 := fun e9 => by have := i32lt.mp e9; omega
          exact ⟨s1, I1, A1, Q1, m1, ql_c hF hP hw hc (fun _ => by rw [e1]; exact b1) (fun e9 => absurd hsel e9), fun e f => ql_m hP hw hc (h8.symm.trans e) hroot (fun _ _ => b2 e) (fun e9 => e9.elim (fun x => absurd x hge) (fun x => absurd hsel x)), b3, b4, b5⟩
      · exact ⟨st, I, A, Q, ms, ql_c hF hP hw hc (fun e9 => absurd e9 hsel) (fun _ => rfl), fun e f => ql_m hP hw hc (h8.symm.trans e) hroot (fun _ e9 => absurd e9 hsel) (fun _ => rfl), fun _ => rfl, KQ.rf h.cx h8 h8b, h.2.2.2.2.2.2.2.1⟩
    have hRv := h.kq a4 a5
    have hI4 : (I1 4).toInt = n := by rw [a4.2.2.2.2.1 4 (by decide) (by decide) (by decide) (by decide)]; exact hn
    have hro : m_rootOf r m1 = some w := (a4.root r).trans hroot
    rcases h8b with h80 | h81
    · obtain ⟨f2, rfl⟩ : ∃ f, f2 = f + 1 := ⟨f2 - 1, by omega⟩
      obtain ⟨s2, I2, A2, Q2, m2, n1, n2, i1, i2, i3, i4⟩ := ih f1 f2 (c + 1) (c + 1) s1 I1 A1 Q1 m1 q1 q2 (Nat.lt_of_succ_lt_succ hf1) (Nat.lt_of_succ_lt_succ hf2) (fun _ => rfl) hRv a4.2.2.2.1.1 a4.2.2.2.1.2 hI4 (hQ.kq a4) hro
      exact ⟨s2, I2, A2, Q2, m2, n1, n2, a1.trans i1, by rw [hcc h80]; exact (a2 h80 f2).trans i2, a4.tr i3, i4⟩
    · have hme := a3 h81
      have h18 : I1 8 = 1 := by rw [a4.2.2.2.1.1, hme, ← h8]; exact h81
      obtain ⟨s2, I2, A2, Q2, m2, n1, n2, i1, i2, i3, i4⟩ := ih f1 f2 (c + 1) c2 s1 I1 A1 Q1 m1 q1 q2 (Nat.lt_of_succ_lt_succ hf1) (by omega) (fun e9 => absurd (h18.symm.trans e9) h10) hRv a4.2.2.2.1.1 a4.2.2.2.1.2 hI4 (hQ.kq a4) hro
      exact ⟨s2, I2, A2, Q2, m2, n1, n2, a1.trans i1, by rw [← hme]; exact i2, a4.tr i3, i4⟩
/-- a query's way behind the checks: the class's, the model's -/
def qtC (Zd : Nat → Nat) (K : KE) (q : Nat → Nat) (id w : Int32) (st : CS) : Option (Int32 × CS) := (c_Query_parse Zd K (q 4) (some (q 1)) st).bind fun st31 => (gQ K st31 (q 0) 0 0).bind fun x33 => x33.bind fun a34z => (isO K st31 a34z 1).bind fun _ => (c_Text_clear Zd K a34z st31).bind fun st36 => (gQ K st36 (q 0) 0 4).bind fun x38 => x38.bind fun a39z => (isO K st36 a39z 8).bind fun _ => (c_Finder_forget Zd K a39z st36).bind fun st41 => (gQ K st41 (q 0) 0 0).bind fun x43 => x43.bind fun a44z => (isO K st41 a44z 1).bind fun _ => (c_Text_isRight Zd K a44z st41).bind fun x45 => if x45 = (0 : Int32) then ((gQ K st41 (q 0) 0 0).bind fun x87 => x87.bind fun a88z => (gI K st41 a88z 1 4).bind fun x89 => (some (((-100) : Int32) - x89)).bind fun y90 => some (y90, st41)) else ((c_PagedValues_query_l1 Zd K (q 0) id w 4096 ((0 : Int32), st41)).bind fun e49 => (gQ K e49.2 (q 0) 0 4).bind fun x54 => x54.bind fun a55z => (isO K e49.2 a55z 8).bind fun _ => (c_Finder_total Zd K a55z e49.2).bind fun r58 => some (r58.1, r58.2))
def qtM (r id : Int32) (ms : MS) : Option (Int32 × MS) := (m_readQuery (upd ms.1 10 0, ms.2.1, ms.2.2.1, ms.2.2.2)).bind fun st8 => if (st8.1 2) < (0 : Int32) then ((m_query_l1 r id 4096 ((0 : Int32), (upd (upd st8.1 0 0) 9 0, st8.2.1, st8.2.2.1, st8.2.2.2))).bind fun e11 => (if (e11.2.1 9) = (0 : Int32) then (some (e11.2.1 10)) else (some (0 : Int32))).bind fun e18 => (if (e11.2.1 9) = (0 : Int32) then (some e18) else (some ((-6) : Int32))).bind fun e21 => some (e21, (upd e11.2.1 10 e18, e11.2.2.1, e11.2.2.2.1, e11.2.2.2.2))) else ((some ((-100) - (st8.1 2))).bind fun y42 => some (y42, (upd st8.1 0 0, st8.2.1, st8.2.2.1, st8.2.2.2)))
theorem upd_id9 (v : Nat → Int32) (k : Nat) : upd v k (v k) = v := by
  funext j
  by_cases e : j = k
  · subst e; exact upd_self
  · exact upd_ne e
theorem qt_lock (hk : kc Zd K) {st : CS} {ms : MS} {I : Nat → Int32} {A : Nat → Nat → Int32} {Q : Nat → Nat → Option Nat} (h : Rv Zd K st ms q cw I A R Q) {r id w : Int32} (hw : pgr w) (hroot : m_rootOf r ms = some w) (z6 : st.1.1 + 16 ≤ Zd 6) (z7 : st.1.2 + 112 ≤ Zd 7) : ∃ x st1 ms1 I1 A1 R1 Q1, qtC Zd K q id w st = some (x, st1) ∧ qtM r id ms = some (x, ms1) ∧ st1.1.1 ≤ st.1.1 + 16 ∧ st1.1.2 ≤ st.1.2 + 112 ∧ Rv Zd K st1 ms1 q cw I1 A1 R1 Q1 := by
  have N := nums
  have h10 : ¬ ((1 : Int32) = 0) := by decide
  obtain ⟨t1, t2, t3, t4⟩ := h.2.2.1
  obtain ⟨s1, I1, A1, R1, m1, a1, a2, a3, a4, a5, a6, a7, a8, a9, a10, a11, a12⟩ := qp_lock (Zd := Zd) (ms := (upd ms.1 10 0, ms.2.1, ms.2.2.1, ms.2.2.2)) h.cx t1 t2 t3 t4 h.wq z6 z7
  -- the text is empty, no results
  obtain ⟨s2, e1, e2, hF2⟩ := fw_1_2 a3.1 0
  have hm1 := a3.1.fl (i := 1) rfl
  have l2 : le K s1 s2 := by rw [e2]; exact nb_le a3.2.2 hm1.1 hm1.2 rfl
  have z2 : Rz K s2 q := by rw [e2]; exact nb_Rz a3.2.2 hm1.1 hm1.2 rfl rfl
  obtain ⟨s3, f1, f2, hF3⟩ := fw_5_4 hF2 0
  have hm5 := hF2.fl (i := 5) rfl
  have l3 : le K s2 s3 := by rw [f2]; exact nb_le z2 hm5.1 hm5.2 rfl
  have z3 : Rz K s3 q := by rw [f2]; exact nb_Rz z2 hm5.1 hm5.2 rfl rfl
  obtain ⟨s4, g1, g2, hF4⟩ := fw_5_7 hF3 0
  have hm5' := hF3.fl (i := 5) rfl
  have l4 : le K s3 s4 := by rw [g2]; exact nb_le z3 hm5'.1 hm5'.2 rfl
  have z4 : Rz K s4 q := by rw [g2]; exact nb_Rz z3 hm5'.1 hm5'.2 rfl rfl
  have l14 : le K s1 s4 := l2.tr (l3.tr l4)
  have c4 : Cx K s4 q cw (upd (upd (upd I1 0 0) 5 0) 8 0) A1 R1 Q := ⟨hF4, by rw [g2, f2, e2]; exact a3.2.1, z4⟩
  have hs4 : s4.1 = s1.1 := by rw [g2, f2, e2]; rfl
  have b6 : s4.1.1 ≤ st.1.1 + 16 := by rw [hs4]; omega
  have b7 : s4.1.2 ≤ st.1.2 + 112 := by rw [hs4]; omega
  have hi : ∀ k, k = 9 ∨ k = 10 ∨ k = 11 ∨ k = 13 ∨ k = 17 → upd (upd (upd I1 0 0) 5 0) 8 0 k = I k := fun k hk9 => by
    rw [upd_ne (by omega), upd_ne (by omega), upd_ne (by omega)]
    exact a7 k (by omega) (by omega) (by omega) (by omega) (by omega) (by omega)
  obtain ⟨x1, x2, x3, -⟩ := a9
  have hsr : sr ms m1 := ⟨x2 1 (by decide) (by decide) (by decide) (by decide), x2 2 (by decide) (by decide) (by decide) (by decide), x3 0 (by decide) (by decide), x3 1 (by decide) (by decide), x3 2 (by decide) (by decide), x3 3 (by decide) (by decide)⟩
  have ham : ∀ k, k = 0 ∨ 8 ≤ k → m1.2.2.1 k = ms.2.2.1 k := fun k hk9 => x2 k (by omega) (by omega) (by omega) (by omega)
  have him : ∀ k, k = 11 ∨ k = 12 ∨ k = 13 ∨ k = 14 → m1.1 k = ms.1 k := fun k hk9 => by
    rw [x1 k (by omega) (by omega) (by omega) (by omega)]
    dsimp only
    rw [upd_ne (by omega)]
  have hm10 : m1.1 10 = 0 := by
    rw [x1 10 (by decide) (by decide) (by decide) (by decide)]
    dsimp only
    rw [upd_self]
  have hWq : Wq (upd (upd (upd I1 0 0) 5 0) 8 0) A1 := ⟨a5.1, a5.2⟩
  have hRx : ∀ J : Nat → Int32, J 0 = 0 → J 10 = 0 → (∀ k, k = 11 ∨ k = 12 ∨ k = 13 ∨ k = 14 → J k = ms.1 k) → Rv Zd K s4 (J, m1.2.1, m1.2.2.1, m1.2.2.2) q cw (upd (upd (upd I1 0 0) 5 0) 8 0) A1 R1 Q := fun J j1 j2 j3 => h.qr c4 (a4.tr l14) hWq a6 rfl rfl hi j1 j2 j3 ham hsr
  have hcl : c_Text_clear Zd K (q 1) s1 = some s2 := by simp only [c_Text_clear, e1, Option.bind_some]
  have hfo : c_Finder_forget Zd K (q 5) s2 = some s4 := by simp only [c_Finder_forget, f1, g1, Option.bind_some]
  have hcq : qtC Zd K q id w st = (c_Text_isRight Zd K (q 1) s4).bind fun x45 => if x45 = (0 : Int32) then ((gQ K s4 (q 0) 0 0).bind fun x87 => x87.bind fun a88z => (gI K s4 a88z 1 4).bind fun x89 => (some (((-100) : Int32) - x89)).bind fun y90 => some (y90, s4)) else ((c_PagedValues_query_l1 Zd K (q 0) id w 4096 ((0 : Int32), s4)).bind fun e49 => (gQ K e49.2 (q 0) 0 4).bind fun x54 => x54.bind fun a55z => (isO K e49.2 a55z 8).bind fun _ => (c_Finder_total Zd K a55z e49.2).bind fun r58 => some (r58.1, r58.2)) := by
    simp only [qtC, a1, Option.bind_some, fg_0_0 a3.1, fo_1 a3.1, hcl, fg_0_4 hF2, fo_5 hF2, hfo, fg_0_0 hF4, fo_1 hF4]
  rcases a12 with ⟨g, n, E, y1, y2, y3, y4, y5⟩ | ⟨u1, u2, u3, u4⟩
  · -- a query
    have hb1 : (m1.1 2) < (0 : Int32) := by rw [y5]; decide
    have hright := c_right1 (Zd := Zd) c4 (y4 : upd (upd (upd I1 0 0) 5 0) 8 0 2 = -1)
    have hR4 := hRx (upd (upd m1.1 0 0) 9 0) rfl (by rw [upd_ne (by decide), upd_ne (by decide)]; exact hm10) (fun k hk9 => by rw [upd_ne (by omega), upd_ne (by omega)]; exact him k hk9)
    have hQ4 : QS K s4 (upd (upd (upd I1 0 0) 5 0) 8 0) R1 (upd (upd m1.1 0 0) 9 0, m1.2.1, m1.2.2.1, m1.2.2.2) g n E := qs_mv y3 l14 (fun k hk9 => by rw [upd_ne (by omega), upd_ne (by omega), upd_ne (by omega)]) (by dsimp only; rw [upd_ne (by decide), upd_ne (by decide)]) rfl rfl
    have hro : m_rootOf r (upd (upd m1.1 0 0) 9 0, m1.2.1, m1.2.2.1, m1.2.2.2) = some w := by
      rw [← hroot]
      simp only [m_rootOf, m_current, ham 15 (by decide), ham 16 (by decide), ham 18 (by decide)]
    obtain ⟨s5, I5, A5, Q5, m5, n1, n2, i1, i2, i3, i4⟩ := ql_l (Zd := Zd) (q := q) (cw := cw) (R := R1) hk (r := r) (id := id) hw y1 8 4096 4096 0 0 s4 _ A1 Q _ (by decide) (by decide) (by decide) (by decide) (fun _ => rfl) hR4 rfl (Or.inl rfl) y2 hQ4 hro
    have hR5 := hR4.kq i3 i4
    have b56 : s5.1 = s4.1 := i3.2.2.1
    rcases i3.2.2.2.1.2 with j0 | j1
    · have jm : m5.1 9 = 0 := by rw [← i3.2.2.2.1.1]; exact j0
      refine ⟨I5 5, s5, m5, I5, A5, R1, Q5, ?_, ?_, by rw [b56]; exact b6, by rw [b56]; exact b7, hR5⟩
      · rw [hcq]
        have g87 : gI K s5 (q 5) 8 7 = some 0 := by rw [fg_5_7 hR5.1, j0]
        simp only [hright, Option.bind_some, h10, if_false, i1, fg_0_4 hR5.1, fo_5 hR5.1, c_Finder_total, g87, if_true, fg_5_4 hR5.1]
      · simp only [qtM, a2, Option.bind_some, hb1, if_true, i2, jm, upd_id9]
        rw [i4.1]
    · have jm : ¬ m5.1 9 = 0 := by rw [← i3.2.2.2.1.1, j1]; exact h10
      obtain ⟨hF, hw9, hT, hS, hP, hk9, hd, hr, ho, hb, hz⟩ := hR5
      obtain ⟨s6, p1, p2, hF6⟩ := fw_5_4 hF 0
      have hmf := hF.fl (i := 5) rfl
      have l6 : le K s5 s6 := by rw [p2]; exact nb_le hz hmf.1 hmf.2 rfl
      have b67 : s6.1 = s4.1 := by rw [p2]; exact b56
      refine ⟨-6, s6, (upd m5.1 10 0, m5.2.1, m5.2.2.1, m5.2.2.2), upd I5 5 0, A5, R1, Q5, ?_, ?_, by rw [b67]; exact b6, by rw [b67]; exact b7, ?_⟩
      · rw [hcq]
        have g87 : gI K s5 (q 5) 8 7 = some 1 := by rw [fg_5_7 hF, j1]
        simp only [hright, Option.bind_some, h10, if_false, i1, fg_0_4 hF, fo_5 hF, c_Finder_total, g87, p1]
      · simp only [qtM, a2, Option.bind_some, hb1, if_true, i2, jm, if_false]
      · exact ⟨hF6, by rw [p2]; exact hw9, hT, hS, hP, hk9, hd.mono l6 ⟨rfl, rfl, rfl, rfl, rfl, rfl⟩ rfl, ⟨rfl, by show 0 ≤ (0 : Int32).toInt; decide, by show (0 : Int32).toInt ≤ 32; decide, fun i hi9 => by
          have hi9 : (i : Int) < (0 : Int32).toInt := hi9
          rw [N.1] at hi9
          omega⟩, ho, hb, by rw [p2]; exact nb_Rz hz hmf.1 hmf.2 rfl rfl⟩
  · -- not a query
    have hb1 : ¬ (m1.1 2) < (0 : Int32) := fun e => by rw [u3] at e; have := i32lt.mp e; omega
    have hright := c_right0 (Zd := Zd) c4 (u1 : 0 ≤ (upd (upd (upd I1 0 0) 5 0) 8 0 2).toInt)
    have hR4 := hRx (upd m1.1 0 0) rfl (by rw [upd_ne (by decide)]; exact hm10) (fun k hk9 => by rw [upd_ne (by omega)]; exact him k hk9)
    refine ⟨-100 - I1 2, s4, _, _, A1, R1, Q, ?_, ?_, b6, b7, hR4⟩
    · rw [hcq]
      simp only [hright, Option.bind_some, if_true, fg_0_0 hF4, fg_1_4 hF4]
      rfl
    · simp only [qtM, a2, Option.bind_some, hb1, if_false]
      rw [u3]
theorem sim_query (hk : kc Zd K) {st : CS} {ms : MS} {I : Nat → Int32} {A : Nat → Nat → Int32} {Q : Nat → Nat → Option Nat} (h : Rv Zd K st ms q cw I A R Q) (z6 : st.1.1 + 16 ≤ Zd 6) (z7 : st.1.2 + 112 ≤ Zd 7) (r id : Int32) : ∃ x st1 ms1 I1 A1 R1 Q1, c_PagedValues_query Zd K (q 0) r id st = some (x, st1) ∧ m_query r id ms = some (x, ms1) ∧ st1.1.1 ≤ st.1.1 + 16 ∧ st1.1.2 ≤ st.1.2 + 112 ∧ Rv Zd K st1 ms1 q cw I1 A1 R1 Q1 := by
  have N := nums
  have h10 : ¬ ((1 : Int32) = 0) := by decide
  have hrd := reader_lock h r
  have hF := h.1
  have hP : Rp A ms := h.2.2.2.2.1
  have hd : Rd Zd K st Q ms := h.2.2.2.2.2.2.1
  have s3 : I 11 = ms.1 13 := h.2.2.2.1.1.2.2
  by_cases hdn : I 11 = 0
  · have hdm : ms.1 13 = 0 := s3.symm.trans hdn
    have g8 : gI K st (q 6) 9 8 = some 0 := by rw [fg_6_8 hF, hdn]
    rcases hrd with ⟨u1, u2⟩ | ⟨u1, u2, w, u3, u4, u5⟩
    · refine ⟨-1, st, ms, I, A, R, Q, ?_, ?_, by omega, by omega, h⟩
      · simp only [c_PagedValues_query, fg_0_5 hF, g8, Option.bind_some, if_true, fo_6 hF, u1]
      · simp only [m_query, hdm, if_true, u2, Option.bind_some]
    · by_cases hid : id = -1
      · obtain ⟨x, st1, ms1, I1, A1, R1, Q1, c1, c2, c3⟩ := qt_lock hk h (id := id) u5 u4 z6 z7
        refine ⟨x, st1, ms1, I1, A1, R1, Q1, ?_, ?_, c3⟩
        · rw [← c1]
          simp only [c_PagedValues_query, fg_0_5 hF, g8, Option.bind_some, if_true, fo_6 hF, u1, h10, if_false, u3, hid, fg_0_3 hF, fg_0_0 hF, fo_4 hF, qtC]
        · rw [← c2]
          simp only [m_query, hdm, if_true, u2, Option.bind_some, h10, if_false, hid, qtM]
      · rcases doc_row hP hd u5 id with ⟨e1, e2⟩ | ⟨a, k, e1, e2, e3, e4⟩
        · refine ⟨-1, st, ms, I, A, R, Q, ?_, ?_, by omega, by omega, h⟩
          · simp only [c_PagedValues_query, fg_0_5 hF, g8, Option.bind_some, if_true, fo_6 hF, u1, h10, if_false, u3, hid, c_doc hF hP u5, e1, nl]
          · simp only [m_query, hdm, if_true, u2, Option.bind_some, h10, if_false, hid, u4, m_row hP u5, e2, show ¬ ((0 : Int32) ≤ -1) from by decide]
        · obtain ⟨x, st1, ms1, I1, A1, R1, Q1, c1, c2, c3⟩ := qt_lock hk h (id := id) u5 u4 z6 z7
          have hge : (0 : Int32) ≤ rowS ms w id := i32n (by omega)
          refine ⟨x, st1, ms1, I1, A1, R1, Q1, ?_, ?_, c3⟩
          · rw [← c1]
            simp only [c_PagedValues_query, fg_0_5 hF, g8, Option.bind_some, if_true, fo_6 hF, u1, h10, if_false, u3, hid, c_doc hF hP u5, e1, nl, fg_0_3 hF, fg_0_0 hF, fo_4 hF, qtC, c_ql2]
          · rw [← c2]
            simp only [m_query, hdm, if_true, u2, Option.bind_some, h10, if_false, hid, u4, m_row hP u5, hge, qtM, m_ql2]
  · have hdm : ¬ ms.1 13 = 0 := fun e => hdn (s3.trans e)
    refine ⟨-9, st, ms, I, A, R, Q, ?_, ?_, by omega, by omega, h⟩
    · simp only [c_PagedValues_query, fg_0_5 hF, fg_6_8 hF, Option.bind_some, hdn, if_false]
    · simp only [m_query, hdm, if_false]
end QUERY3
