/-! A value read, whatever it is. -/
/-! a plain value: the model's ways -/
theorem pl_str {I : Nat → Int32} {A : Nat → Nat → Int32} {ms : MS} (hT : Tq I A ms) (hq : chr (A 0) (I 0) (I 1) = 34) : m_plain ms = (m_string ms).bind fun m1 => some ((4 : Int32), m1) := by
  simp only [m_plain, mh hT, Option.bind_some, hq, if_true]
theorem pl_num {I : Nat → Int32} {A : Nat → Nat → Int32} {ms : MS} (hT : Tq I A ms) (h34 : ¬ chr (A 0) (I 0) (I 1) = 34) (hq : chr (A 0) (I 0) (I 1) = 45 ∨ isDg (chr (A 0) (I 0) (I 1))) : m_plain ms = (m_number ms).bind fun m1 => some ((3 : Int32), m1) := by
  by_cases h45 : chr (A 0) (I 0) (I 1) = 45
  · simp only [m_plain, mh hT, Option.bind_some, h34, h45, if_false, if_true]
    rfl
  · have hd : isDg (chr (A 0) (I 0) (I 1)) := hq.resolve_left h45
    simp only [m_plain, mh hT, Option.bind_some, h34, h45, if_false, m_dig1 hd, show ¬ ((1 : Int32) = 0) from by decide]
theorem pl_con {I : Nat → Int32} {A : Nat → Nat → Int32} {ms : MS} (hT : Tq I A ms) (h34 : ¬ chr (A 0) (I 0) (I 1) = 34) (h45 : ¬ chr (A 0) (I 0) (I 1) = 45) (hd : ¬ isDg (chr (A 0) (I 0) (I 1))) : m_plain ms = (m_clear ms).bind fun m0 => (m_constant (chr (A 0) (I 0) (I 1)) m0).bind fun r => some (r.1, r.2) := by
  simp only [m_plain, mh hT, Option.bind_some, h34, h45, if_false, m_dig0 hd, if_true]
theorem con_n (m0 : MS) : ((m_constant 110 m0).bind fun r => some (r.1, r.2)) = (musts [110, 117, 108, 108] m0).bind fun m1 => some ((0 : Int32), m1) := by
  unfold m_constant
  rw [if_pos rfl, four_eq]
  cases musts [110, 117, 108, 108] m0 <;> rfl
theorem con_t (m0 : MS) : ((m_constant 116 m0).bind fun r => some (r.1, r.2)) = (musts [116, 114, 117, 101] m0).bind fun m1 => some ((1 : Int32), m1) := by
  unfold m_constant
  rw [if_neg (by decide), if_pos rfl, four_eq]
  cases musts [116, 114, 117, 101] m0 <;> rfl
theorem con_f (m0 : MS) : ((m_constant 102 m0).bind fun r => some (r.1, r.2)) = (musts [102, 97, 108, 115, 101] m0).bind fun m1 => some ((2 : Int32), m1) := by
  unfold m_constant
  rw [if_neg (by decide), if_neg (by decide)]
  have h9 : musts [102, 97, 108, 115, 101] m0 = (m_must 102 m0).bind fun m1 => musts [97, 108, 115, 101] m1 := rfl
  rw [h9]
  cases m_must 102 m0 with
  | none => rfl
  | some m4 =>
    show (((m_four 97 108 115 101 m4).bind fun st7 => some ((2 : Int32), st7)).bind fun r => some (r.1, r.2)) = ((musts [97, 108, 115, 101] m4).bind fun m1 => some ((2 : Int32), m1))
    rw [four_eq]
    cases musts [97, 108, 115, 101] m4 <;> rfl
section VALUE2
variable {Zd : Nat → Nat} {K : KE} {q : Nat → Nat} {cw : Nat} {R : Nat → Option Nat} {Q : Nat → Nat → Option Nat} {st : CS} {I : Nat → Int32} {A : Nat → Nat → Int32} {ms : MS}
/-- no value begins here -/
theorem oth_lock (h : Cx K st q cw I A R Q) (hT : Tq I A ms) (hW : Wq I A) (h34 : ¬ chr (A 0) (I 0) (I 1) = 34) (h45 : ¬ chr (A 0) (I 0) (I 1) = 45) (hd : ¬ isDg (chr (A 0) (I 0) (I 1))) (h110 : ¬ chr (A 0) (I 0) (I 1) = 110) (h116 : ¬ chr (A 0) (I 0) (I 1) = 116) (h102 : ¬ chr (A 0) (I 0) (I 1) = 102) :
    plOut Zd K st q cw I A R Q ms (c_ValueParser_number Zd K (q 2) (some (q 1)) st) (m_plain ms) := by
  have hT0 := hT
  obtain ⟨t1, t2, t3, t4, t5, t6, t7, t8⟩ := hT
  have hT1 : Tq I A (ms.1, vp_updL (vp_updL ms.2.1 0 0) 1 0, ms.2.2.1, ms.2.2.2) := hT0
  obtain ⟨s1, f1, f2, f3⟩ := c_fail1 (Zd := Zd) h t4
  have hr := c_right0 (Zd := Zd) f2 (show 0 ≤ (I 1).toInt from t6)
  have ht0 := c_take0 (Zd := Zd) h t6 t8 h45
  have hm0 : m_must 102 (ms.1, vp_updL (vp_updL ms.2.1 0 0) 1 0, ms.2.2.1, ms.2.2.2) = some (upd ms.1 2 (I 1), vp_updL (vp_updL ms.2.1 0 0) 1 0, ms.2.2.1, ms.2.2.2) := m_must0 hT1 h102
  have hcn : c_ValueParser_number Zd K (q 2) (some (q 1)) st = some (none, s1) := by
    simp only [c_ValueParser_number, Option.bind_some, fo_1 h.1, ht0, c_Text_digits, c_here (Zd := Zd) h t6 t8, c_dig0 hd, if_true, f1, fo_1 f2.1, hr]
  have hb := mustsB (ms := (upd ms.1 2 (I 1), vp_updL (vp_updL ms.2.1 0 0) 1 0, ms.2.2.1, ms.2.2.2)) (show 0 ≤ (I 1).toInt from t6) [97, 108, 115, 101]
  have hmp : m_plain ms = some (2, (upd ms.1 2 (I 1), vp_updL (vp_updL ms.2.1 0 0) 1 0, ms.2.2.1, ms.2.2.2)) := by
    rw [pl_con hT0 h34 h45 hd]
    simp only [m_clear, Option.bind_some, m_constant, h110, h116, if_false, hm0, four_eq, hb]
  exact ⟨s1, upd I 2 (I 1), A, _, 2, hmp, by decide, f2, f3.1, ⟨hW.1, hW.2⟩, kI.f _ _, fun _ _ => rfl, kM.f ms (I 1) _, by rw [f3.2]; omega, by rw [f3.2]; omega, Or.inr ⟨hcn, t6, by show (I 1).toInt ≤ 80; omega, rfl, t6⟩⟩
theorem pairB (x : Option (Option Nat × CS)) : (x.bind fun r => some (r.1, r.2)) = x := by cases x <;> rfl
theorem value_step (hk : kc Zd K) {fv : Nat → Option Nat → Int32 → CS → Option (Option Nat × CS)} {d r nn : Nat} {sk s : CS} {I0 : Nat → Int32} {a1 : Int32} (hCk : Cx K sk q cw I0 A R Q) (hsk : c_Text_skipBlanks Zd K (q 1) sk = some s) (hC : Cx K s q cw I A R Q) (hT : Tq I A ms) (hW : Wq I A) (h3 : I 3 = ms.1 3) (hnn : (I 3).toInt = nn) (hn : nn ≤ 24) (z6 : s.1.1 + 5 * (24 - nn) ≤ Zd 6) (z7 : s.1.2 + 34 * (24 - nn) ≤ Zd 7)
    (hct : ∀ (op : Int32) (kz : Nat) (s19 : CS), (op = 91 ∧ kz = Zd 13) ∨ (op = 123 ∧ kz = Zd 14) → chr (A 0) (I 0) (I 1) = op → nn < 24 → Cx K s19 q cw (upd I 3 (I 3 + 1)) A R Q → stp K s s19 → VO Zd K s q cw I A R Q ms (d + 1) r nn (c_ValueParser_container Zd K fv (q 2) (some (q 1)) a1 (some kz) s19)) :
    VO Zd K s q cw I A R Q ms (d + 1) r nn (c_ValueParser_value_b Zd K fv (q 2) (some (q 1)) a1 sk) := by
  have L := nums
  have N48 := n48
  have hT0 := hT
  obtain ⟨t1, t2, t3, t4, t5, t6, t7, t8⟩ := hT
  have g3 := fg_2_0 (K := K) hC.1
  by_cases h24 : nn = 24
  · have hlt : ¬ I 3 < 24 := fun e => by have := i32lt.mp e; omega
    obtain ⟨s1, f1, f2, f3⟩ := c_fail1 (Zd := Zd) hC t4
    have hn24 : ms.1 3 = 24 := by rw [← h3]; exact i32eq (by omega)
    have hb : m_begins ms = some (0, (upd ms.1 2 (I 1), ms.2.1, ms.2.2.1, ms.2.2.2)) := by
      simp only [m_begins, hn24, if_true, m_fault1 hT0, Option.bind_some]
    have hI3 : (upd I 2 (I 1)) 3 = I 3 := rfl
    refine ⟨s1, upd I 2 (I 1), A, 0, _, 0, 0, _, hb, Or.inl rfl, mrun.zero _ _, f2, f3.1, ⟨hW.1, hW.2⟩, (kI.f _ _).k3, fun _ _ => rfl, (kM.f ms (I 1) _).low _, by rw [f3.2]; omega, by rw [f3.2]; omega, Or.inr ⟨?_, ⟨t6, by show (I 1).toInt ≤ 80; omega, rfl, t6⟩, by rw [hI3]; omega, by rw [hI3]; omega⟩⟩
    simp only [c_ValueParser_value_b, Option.bind_some, fo_1 hCk.1, hsk, g3, hlt, if_false, fo_1 hC.1, f1]
  · have hlt : I 3 < 24 := i32lt.mpr (by omega)
    have hn4 : nn < 24 := by omega
    obtain ⟨s19, w1, w2, w3⟩ := tv hC (I 3 + 1)
    have hah : c_Text_ahead Zd K (q 1) s19 = some (chr (A 0) (I 0) (I 1)) := c_here (Zd := Zd) (I := upd I 3 (I 3 + 1)) w2 t6 t8
    have hT19 : Tq (upd I 3 (I 3 + 1)) A ms := hT0
    have hW19 : Wq (upd I 3 (I 3 + 1)) A := hW
    have y6 : s19.1.1 + 3 ≤ Zd 6 := by rw [w3.2]; omega
    have y7 : s19.1.2 + 20 ≤ Zd 7 := by rw [w3.2]; omega
    have hv : c_ValueParser_value_b Zd K fv (q 2) (some (q 1)) a1 sk = (if chr (A 0) (I 0) (I 1) = 34 then c_ValueParser_string Zd K (q 2) (some (q 1)) s19 else if chr (A 0) (I 0) (I 1) = 91 then c_ValueParser_container Zd K fv (q 2) (some (q 1)) a1 (some (Zd 13)) s19 else if chr (A 0) (I 0) (I 1) = 102 then c_ValueParser_word Zd K (q 2) (some (q 1)) (some (Zd 22)) (some (Zd 10)) s19 else if chr (A 0) (I 0) (I 1) = 110 then c_ValueParser_word Zd K (q 2) (some (q 1)) (some (Zd 20)) (some (Zd 8)) s19 else if chr (A 0) (I 0) (I 1) = 116 then c_ValueParser_word Zd K (q 2) (some (q 1)) (some (Zd 21)) (some (Zd 9)) s19 else if chr (A 0) (I 0) (I 1) = 123 then c_ValueParser_container Zd K fv (q 2) (some (q 1)) a1 (some (Zd 14)) s19 else c_ValueParser_number Zd K (q 2) (some (q 1)) s19) := by
      simp only [c_ValueParser_value_b, Option.bind_some, fo_1 hCk.1, hsk, g3, hlt, if_true, w1, fo_1 w2.1, hah, fo_2 w2.1, pairB]
    have leaf : ∀ {cv : Option (Option Nat × CS)}, ¬ chr (A 0) (I 0) (I 1) = 91 → ¬ chr (A 0) (I 0) (I 1) = 123 → plOut Zd K s19 q cw (upd I 3 (I 3 + 1)) A R Q ms cv (m_plain ms) → VO Zd K s q cw I A R Q ms (d + 1) r nn cv := fun h91 h123 hp => leafVO hT0 h3 hnn hn4 w3 h91 h123 hp d r
    rw [hv]
    by_cases h34 : chr (A 0) (I 0) (I 1) = 34
    · rw [if_pos h34]
      refine leaf (by rw [h34]; decide) (by rw [h34]; decide) ?_
      rw [pl_str hT0 h34]
      exact str_lock hk w2 hT19 hW19 y6 y7
    rw [if_neg h34]
    by_cases h91 : chr (A 0) (I 0) (I 1) = 91
    · rw [if_pos h91]
      exact hct 91 (Zd 13) s19 (Or.inl ⟨rfl, rfl⟩) h91 hn4 w2 w3
    rw [if_neg h91]
    by_cases h102 : chr (A 0) (I 0) (I 1) = 102
    · rw [if_pos h102]
      refine leaf h91 (by rw [h102]; decide) ?_
      rw [pl_con hT0 h34 (by rw [h102]; decide) (by rw [h102]; unfold isDg; decide), h102]
      have h9 := word_lock (i := 2) hk w2 hT19 hW19 (by decide) (kcstr hk (i := 3) rfl) (by decide) (by decide) y6 y7
      simp only [con_f]
      exact h9
    rw [if_neg h102]
    by_cases h110 : chr (A 0) (I 0) (I 1) = 110
    · rw [if_pos h110]
      refine leaf h91 (by rw [h110]; decide) ?_
      rw [pl_con hT0 h34 (by rw [h110]; decide) (by rw [h110]; unfold isDg; decide), h110]
      have h9 := word_lock (i := 0) hk w2 hT19 hW19 (by decide) (kcstr hk (i := 1) rfl) (by decide) (by decide) y6 y7
      simp only [con_n]
      exact h9
    rw [if_neg h110]
    by_cases h116 : chr (A 0) (I 0) (I 1) = 116
    · rw [if_pos h116]
      refine leaf h91 (by rw [h116]; decide) ?_
      rw [pl_con hT0 h34 (by rw [h116]; decide) (by rw [h116]; unfold isDg; decide), h116]
      have h9 := word_lock (i := 1) hk w2 hT19 hW19 (by decide) (kcstr hk (i := 2) rfl) (by decide) (by decide) y6 y7
      simp only [con_t]
      exact h9
    rw [if_neg h116]
    by_cases h123 : chr (A 0) (I 0) (I 1) = 123
    · rw [if_pos h123]
      exact hct 123 (Zd 14) s19 (Or.inr ⟨rfl, rfl⟩) h123 hn4 w2 w3
    rw [if_neg h123]
    refine leaf h91 h123 ?_
    by_cases hd : chr (A 0) (I 0) (I 1) = 45 ∨ isDg (chr (A 0) (I 0) (I 1))
    · rw [pl_num hT0 h34 hd]
      exact num_lock hk w2 hT19 hW19 y6 y7
    · exact oth_lock w2 hT19 hW19 h34 (fun e => hd (Or.inl e)) (fun e => hd (Or.inr e)) h110 h116 h102
theorem value_lock (hk : kc Zd K) : ∀ e, VL Zd K q cw R Q e := by
  have L := nums
  intro e
  induction e with
  | zero =>
    intro r nn sk s I0 I A ms a1 hre ha1 hCk hsk hC hT hW hbl h3 hnn hn hlv z6 z7
    refine value_step hk hCk hsk hC hT hW h3 hnn hn z6 z7 (fun op kz s19 ho hq hn4 w2 w3 => ?_)
    have ha4 : ¬ a1 < 4 := fun e => by have := i32lt.mp e; rw [show (4 : Int32).toInt = 4 from by decide] at this; omega
    have hT0 := hT
    obtain ⟨t1, t2, t3, t4, t5, t6, t7, t8⟩ := hT
    obtain ⟨s1, f1, f2, f3⟩ := c_fail1 (Zd := Zd) w2 t4
    have hn24 : ¬ ms.1 3 = 24 := fun e => by rw [← h3] at e; rw [e] at hnn; rw [show (24 : Int32).toInt = 24 from by decide] at hnn; omega
    have hl4 : ms.1 4 = 4 := i32eq (by rw [hlv, show (4 : Int32).toInt = 4 from by decide]; omega)
    have hb : m_begins ms = some (0, (upd ms.1 2 (I 1), ms.2.1, ms.2.2.1, ms.2.2.2)) := by
      rcases ho with ⟨rfl, rfl⟩ | ⟨rfl, rfl⟩
      · simp only [m_begins, hn24, if_false, m_sees_q hT0, hq, if_true, Option.bind_some, show ¬ ((1 : Int32) = 0) from by decide, hl4, m_fault1 hT0]
      · simp only [m_begins, hn24, if_false, m_sees_q hT0, hq, show ¬ ((123 : Int32) = 91) from by decide, if_true, Option.bind_some, show ¬ ((1 : Int32) = 0) from by decide, hl4, m_fault1 hT0]
    have k3 : (I 3 + 1).toInt = (I 3).toInt + 1 := by rw [i32add (by omega) (by omega)]; omega
    have hI3 : (upd (upd I 3 (I 3 + 1)) 2 (I 1)) 3 = I 3 + 1 := rfl
    refine ⟨s1, upd (upd I 3 (I 3 + 1)) 2 (I 1), A, 0, _, 0, 0, _, hb, Or.inl rfl, mrun.zero _ _, f2, w3.1.tr f3.1, ⟨hW.1, hW.2⟩, (kI3.v _ _).tr (kI.f _ _).k3, fun _ _ => rfl, (kM.f ms (I 1) _).low _, by rw [f3.2, w3.2]; omega, by rw [f3.2, w3.2]; omega, Or.inr ⟨?_, ⟨t6, by show (I 1).toInt ≤ 80; omega, rfl, t6⟩, by rw [hI3]; omega, by rw [hI3]; omega⟩⟩
    simp only [c_ValueParser_container, ha4, if_false, Option.bind_some, fo_1 w2.1, f1]
  | succ e ih =>
    intro r nn sk s I0 I A ms a1 hre ha1 hCk hsk hC hT hW hbl h3 hnn hn hlv z6 z7
    refine value_step hk hCk hsk hC hT hW h3 hnn hn z6 z7 (fun op kz s19 ho hq hn4 w2 w3 => ?_)
    rcases ho with ⟨rfl, rfl⟩ | ⟨rfl, rfl⟩
    · exact cont_lock hk (o := 5) (arr := 1) (cl := 93) (op := 91) (i := 5) (by decide) rfl rfl (Or.inl ⟨rfl, rfl, rfl, rfl, rfl⟩) ih (by omega) ha1 hC w2 w3 hT hW h3 hnn hn4 hlv hq z6 z7
    · exact cont_lock hk (o := 6) (arr := 0) (cl := 125) (op := 123) (i := 6) (by decide) rfl rfl (Or.inr ⟨rfl, rfl, rfl, rfl, rfl⟩) ih (by omega) ha1 hC w2 w3 hT hW h3 hnn hn4 hlv hq z6 z7
end VALUE2
