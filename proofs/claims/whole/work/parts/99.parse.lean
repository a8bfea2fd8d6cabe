/-! Values read: class and model. -/
section PARSE
variable {Zd : Nat → Nat} {K : KE} {q : Nat → Nat} {cw : Nat} {R : Nat → Option Nat} {Q : Nat → Nat → Option Nat}
theorem kcstr (hk : kc Zd K) {i : Nat} {p : Nat × List Int32} (hi : KS[i]? = some p) : ∀ s, wf K s → strOf K s (Zd p.1) = some p.2 := fun _ hw => hk.str hw hi
/-- an array or an object, from its bracket on -/
theorem cont_lock (hk : kc Zd K) {e r nn : Nat} {o arr cl op : Int32} {kz : Nat} {i : Nat} (hi : i < 7) (hoi : ([0, 1, 2, 3, 4, 5, 6] : List Int32).getD i 0 = o) (hkz : kz = Zd (8 + i)) (ha : Ak Zd o arr cl op kz) (hv : VL Zd K q cw R Q e) (hre : r + 1 + e = 4) {a1 : Int32} (ha1 : a1.toInt = r) {s s19 : CS} {I : Nat → Int32} {A : Nat → Nat → Int32} {ms : MS} (hC : Cx K s q cw I A R Q) (hC19 : Cx K s19 q cw (upd I 3 (I 3 + 1)) A R Q) (hst : stp K s s19) (hT : Tq I A ms) (hW : Wq I A) (h3 : I 3 = ms.1 3) (hnn : (I 3).toInt = nn) (hn : nn < 24) (hlv : (ms.1 4).toInt = r) (hq : chr (A 0) (I 0) (I 1) = op) (z6 : s.1.1 + 5 * (24 - nn) ≤ Zd 6) (z7 : s.1.2 + 34 * (24 - nn) ≤ Zd 7) :
    VO Zd K s q cw I A R Q ms (e + 2) r nn (c_ValueParser_container Zd K (c_ValueParser_value Zd K (e + 2)) (q 2) (some (q 1)) a1 (some kz) s19) := by
  have L := nums
  have N48 := n48
  obtain ⟨b1, b2, c0, op0, cnd, ho, harr, harr2⟩ := ha.fx
  have h10 : ¬ ((1 : Int32) = 0) := by decide
  have hn24 : ¬ ms.1 3 = 24 := fun e => by rw [← h3] at e; rw [e] at hnn; omega
  have hl4 : ¬ ms.1 4 = 4 := fun e => by rw [e] at hlv; omega
  have ha4 : a1 < 4 := i32lt.mpr (by omega)
  have hT0 := hT
  obtain ⟨t1, t2, t3, t4, t5, t6, t7, t8⟩ := hT
  obtain ⟨d1, d2, d3⟩ := chr_lt hq op0
  have k1 : (I 1 + 1).toInt = (I 1).toInt + 1 := by rw [i32add (by omega) (by omega)]; omega
  have k3 : (I 3 + 1).toInt = (I 3).toInt + 1 := by rw [i32add (by omega) (by omega)]; omega
  have k4 : (ms.1 4 + 1).toInt = (ms.1 4).toInt + 1 := by rw [i32add (by omega) (by omega)]; omega
  have tl : (ms.1 4).toNatClampNeg = r := by rw [tnn]; omega
  have il : vp_in (ms.1 4) 5 := vp_of (by omega) (by omega)
  -- the model begins
  have hnd := node_eq (ms := (upd (upd ms.1 1 (I 1 + 1)) 4 (ms.1 4 + 1), ms.2.1, va_up ms.2.2.1 3 (upd (ms.2.2.1 3) r (ms.1 3)), ms.2.2.2)) (nn := nn) (by show (ms.1 3).toInt = _; rw [← h3]; exact hnn) (by omega) (o := o) (by rcases ho with rfl | rfl <;> decide) (by rcases ho with rfl | rfl <;> decide) 0 0
  obtain ⟨ms1, hms1, hbeg⟩ : ∃ ms1 : MS, ms1 = (upd (upd (upd ms.1 1 (I 1 + 1)) 4 (ms.1 4 + 1)) 3 (ms.1 3 + 1), ms.2.1, va_up (va_up (va_up ms.2.2.1 3 (upd (ms.2.2.1 3) r (ms.1 3))) 1 (upd (ms.2.2.1 1) (1920 + nn) o)) 2 (upd (ms.2.2.1 2) (1920 + nn) 1), va_up (va_up ms.2.2.2 0 (vp_updL (ms.2.2.2 0) (1920 + nn) 0)) 1 (vp_updL (ms.2.2.2 1) (1920 + nn) 0)) ∧ m_begins ms = some (1, ms1) := by
    refine ⟨_, rfl, ?_⟩
    have hm9 : m_node o 0 0 (upd (upd ms.1 1 (I 1 + 1)) 4 (ms.1 4 + 1), ms.2.1, va_up ms.2.2.1 3 (upd (ms.2.2.1 3) r (ms.1 3)), ms.2.2.2) = some (upd (upd (upd ms.1 1 (I 1 + 1)) 4 (ms.1 4 + 1)) 3 (ms.1 3 + 1), ms.2.1, va_up (va_up (va_up ms.2.2.1 3 (upd (ms.2.2.1 3) r (ms.1 3))) 1 (upd (ms.2.2.1 1) (1920 + nn) o)) 2 (upd (ms.2.2.1 2) (1920 + nn) 1), va_up (va_up ms.2.2.2 0 (vp_updL (ms.2.2.2 0) (1920 + nn) 0)) 1 (vp_updL (ms.2.2.2 1) (1920 + nn) 0)) := hnd
    rcases ha with ⟨rfl, rfl, rfl, rfl, -⟩ | ⟨rfl, rfl, rfl, rfl, -⟩
    · simp only [m_begins, hn24, if_false, m_sees_q hT0, hq, if_true, Option.bind_some, h10, hl4, ix_in il, tl, ← t3, hm9]
    · simp only [m_begins, hn24, if_false, m_sees_q hT0, hq, show ¬ ((123 : Int32) = 91) from by decide, if_true, Option.bind_some, h10, hl4, ix_in il, tl, ← t3, hm9]
  have f13 : ms1.1 3 = ms.1 3 + 1 := by rw [hms1]; rfl
  have f14 : ms1.1 4 = ms.1 4 + 1 := by rw [hms1]; rfl
  have f12 : ms1.1 2 = -1 := by rw [hms1]; exact t5
  have f11 : ms1.1 1 = I 1 + 1 := by rw [hms1]; rfl
  have f10 : ms1.1 0 = ms.1 0 := by rw [hms1]; rfl
  have fA0 : ms1.2.2.1 0 = ms.2.2.1 0 := by rw [hms1]; rfl
  have fH : ms1.2.2.1 3 = upd (ms.2.2.1 3) r (ms.1 3) := by rw [hms1]; rfl
  have fK : ms1.2.2.1 1 (1920 + nn) = o := by
    rw [hms1]
    dsimp only
    rw [va_up_ne _ _ (by decide), va_up_self, upd_self]
  have fB0 : ms1.2.2.2 0 (1920 + nn) = 0 := by
    rw [hms1]
    dsimp only
    rw [va_up_ne _ _ (by decide), va_up_self, updL_self]
  have fB1 : ms1.2.2.2 1 (1920 + nn) = 0 := by
    rw [hms1]
    dsimp only
    rw [va_up_self, updL_self]
  have fB2 : ms1.2.2.2 2 = ms.2.2.2 2 := by rw [hms1]; rfl
  have fB3 : ms1.2.2.2 3 = ms.2.2.2 3 := by rw [hms1]; rfl
  have flow : lowM (1920 + nn) ms ms1 := by
    refine ⟨fun k a1 a2 a3 a4 => ?_, fun k a1 a2 a3 => ?_, fun k hk9 => ?_, fun j hj => ⟨?_, ?_, fun k hk9 => ?_⟩⟩
    · rw [hms1]
      dsimp only
      rw [upd_ne a3, upd_ne a4, upd_ne a1]
    · rw [hms1]
      dsimp only
      rw [va_up_ne _ _ a2, va_up_ne _ _ a1, va_up_ne _ _ a3]
    · rw [hms1]
      dsimp only
      rw [va_up_ne _ _ (by omega), va_up_ne _ _ (by omega)]
    · rw [hms1]
      dsimp only
      rw [va_up_ne _ _ (by decide), va_up_self, upd_ne (by omega)]
    · rw [hms1]
      dsimp only
      rw [va_up_self, upd_ne (by omega)]
    · rw [hms1]
      dsimp only
      by_cases e3 : k = 1
      · subst e3; rw [va_up_self, updL_ne (by omega)]
      · rw [va_up_ne _ _ e3]
        by_cases e2 : k = 0
        · subst e2; rw [va_up_self, updL_ne (by omega)]
        · rw [va_up_ne _ _ e2]
  clear hms1
  -- the class begins
  have hs191 : s19.1.1 = s.1.1 := by rw [hst.2]
  have hs192 : s19.1.2 = s.1.2 := by rw [hst.2]
  obtain ⟨s15, s17, g1, g2, g3, g4, g5, g6⟩ := new_val (num := 0) hk hC19 hi (hk.str hC19.2.1 (i := 0) rfl) (by omega) (by omega)
  rw [hoi] at g6
  rw [← hkz] at g2
  have hq17 : chr (A 0) ((upd I 3 (I 3 + 1)) 0) ((upd I 3 (I 3 + 1)) 1) = op := hq
  obtain ⟨s24, l1, l2, l3⟩ := c_need1 (Zd := Zd) g3 (show 0 ≤ (I 1).toInt from t6) t8 op0 hq17
  have l2 : Cx K s24 q cw (upd (upd I 3 (I 3 + 1)) 1 (I 1 + 1)) A R Q := l2
  have hs24 : s24.1 = (s.1.1 + 1, s.1.2 + 6) := by rw [l3.2, g5, hs191, hs192]
  have hT24 : Tq (upd (upd I 3 (I 3 + 1)) 1 (I 1 + 1)) A ms1 := ⟨by rw [fA0]; exact t1, by rw [f10]; exact t2, by rw [f11]; rfl, t4, f12, by show 0 ≤ (I 1 + 1).toInt; omega, by show (I 1 + 1).toInt ≤ (I 0).toInt; omega, t8⟩
  have hles24 : le K s s24 := hst.1.tr (g4.tr l3.1)
  have hci24 : CI Zd K s ms q cw I A R Q e r nn s.1.1 o s24 (upd (upd I 3 (I 3 + 1)) 1 (I 1 + 1)) A ms1 none [] := by
    refine ⟨⟨l2, hT24, ⟨hW.1, hW.2⟩, hles24, (kI3.v _ _).tr (kI.p _ _).k3, fun _ _ => rfl⟩, ⟨?_, rfl, List.nodup_cons.mpr ⟨(by simp [kN]), List.nodup_nil⟩, fun x hx => ?_, fun _ => List.nodup_nil, Nat.le_refl _⟩, ⟨?_, ?_, ?_⟩, ⟨by rw [f14, k4, hlv], ?_, fun k hk9 => ?_⟩, ⟨fK, fB0, fB1, by rw [fB2], by rw [fB3]⟩, rowF_nil _ _, flow, ?_⟩
    · have := g6.le hk.2.2 l3.1
      rw [hs191] at this
      exact this
    · rcases List.mem_cons.mp hx with rfl | hx
      · exact Nat.le_refl _
      · simp [kN] at hx
    · show I 3 + 1 = ms1.1 3
      rw [f13, h3]
    · show (I 3 + 1).toInt = _
      rw [k3, hnn]
      simp [kL]
    · show (I 3 + 1).toInt ≤ 24
      omega
    · rw [fH, upd_self, ← h3]; exact hnn
    · rw [fH, upd_ne (by omega)]
    · rw [hs24]
      simp [kL]
  obtain ⟨p, s26, y1, y2, y3, y4, y5, y6, y7, y8⟩ := skip_blanks (Zd := Zd) l2 hT24
  have hci := hci24.p hk y3 y4 y8
  have hhold := hci.hold (by omega)
  have hlv1 : 0 < (ms1.1 4).toInt := by rw [f14]; omega
  have hp1 : upd (upd (upd I 3 (I 3 + 1)) 1 (I 1 + 1)) 1 p 1 = p := upd_self
  have hif : (if some kz = some (Zd 13) then (some (93 : Int32)) else (some (125 : Int32))) = some cl ∧ (if some kz = some (Zd 13) then (some (91 : Int32)) else (some (123 : Int32))) = some op := by
    rcases ha with ⟨-, -, rfl, rfl, rfl⟩ | ⟨-, -, rfl, rfl, rfl⟩
    · rw [if_pos rfl, if_pos rfl]; exact ⟨rfl, rfl⟩
    · have hne : ¬ (some (Zd 14) = some (Zd 13)) := fun e9 => by
        have := hk.1 14 13 (by decide) (by decide) (by decide) (by decide) (Option.some.inj e9)
        omega
      rw [if_neg hne, if_neg hne]; exact ⟨rfl, rfl⟩
  have hcl : ∀ r30, c_Text_take Zd K (q 1) cl s26 = some r30 → c_ValueParser_container Zd K (c_ValueParser_value Zd K (e + 2)) (q 2) (some (q 1)) a1 (some kz) s19 = (if r30.1 = (0 : Int32) then ((c_ValueParser_container_l1 Zd K (c_ValueParser_value Zd K (e + 2)) (q 2) (some (q 1)) a1 (some kz) cl s.1.1 (q 1) 4096 ((0 : Int32), r30.2)).bind fun e32 => match e32 with | .inl o9 => some o9 | .inr e8 => (isO K e8.2 (q 1) 1).bind fun _ => (c_Text_fail Zd K (q 1) e8.2).bind fun st38 => some (none, st38)) else (some (some s.1.1, r30.2))) := by
    intro r30 h9
    rw [hs191] at g2
    simp only [c_ValueParser_container, ha4, if_true, hif.1, hif.2, Option.bind_some, hs191, g1, g2, fo_1 g3.1, l1, fo_1 l2.1, y1, fo_1 y3.1, h9]
    rfl
  by_cases hqc : chr (A 0) (upd (upd (upd I 3 (I 3 + 1)) 1 (I 1 + 1)) 1 p 0) (upd (upd (upd I 3 (I 3 + 1)) 1 (I 1 + 1)) 1 p 1) = cl
  · -- nothing in it
    obtain ⟨s4, m4, w1, w2, I4, A4, w3, w4, w5, w6, w7, w8, w9, N4, L4, w10, w11, w12, w13, w14, w15, w16, w17, w18, w19, w20, w21, w22, w23⟩ := cont_end hk ha (by omega) hci hqc
    have hsee := m_sees_q y8 cl
    rw [if_pos hqc] at hsee
    have hrun : mrun 1 1 ms1 0 m4 := mrun.ends f12 hlv1 y2 hhold b1 b2 hsee w2
    have hl4 : L4.length = 1 := by rw [w14]; rfl
    have hs4 : s4.1 = (s.1.1 + 1, s.1.2 + 6) := by rw [w9, y4.2, hs24]
    have hs41 : s4.1.1 = s.1.1 + 1 := by rw [hs4]
    have hs42 : s4.1.2 = s.1.2 + 6 := by rw [hs4]
    refine ⟨s4, I4, A4, 1, ms1, 1, 0, m4, hbeg, Or.inr rfl, hrun, w3, w4, w5, w6, w7, w8, by omega, by omega, Or.inl ⟨s.1.1, N4, L4, ?_, w10, w11, w12, w13, by omega, w15, w16, by omega, by omega, Or.inl ⟨w17, rfl, w18, i32eq (by rw [w19, hlv]), w20, w21, w22, w23⟩⟩⟩
    rw [hcl _ w1]
    exact if_neg h10
  · have htk := c_take0 (Zd := Zd) y3 y8.2.2.2.2.2.1 y8.2.2.2.2.2.2.2 hqc
    have hsee := m_sees_q y8 cl
    rw [if_neg hqc] at hsee
    have hsid := c_skip_id (Zd := Zd) y3 y8.2.2.2.2.2.1 y8.2.2.2.2.2.2.2 (by rw [hp1]; exact y7)
    obtain ⟨me1, b, ms2, x1, x2, st6, I6, A6, n6, b6, ms6, c1, c2, c3, c4, c5, c6, c7, c8, c9, c10⟩ := cont_l hk ha hv hre ha1 hC.2.1 hC.2.2 z6 z7 24 4096 0 s26 s26 _ _ A _ none [] (by show (24 : Int) ≤ (I 3 + 1).toInt + (24 : Nat); omega) (by decide) rfl y3 hsid (by rw [hp1]; exact y7) hci
    have hrun : mrun 1 1 ms1 b ms2 := mrun.part (y := (b, ms2)) f12 hlv1 y2 hhold b1 b2 hsee (if_neg h10) x1 x2
    refine ⟨st6, I6, A6, 1, ms1, 1 + n6, b6, ms6, hbeg, Or.inr rfl, hrun.tr c1, c2, c3, c4, c5, c6, c7, c8, c9, ?_⟩
    have hz9 : (kL ([] : List Kd)).flatten.length = 0 := rfl
    rw [hz9] at c10
    rcases c10 with ⟨N6, L6, q1, q2, q3, q4, q5, q6, q7, q8, q9, q10, q11, q12, q13, q14, q15, q16, q17, q18⟩ | ⟨q1, q2, q3, q4⟩
    · refine Or.inl ⟨s.1.1, N6, L6, ?_, q2, q3, q4, q5, by omega, q7, q8, q9, q10, Or.inl ⟨q11, q12, q13, i32eq (by rw [q14, hlv]), q15, q16, q17, q18⟩⟩
      rw [hcl _ htk]
      exact (if_pos rfl).trans q1
    · refine Or.inr ⟨?_, q2, by omega, q4⟩
      rw [hcl _ htk]
      exact (if_pos rfl).trans q1
end PARSE
