/-! New values; the model's nodes. -/
theorem fits_cell {K : KE} {s : CS} (hw : wf K s) : s.1.1 ∉ s.2.1 ∧ s.1.1 ∉ K.1 := ⟨fun h => by have := hw.1 _ h; omega, fun h => by have := (hw.2 _ h).1; omega⟩
section NEW
variable {Zd : Nat → Nat} {K : KE} {s st : CS} {ms : MS} {q : Nat → Nat} {cw : Nat} {I : Nat → Int32} {A : Nat → Nat → Int32} {R : Nat → Option Nat} {Q : Nat → Nat → Option Nat}
theorem Cx.new1 {s1 : CS} (h : Cx K s q cw I A R Q) {fs : List Value} (e1 : s1.1.1 = s.1.1 + 1) (e2 : s1.2.1 = s.2.1 ++ [s.1.1]) (e3 : ∀ b, b ≠ s.1.1 → s1.2.2 b = s.2.2 b) (e4 : s1.2.2 s.1.1 = .inr (.inr (11, fs))) : Cx K s1 q cw I A R Q ∧ le K s s1 := by
  obtain ⟨hF, hw, hz⟩ := h
  have hmem : ∀ b, b ∈ s.2.1 → b ∈ s1.2.1 ∧ s1.2.2 b = s.2.2 b := fun b hb => ⟨by rw [e2]; simp [hb], e3 b (by have := hw.1 b hb; omega)⟩
  have hkn : ∀ b, b ∈ K.1 → b ∉ s1.2.1 := by
    intro b hb h9
    obtain ⟨k1, k2⟩ := hw.2 b hb
    rw [e2] at h9
    simp at h9
    rcases h9 with h9 | h9
    · exact k2 h9
    · omega
  have hcA := le.new hw hmem hkn
  have hback : ∀ (b : Nat) (x : CE), cA K s1 b = some x → b = s.1.1 ∨ cA K s b = some x := by
    intro b x hb
    rcases cA_or hb with ⟨g1, g2⟩ | ⟨g1, g2⟩
    · rw [e2] at g1
      simp at g1
      rcases g1 with g1 | g1
      · right
        rw [cA_w g1, ← (hmem b g1).2, g2]
      · exact Or.inl g1
    · right
      rw [cA_k hw g1, g2]
  refine ⟨⟨hF.mono (fun b hb => (hmem b hb).1) (fun i hi => (hmem _ (hF.n11 hi).1).2), ⟨fun b hb => ?_, fun b hb => ?_⟩, ?_⟩, ⟨fun b c fs _ hb => hcA b _ hb, fun b w fs hb => ?_⟩⟩
  · rw [e2] at hb
    simp at hb
    rcases hb with hb | hb
    · have := hw.1 b hb; omega
    · omega
  · exact ⟨by have := (hw.2 b hb).1; omega, hkn b hb⟩
  · intro b w fs hb
    rcases hback b _ hb with e | e
    · rw [e, cA_w (by rw [e2]; simp), e4] at hb
      cases hb
    · obtain ⟨g1, g2, g3, n9, g9, g4, g5⟩ := hz b w fs e
      exact ⟨g1, g2, g3, n9, g9, hcA w _ g4, g5⟩
  · obtain ⟨-, -, -, n9, g9, g4, -⟩ := hz b w fs hb
    rw [g4, hcA w _ g4]
/-- a new value -/
theorem new_val (hk : kc Zd K) (h : Cx K s q cw I A R Q) {i : Nat} (hi : i < 7) {num : Int32} {c : Nat} {cs : List Int32} (hc : strOf K s c = some cs) (z6 : s.1.1 + 1 ≤ Zd 6) (z7 : s.1.2 + 6 ≤ Zd 7) : ∃ s1 s2, nOc Zd s 11 6 [.null, .int 0, .null, .null, .null, .null] = some s1 ∧ c_Value_init Zd K s.1.1 (some (Zd (8 + i))) num (some c) s1 = some s2 ∧ Cx K s2 q cw I A R Q ∧ le K s s2 ∧ s2.1 = (s.1.1 + 1, s.1.2 + 6) ∧ Nv Zd K s2 s.1.1 (([0, 1, 2, 3, 4, 5, 6] : List Int32).getD i 0) num cs [] none none := by
  have e1 : nOc Zd s 11 6 [.null, .int 0, .null, .null, .null, .null] = some (nO s 11 6 [.null, .int 0, .null, .null, .null, .null]) := by
    unfold nOc
    rw [if_pos ⟨z6, z7⟩]
  generalize hs1 : nO s 11 6 [.null, .int 0, .null, .null, .null, .null] = s1 at *
  have s11 : s1.1 = (s.1.1 + 1, s.1.2 + 6) := by rw [← hs1]; rfl
  have s12 : s1.2.1 = s.2.1 ++ [s.1.1] := by rw [← hs1]; rfl
  have s13 : ∀ b, b ≠ s.1.1 → s1.2.2 b = s.2.2 b := fun b hb => by rw [← hs1]; exact va_up_ne _ _ hb
  have o1 : ob1 s1 s.1.1 11 [.null, .int 0, .null, .null, .null, .null] := ⟨by rw [s12]; simp, by rw [← hs1]; exact va_up_self _ _ _⟩
  have e2 : sF s1 s.1.1 11 3 (.ref (Zd 0)) = some (uC s1 s.1.1 (.inr (.inr (11, [.null, .int 0, .null, .ref (Zd 0), .null, .null])))) := sF_ob (k := 3) o1 (Nat.le_of_ble_eq_true rfl)
  have o2 : ob1 (uC s1 s.1.1 (.inr (.inr (11, [.null, .int 0, .null, .ref (Zd 0), .null, .null])))) s.1.1 11 [.null, .int 0, .null, .ref (Zd 0), .null, .null] := ob1_self o1.1
  have e3 : sF (uC s1 s.1.1 (.inr (.inr (11, [.null, .int 0, .null, .ref (Zd 0), .null, .null])))) s.1.1 11 0 (.ref (Zd (8 + i))) = some (uC s1 s.1.1 (.inr (.inr (11, [.ref (Zd (8 + i)), .int 0, .null, .ref (Zd 0), .null, .null])))) := by
    have := sF_ob (k := 0) (v := .ref (Zd (8 + i))) o2 (Nat.le_of_ble_eq_true rfl)
    rw [uC_uC] at this
    exact this
  have o3 : ob1 (uC s1 s.1.1 (.inr (.inr (11, [.ref (Zd (8 + i)), .int 0, .null, .ref (Zd 0), .null, .null])))) s.1.1 11 [.ref (Zd (8 + i)), .int 0, .null, .ref (Zd 0), .null, .null] := ob1_self o1.1
  have e4 : sF (uC s1 s.1.1 (.inr (.inr (11, [.ref (Zd (8 + i)), .int 0, .null, .ref (Zd 0), .null, .null])))) s.1.1 11 1 (.int num) = some (uC s1 s.1.1 (.inr (.inr (11, [.ref (Zd (8 + i)), .int num, .null, .ref (Zd 0), .null, .null])))) := by
    have := sF_ob (k := 1) (v := .int num) o3 (Nat.le_of_ble_eq_true rfl)
    rw [uC_uC] at this
    exact this
  have o4 : ob1 (uC s1 s.1.1 (.inr (.inr (11, [.ref (Zd (8 + i)), .int num, .null, .ref (Zd 0), .null, .null])))) s.1.1 11 [.ref (Zd (8 + i)), .int num, .null, .ref (Zd 0), .null, .null] := ob1_self o1.1
  have e5 : sF (uC s1 s.1.1 (.inr (.inr (11, [.ref (Zd (8 + i)), .int num, .null, .ref (Zd 0), .null, .null])))) s.1.1 11 2 (.ref c) = some (uC s1 s.1.1 (.inr (.inr (11, [.ref (Zd (8 + i)), .int num, .ref c, .ref (Zd 0), .null, .null])))) := by
    have := sF_ob (k := 2) (v := .ref c) o4 (Nat.le_of_ble_eq_true rfl)
    rw [uC_uC] at this
    exact this
  generalize hs2 : uC s1 s.1.1 (.inr (.inr (11, [.ref (Zd (8 + i)), .int num, .ref c, .ref (Zd 0), .null, .null]))) = s2 at *
  have f1 : s2.1 = (s.1.1 + 1, s.1.2 + 6) := by rw [← hs2]; exact s11
  have f2 : s2.2.1 = s.2.1 ++ [s.1.1] := by rw [← hs2]; exact s12
  have f3 : ∀ b, b ≠ s.1.1 → s2.2.2 b = s.2.2 b := fun b hb => by rw [← hs2, uC_ne hb]; exact s13 b hb
  have f4 : s2.2.2 s.1.1 = .inr (.inr (11, [.ref (Zd (8 + i)), .int num, .ref c, .ref (Zd 0), .null, .null])) := by rw [← hs2]; exact uC_self
  obtain ⟨g1, g2⟩ := h.new1 (by rw [f1]) f2 f3 f4
  refine ⟨s1, s2, e1, ?_, g1, g2, f1, Zd (8 + i), c, Zd 0, ⟨by rw [f2]; simp, f4⟩, hk.ord hi, g2.str hc, hk.str g1.2.1 (i := 0) rfl⟩
  simp only [c_Value_init, Option.bind_some, e2, va_rf, e3, e4, e5]
theorem Nv.leaf {a : Nat} {o num : Int32} {cs : List Int32} (h : Nv Zd K s a o num cs [] none none) (hn : -999999 ≤ num.toInt ∧ num.toInt ≤ 999999) (ho : okS cs) (o5 : o.toInt < 5) (d : Nat) : Tw Zd K s (d + 1) [a] a none [(o, 1, num, cs, [])] := ⟨o, num, cs, [], none, [], h, rfl, ⟨by decide, fun h9 => by omega⟩, ⟨fun _ => rfl, ho, ⟨by decide, fun c hc => by cases hc⟩, hn, fun _ => List.nodup_nil⟩, rfl, rfl⟩
end NEW
/-! the model's rows of the text -/
def lowM (b : Nat) (ms ms2 : MS) : Prop := (∀ k, k ≠ 1 → k ≠ 2 → k ≠ 3 → k ≠ 4 → ms2.1 k = ms.1 k) ∧ (∀ k, k ≠ 1 → k ≠ 2 → k ≠ 3 → ms2.2.2.1 k = ms.2.2.1 k) ∧ (∀ k, 4 ≤ k → ms2.2.2.2 k = ms.2.2.2 k) ∧ ∀ j, j < b → ms2.2.2.1 1 j = ms.2.2.1 1 j ∧ ms2.2.2.1 2 j = ms.2.2.1 2 j ∧ ∀ k, k < 4 → ms2.2.2.2 k j = ms.2.2.2 k j
theorem lowM.rf (b : Nat) (ms : MS) : lowM b ms ms := ⟨fun _ _ _ _ _ => rfl, fun _ _ _ _ => rfl, fun _ _ => rfl, fun _ _ => ⟨rfl, rfl, fun _ _ => rfl⟩⟩
theorem lowM.tr {b : Nat} {x y z : MS} (h : lowM b x y) (h1 : lowM b y z) : lowM b x z := ⟨fun k a1 a2 a3 a4 => (h1.1 k a1 a2 a3 a4).trans (h.1 k a1 a2 a3 a4), fun k a1 a2 a3 => (h1.2.1 k a1 a2 a3).trans (h.2.1 k a1 a2 a3), fun k a1 => (h1.2.2.1 k a1).trans (h.2.2.1 k a1), fun j hj => ⟨(h1.2.2.2 j hj).1.trans (h.2.2.2 j hj).1, (h1.2.2.2 j hj).2.1.trans (h.2.2.2 j hj).2.1, fun k hk => ((h1.2.2.2 j hj).2.2 k hk).trans ((h.2.2.2 j hj).2.2 k hk)⟩⟩
theorem lowM.dn {b c : Nat} {x y : MS} (h : lowM b x y) (hc : c ≤ b) : lowM c x y := ⟨h.1, h.2.1, h.2.2.1, fun j hj => h.2.2.2 j (Nat.lt_of_lt_of_le hj hc)⟩
theorem kM.low {x y : MS} (h : kM x y) (b : Nat) : lowM b x y := ⟨fun k a1 a2 _ _ => h.1 k a1 a2, fun _ _ _ _ => by rw [h.2.1], fun _ _ => by rw [h.2.2], fun j _ => ⟨by rw [h.2.1], by rw [h.2.1], fun k _ => by rw [h.2.2]⟩⟩
theorem at80 : m_at 80 = some 1920 := by
  simp only [m_at, show (80 : Int32) ≤ 80 from by decide, if_true, Option.bind_some]
  rfl
theorem rowN {x : Int32} {nn : Nat} (h : x.toInt = nn) (hn : nn < 100) : (1920 + x).toNatClampNeg = 1920 + nn ∧ vp_in (1920 + x) 2100 := by
  have L : (1920 : Int32).toInt = 1920 := by decide
  have e : (1920 + x).toInt = 1920 + nn := by rw [i32add (by omega) (by omega)]; omega
  exact ⟨by rw [tnn, e]; omega, vp_of (by omega) (by omega)⟩
theorem named_eq {ms : MS} {nn : Nat} (h : (ms.1 3).toInt = nn) (hn : nn < 100) (x y : Int64) : m_named x y ms = some (ms.1, ms.2.1, ms.2.2.1, va_up (va_up ms.2.2.2 2 (vp_updL (ms.2.2.2 2) (1920 + nn) x)) 3 (vp_updL (ms.2.2.2 3) (1920 + nn) y)) := by
  obtain ⟨e1, e2⟩ := rowN h hn
  simp only [m_named, at80, Option.bind_some, ix_in e2, e1]
theorem node_eq {ms : MS} {nn : Nat} (h : (ms.1 3).toInt = nn) (hn : nn < 100) {o : Int32} (o0 : 0 ≤ o.toInt) (o1 : o.toInt ≤ 6) (x y : Int64) : m_node o x y ms = some (upd ms.1 3 (ms.1 3 + 1), ms.2.1, va_up (va_up ms.2.2.1 1 (upd (ms.2.2.1 1) (1920 + nn) o)) 2 (upd (ms.2.2.1 2) (1920 + nn) 1), va_up (va_up ms.2.2.2 0 (vp_updL (ms.2.2.2 0) (1920 + nn) x)) 1 (vp_updL (ms.2.2.2 1) (1920 + nn) y)) := by
  obtain ⟨e1, e2⟩ := rowN h hn
  have e3 : o.toInt8.toInt32 = o := nar_b (by omega) (by omega)
  have e4 : vp_nar .byte o = o := nar_b (by omega) (by omega)
  have e5 : vp_nar .byte (1 : Int32) = 1 := rfl
  simp only [m_node, at80, Option.bind_some, ix_in e2, e1, e3, e4, e5]
theorem lowM.named (ms : MS) (b : Nat) (x y : Int64) : lowM b ms (ms.1, ms.2.1, ms.2.2.1, va_up (va_up ms.2.2.2 2 (vp_updL (ms.2.2.2 2) b x)) 3 (vp_updL (ms.2.2.2 3) b y)) := by
  refine ⟨fun _ _ _ _ _ => rfl, fun _ _ _ _ => rfl, fun k hk => ?_, fun j hj => ⟨rfl, rfl, fun k hk => ?_⟩⟩
  · show va_up (va_up _ _ _) _ _ k = _
    rw [va_up_ne _ _ (by omega), va_up_ne _ _ (by omega)]
  · dsimp only
    by_cases e3 : k = 3
    · subst e3; rw [va_up_self, updL_ne (by omega)]
    · rw [va_up_ne _ _ e3]
      by_cases e2 : k = 2
      · subst e2; rw [va_up_self, updL_ne (by omega)]
      · rw [va_up_ne _ _ e2]
theorem lowM.node (ms : MS) (b : Nat) (o p : Int32) (x y : Int64) : lowM b ms (upd ms.1 3 p, ms.2.1, va_up (va_up ms.2.2.1 1 (upd (ms.2.2.1 1) b o)) 2 (upd (ms.2.2.1 2) b 1), va_up (va_up ms.2.2.2 0 (vp_updL (ms.2.2.2 0) b x)) 1 (vp_updL (ms.2.2.2 1) b y)) := by
  refine ⟨fun k _ _ h3 _ => upd_ne h3, fun k h1 h2 _ => ?_, fun k hk => ?_, fun j hj => ⟨?_, ?_, fun k hk => ?_⟩⟩
  · show va_up (va_up _ _ _) _ _ k = _
    rw [va_up_ne _ _ h2, va_up_ne _ _ h1]
  · show va_up (va_up _ _ _) _ _ k = _
    rw [va_up_ne _ _ (by omega), va_up_ne _ _ (by omega)]
  · dsimp only
    rw [va_up_ne _ _ (by decide), va_up_self, upd_ne (by omega)]
  · dsimp only
    rw [va_up_self, upd_ne (by omega)]
  · dsimp only
    by_cases e3 : k = 1
    · subst e3; rw [va_up_self, updL_ne (by omega)]
    · rw [va_up_ne _ _ e3]
      by_cases e2 : k = 0
      · subst e2; rw [va_up_self, updL_ne (by omega)]
      · rw [va_up_ne _ _ e2]
/-- the model's loop goes on for n turns -/
def mrun (n : Nat) (b : Int32) (ms1 : MS) (b2 : Int32) (ms2 : MS) : Prop := ∀ (f : Nat) (t : Int32), 0 ≤ t.toInt → t.toInt + n ≤ 199 → ∃ t2 : Int32, t2.toInt = t.toInt + n ∧ m_readValue_l1 (f + n) (b, t, ms1) = m_readValue_l1 f (b2, t2, ms2)
theorem mrun.zero (b : Int32) (ms : MS) : mrun 0 b ms b ms := fun f t _ _ => ⟨t, by simp, rfl⟩
theorem mrun.tr {n m : Nat} {b b2 b3 : Int32} {x y z : MS} (h : mrun n b x b2 y) (h1 : mrun m b2 y b3 z) : mrun (n + m) b x b3 z := by
  intro f t h0 h9
  obtain ⟨t2, e1, e2⟩ := h (f + m) t h0 (by omega)
  obtain ⟨t3, e3, e4⟩ := h1 f t2 (by omega) (by omega)
  exact ⟨t3, by omega, by rw [show f + (n + m) = f + m + n by omega, e2, e4]⟩
