/-! Class and model stand alike. -/
def pgr (x : Int32) : Prop := -1 ≤ x.toInt ∧ x.toInt < 12
/-- the text -/
def Rt (I : Nat → Int32) (A : Nat → Nat → Int32) (ms : MS) : Prop := A 0 = ms.2.2.1 0 ∧ I 0 = ms.1 0 ∧ 0 ≤ (I 0).toInt ∧ (I 0).toInt ≤ 80
/-- metas, readers, blocks -/
def Rs (I : Nat → Int32) (A : Nat → Nat → Int32) (ms : MS) : Prop := (I 9 = ms.1 14 ∧ I 10 = ms.1 12 ∧ I 11 = ms.1 13) ∧ ((I 11 = 0 ∨ I 11 = 1) ∧ 0 ≤ (I 10).toInt ∧ (I 10).toInt ≤ 20) ∧ (A 2 = ms.2.2.1 16 ∧ A 3 = ms.2.2.1 15 ∧ A 4 = ms.2.2.1 17 ∧ A 5 = ms.2.2.1 18) ∧ (∀ k, k < 3 → A 4 k = 0 ∨ A 4 k = 1) ∧ (∀ k, k < 2 → pgr (A 3 k)) ∧ ∀ k, k < 3 → pgr (A 5 k)
/-- the pages' leaves -/
def Rp (A : Nat → Nat → Int32) (ms : MS) : Prop := ∀ j, j < 12 → ∀ h, h < 2 → A (10 + j) h = ms.2.2.1 13 (2 * j + h) ∧ pgr (A (10 + j) h)
def isRoot (ms : MS) (r : Int32) : Prop := (∃ k, k < 2 ∧ r = ms.2.2.1 15 k) ∨ ∃ k, k < 3 ∧ ms.2.2.1 17 k ≠ 0 ∧ r = ms.2.2.1 18 k
/-- a page that is reached is marked as what it is; a leaf that is reached has a document -/
def Rk (ms : MS) : Prop := ∀ r, isRoot ms r → 0 ≤ r.toInt → ms.2.2.1 12 r.toNatClampNeg = 1 ∧ ∀ h, h < 2 → 0 ≤ (ms.2.2.1 13 (2 * r.toNatClampNeg + h)).toInt → ms.2.2.1 12 (ms.2.2.1 13 (2 * r.toNatClampNeg + h)).toNatClampNeg = 2 ∧ ∃ i, i < 4 ∧ ms.2.2.1 14 (4 * (ms.2.2.1 13 (2 * r.toNatClampNeg + h)).toNatClampNeg + i) ≠ 0
/-- the documents -/
def Rd (Zd : Nat → Nat) (K : KE) (st : CS) (Q : Nat → Nat → Option Nat) (ms : MS) : Prop := ∀ j, j < 12 → ∀ i, i < 4 → docIs Zd K st ms (24 * (4 * j + i)) (Q (10 + j) i) (ms.2.2.1 14 (4 * j + i))
/-- the results of the last query -/
def Rr (Zd : Nat → Nat) (K : KE) (st : CS) (I : Nat → Int32) (A : Nat → Nat → Int32) (Q : Nat → Nat → Option Nat) (ms : MS) : Prop := I 5 = ms.1 10 ∧ 0 ≤ (I 5).toInt ∧ (I 5).toInt ≤ 32 ∧ ∀ i : Nat, (i : Int) < (I 5).toInt → A 1 i = ms.2.2.1 10 i ∧ ∃ a, Q 1 i = some a ∧ docIs Zd K st ms (24 * (48 + i)) (some a) 1
/-- what was written last -/
def Ro (cw : Nat) (I : Nat → Int32) (A : Nat → Nat → Int32) (ms : MS) : Prop := I 13 = ms.1 11 ∧ 0 ≤ (I 13).toInt ∧ (I 13).toInt ≤ cw ∧ (I 13).toInt ≤ 1200 ∧ 16 ≤ cw ∧ cw ≤ 65536 ∧ ∀ i : Nat, (i : Int) < (I 13).toInt → u8 (A 6 i) = ms.2.2.1 11 i
/-- the builders -/
def Rw (I : Nat → Int32) (A : Nat → Nat → Int32) : Prop := 0 ≤ (I 15).toInt ∧ (I 15).toInt ≤ 16 ∧ 0 ≤ (I 17).toInt ∧ (I 17).toInt ≤ 16 ∧ ∀ i, fits .byte (.int (A 6 i)) = true ∧ fits .byte (.int (A 7 i)) = true ∧ fits .byte (.int (A 8 i)) = true
/-- texts have bytes of their own -/
def Rz (K : KE) (st : CS) (q : Nat → Nat) : Prop := ∀ (a v : Nat) (fs : List Value), cA K st a = some (.inr (.inr (12, .ref v :: fs))) → v ≠ q 22 ∧ v ≠ q 23 ∧ v ≠ q 25 ∧ ∃ (n : Nat) (g : Nat → Int32), cA K st v = some (.inl (2, n, g)) ∧ n ≤ 65536 ∧ ∀ i, i < n → fits .byte (.int (g i)) = true
def Rv (Zd : Nat → Nat) (K : KE) (st : CS) (ms : MS) (q : Nat → Nat) (cw : Nat) (I : Nat → Int32) (A : Nat → Nat → Int32) (R : Nat → Option Nat) (Q : Nat → Nat → Option Nat) : Prop := Fx st q cw I A R Q ∧ wf K st ∧ Rt I A ms ∧ Rs I A ms ∧ Rp A ms ∧ Rk ms ∧ Rd Zd K st Q ms ∧ Rr Zd K st I A Q ms ∧ Ro cw I A ms ∧ Rw I A ∧ Rz K st q
/-- neither value nor text nor bytes -/
def nb : CE → Bool
  | .inl (t, _, _) => t != 2
  | .inr (.inl _) => true
  | .inr (.inr (c, _)) => c != 11 && c != 12
theorem cA_uC {K : KE} {st : CS} {a b : Nat} {e : CE} (h : b ∈ st.2.1) : cA K (uC st b e) a = if a = b then some e else cA K st a := by
  by_cases c : a = b
  · subst c
    rw [if_pos rfl]
    unfold cA
    show (if a ∈ st.2.1 then some ((uC st a e).2.2 a) else _) = _
    rw [if_pos h, uC_self]
  · rw [if_neg c]; exact cA_uC_ne c
theorem wf.put {K : KE} {st : CS} {b : Nat} {e : CE} (h : wf K st) : wf K (uC st b e) := h
theorem nb_le {K : KE} {st : CS} {q : Nat → Nat} {b : Nat} {e0 e : CE} (hz : Rz K st q) (hb : b ∈ st.2.1) (h0 : st.2.2 b = e0) (hn : nb e0 = true) : le K st (uC st b e) := by
  have hc : cA K st b = some e0 := by rw [cA_w hb, h0]
  refine le.put hc (fun c fs he hcc => ?_) (fun a v fs ha he => ?_)
  · subst he
    rcases hcc with rfl | rfl <;> simp [nb] at hn
  · obtain ⟨-, -, -, n, g, h1, -⟩ := hz a v fs ha
    subst he
    rw [h1] at hc
    cases hc
    simp [nb] at hn
theorem nb_Rz {K : KE} {st : CS} {q : Nat → Nat} {b : Nat} {e0 e : CE} (hz : Rz K st q) (hb : b ∈ st.2.1) (h0 : st.2.2 b = e0) (hn : nb e0 = true) (hn1 : nb e = true) : Rz K (uC st b e) q := by
  intro a v fs ha
  rw [cA_uC hb] at ha
  by_cases c : a = b
  · rw [if_pos c] at ha
    cases ha
    simp [nb] at hn1
  · rw [if_neg c] at ha
    obtain ⟨g1, g2, g3, n, g, g4, g5⟩ := hz a v fs ha
    refine ⟨g1, g2, g3, n, g, ?_, g5⟩
    rw [cA_uC hb, if_neg ?_]
    · exact g4
    · intro e9
      subst e9
      rw [cA_w hb, h0] at g4
      cases g4
      simp [nb] at hn
theorem docIs.le {Zd : Nat → Nat} {K : KE} {st st1 : CS} {ms : MS} {base : Nat} {r : Option Nat} {t : Int32} (h : docIs Zd K st ms base r t) (hl : le K st st1) : docIs Zd K st1 ms base r t := by
  cases r with
  | none => exact h
  | some a =>
    obtain ⟨h1, L, h2, h3⟩ := h
    exact ⟨h1, L, hl.tree 5 a L h2, h3⟩
/-- the model's rows are the same -/
def sr (ms ms1 : MS) : Prop := ms1.2.2.1 1 = ms.2.2.1 1 ∧ ms1.2.2.1 2 = ms.2.2.1 2 ∧ ms1.2.2.2 0 = ms.2.2.2 0 ∧ ms1.2.2.2 1 = ms.2.2.2 1 ∧ ms1.2.2.2 2 = ms.2.2.2 2 ∧ ms1.2.2.2 3 = ms.2.2.2 3
theorem rowIs.same {ms ms1 : MS} {base : Nat} {L : List Nd} (h : rowIs ms base L) (hs : sr ms ms1) : rowIs ms1 base L := by
  intro i x hx
  obtain ⟨s1, s2, s3, s4, s5, s6⟩ := hs
  rw [s1, s2, s3, s4, s5, s6]
  exact h i x hx
theorem docIs.same {Zd : Nat → Nat} {K : KE} {st : CS} {ms ms1 : MS} {base : Nat} {r : Option Nat} {t : Int32} (h : docIs Zd K st ms base r t) (hs : sr ms ms1) : docIs Zd K st ms1 base r t := by
  cases r with
  | none => exact h
  | some a =>
    obtain ⟨h1, L, h2, h3, h4⟩ := h
    exact ⟨h1, L, h2, h3.same hs, h4⟩
theorem Rd.mono {Zd : Nat → Nat} {K : KE} {st st1 : CS} {Q : Nat → Nat → Option Nat} {ms ms1 : MS} (h : Rd Zd K st Q ms) (hl : le K st st1) (hs : sr ms ms1) (ht : ms1.2.2.1 14 = ms.2.2.1 14) : Rd Zd K st1 Q ms1 := fun j hj i hi => by
  rw [ht]
  exact ((h j hj i hi).le hl).same hs
theorem Rr.mono {Zd : Nat → Nat} {K : KE} {st st1 : CS} {I I1 : Nat → Int32} {A A1 : Nat → Nat → Int32} {Q : Nat → Nat → Option Nat} {ms ms1 : MS} (h : Rr Zd K st I A Q ms) (hl : le K st st1) (hs : sr ms ms1) (h5 : I1 5 = I 5) (h1 : A1 1 = A 1) (hm : ms1.1 10 = ms.1 10) (hi : ms1.2.2.1 10 = ms.2.2.1 10) : Rr Zd K st1 I1 A1 Q ms1 := by
  obtain ⟨a1, a2, a3, a4⟩ := h
  refine ⟨by rw [h5, hm]; exact a1, by rw [h5]; exact a2, by rw [h5]; exact a3, fun i hi9 => ?_⟩
  rw [h5] at hi9
  obtain ⟨b1, a, b2, b3⟩ := a4 i hi9
  exact ⟨by rw [h1, hi]; exact b1, a, b2, (b3.le hl).same hs⟩
/-! numbers -/
theorem i32_80 : (80 : Int32).toInt = 80 := by decide
theorem vp_of {i : Int32} {n : Nat} (h0 : 0 ≤ i.toInt) (h1 : i.toInt < n) : vp_in i n := by
  rintro (h | h)
  · have := Int32.lt_iff_toInt_lt.mp h
    have h9 : (0 : Int32).toInt = 0 := by decide
    omega
  · have h2 : i.toNatClampNeg = i.toInt.toNat := rfl
    omega
theorem Rp.mono {A A1 : Nat → Nat → Int32} {ms ms1 : MS} (h : Rp A ms) (hA : ∀ j, j < 12 → A1 (10 + j) = A (10 + j)) (hm : ms1.2.2.1 13 = ms.2.2.1 13) : Rp A1 ms1 := fun j hj k hk => by
  rw [hA j hj, hm]
  exact h j hj k hk
theorem i32add {a b : Int32} (h1 : -2147483648 ≤ a.toInt + b.toInt) (h2 : a.toInt + b.toInt < 2147483648) : (a + b).toInt = a.toInt + b.toInt := by
  rw [Int32.toInt_add]
  apply Int.bmod_eq_of_le
  · simpa using h1
  · simpa using h2
theorem i32sub {a b : Int32} (h1 : -2147483648 ≤ a.toInt - b.toInt) (h2 : a.toInt - b.toInt < 2147483648) : (a - b).toInt = a.toInt - b.toInt := by
  rw [Int32.toInt_sub]
  apply Int.bmod_eq_of_le
  · simpa using h1
  · simpa using h2
theorem i32mul {a b : Int32} (h1 : -2147483648 ≤ a.toInt * b.toInt) (h2 : a.toInt * b.toInt < 2147483648) : (a * b).toInt = a.toInt * b.toInt := by
  rw [Int32.toInt_mul]
  apply Int.bmod_eq_of_le
  · simpa using h1
  · simpa using h2
theorem i32_1 : (1 : Int32).toInt = 1 := by decide
theorem i32_0 : (0 : Int32).toInt = 0 := by decide
theorem i32eq {a b : Int32} (h : a.toInt = b.toInt) : a = b := Int32.toInt_inj.mp h
theorem tnn {i : Int32} : i.toNatClampNeg = i.toInt.toNat := rfl
