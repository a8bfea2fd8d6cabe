/-! What every value's row is like. -/
def okN (n : Nat) (x : Nd) : Prop := (0 ≤ x.1.toInt ∧ x.1.toInt ≤ 6) ∧ 1 ≤ x.2.1 ∧ x.2.1 ≤ n
def okL (L : List Nd) : Prop := (∃ x xs, L = x :: xs ∧ x.2.1 = L.length) ∧ ∀ x ∈ L, okN L.length x
theorem kids_ok {K : KE} {st : CS} {f : Nat → Option (List Nd)} (hf : ∀ a L, f a = some L → okL L) : ∀ (n : Nat) (r : Option Nat) (xs : List (List Nd)), kidsOf K st f n r = some xs → ∀ L ∈ xs, okL L := by
  intro n
  induction n with
  | zero =>
    intro r xs hx
    cases r with
    | none => cases hx; intro L hL; cases hL
    | some a => cases hx
  | succ n ih =>
    intro r xs hx
    cases r with
    | none => cases hx; intro L hL; cases hL
    | some a =>
      have hx : ((f a).bind fun x => (gQ K st a 11 5).bind fun r => (kidsOf K st f n r).bind fun xs => some (x :: xs)) = some xs := hx
      obtain ⟨x, e1, hx⟩ := ob hx
      obtain ⟨r, e2, hx⟩ := ob hx
      obtain ⟨ys, e3, hx⟩ := ob hx
      cases hx
      intro L hL
      rcases List.mem_cons.mp hL with rfl | h9
      · exact hf a _ e1
      · exact ih r ys e3 L h9
theorem len_flat {xs : List (List Nd)} {L : List Nd} (h : L ∈ xs) : L.length ≤ xs.flatten.length := by
  induction xs with
  | nil => cases h
  | cons y ys ih =>
    rw [List.flatten_cons, List.length_append]
    rcases List.mem_cons.mp h with rfl | h9
    · omega
    · have := ih h9; omega
theorem ordK_r {Zd : Nat → Nat} {k : Nat} {o : Int32} (h : ordK Zd k = some o) : 0 ≤ o.toInt ∧ o.toInt ≤ 6 := by
  obtain ⟨i, hi, -, hx⟩ := ordK_some h
  rcases (show i = 0 ∨ i = 1 ∨ i = 2 ∨ i = 3 ∨ i = 4 ∨ i = 5 ∨ i = 6 by omega) with rfl | rfl | rfl | rfl | rfl | rfl | rfl <;> subst hx <;> decide
theorem ite_of {α : Type} {c : Prop} [Decidable c] {x y : α} (h : (if c then some x else none) = some y) : c ∧ x = y := by
  by_cases e : c
  · rw [if_pos e] at h; exact ⟨e, Option.some.inj h⟩
  · rw [if_neg e] at h; cases h
theorem tree_ok {Zd : Nat → Nat} {K : KE} {st : CS} : ∀ (d a : Nat) (L : List Nd), treeOf Zd K st d a = some L → okL L := by
  intro d
  induction d with
  | zero => intro a L hx; cases hx
  | succ d ih =>
    intro a L hx
    unfold treeOf at hx
    obtain ⟨kd, e1, hx⟩ := ob hx
    obtain ⟨k, e2, hx⟩ := ob hx
    obtain ⟨o, e3, hx⟩ := ob hx
    obtain ⟨num, e4, hx⟩ := ob hx
    obtain ⟨ch, e5, hx⟩ := ob hx
    obtain ⟨c, e6, hx⟩ := ob hx
    obtain ⟨cs, e7, hx⟩ := ob hx
    obtain ⟨nm, e8, hx⟩ := ob hx
    obtain ⟨n, e9, hx⟩ := ob hx
    obtain ⟨ns, e10, hx⟩ := ob hx
    obtain ⟨fst, e11, hx⟩ := ob hx
    obtain ⟨xs, e12, hx⟩ := ob hx
    have hx := (ite_of hx).2
    subst hx
    refine ⟨⟨_, _, rfl, by simp; omega⟩, fun x hx => ?_⟩
    rcases List.mem_cons.mp hx with rfl | h9
    · exact ⟨ordK_r e3, by simp, by simp; omega⟩
    · obtain ⟨L1, hL1, hx1⟩ := List.mem_flatten.mp h9
      obtain ⟨h1, h2, h3⟩ := (kids_ok ih 64 fst xs e12 L1 hL1).2 x hx1
      have := len_flat hL1
      exact ⟨h1, h2, by rw [List.length_cons]; omega⟩
theorem nar_b {v : Int32} (h0 : -128 ≤ v.toInt) (h1 : v.toInt ≤ 127) : vp_nar .byte v = v := by
  show v.toInt8.toInt32 = v
  apply i32eq
  rw [Int8.toInt_toInt32, Int32.toInt_toInt8]
  apply Int.bmod_eq_of_le
  · simpa using h0
  · simp; omega
theorem row_nar {ms : MS} {a : Nat} {L : List Nd} (h : rowIs ms a L) (hk : okL L) (hl : L.length ≤ 100) : ∀ i, i < L.length → vp_nar .byte (ms.2.2.1 1 (a + i)) = ms.2.2.1 1 (a + i) ∧ vp_nar .byte (ms.2.2.1 2 (a + i)) = ms.2.2.1 2 (a + i) := by
  intro i hi
  obtain ⟨h1, h2, -⟩ := h i L[i] (List.getElem?_eq_getElem hi)
  obtain ⟨k1, k2, k3⟩ := hk.2 L[i] (List.getElem_mem hi)
  rw [h1, h2]
  have e : (Int32.ofNat (L[i]).2.1).toInt = (L[i]).2.1 := ofNat_i (by omega)
  exact ⟨nar_b (by omega) (by omega), nar_b (by omega) (by omega)⟩
theorem rowIs.cp {ms ms1 : MS} {a b : Nat} {L : List Nd} (h : rowIs ms a L) (hc : cpd ms ms1 a b L.length) : rowIs ms1 b L := by
  intro i x hx
  have hi : i < L.length := by
    rcases Nat.lt_or_ge i L.length with h9 | h9
    · exact h9
    · rw [List.getElem?_eq_none h9] at hx; cases hx
  obtain ⟨-, -, -, -, c5, c6⟩ := hc
  have hin : b ≤ b + i ∧ b + i < b + L.length := by omega
  have e : b + i - b = i := by omega
  rw [c5 1 (Or.inl rfl), c5 2 (Or.inr rfl), c6 0 (by decide), c6 1 (by decide), c6 2 (by decide), c6 3 (by decide), if_pos hin, if_pos hin, if_pos hin, if_pos hin, if_pos hin, if_pos hin, e]
  exact h i x hx
theorem rowIs.cp_ne {ms ms1 : MS} {a b c n : Nat} {L : List Nd} (h : rowIs ms c L) (hc : cpd ms ms1 a b n) (hd : c + L.length ≤ b ∨ b + n ≤ c) : rowIs ms1 c L := by
  intro i x hx
  have hi : i < L.length := by
    rcases Nat.lt_or_ge i L.length with h9 | h9
    · exact h9
    · rw [List.getElem?_eq_none h9] at hx; cases hx
  obtain ⟨-, -, -, -, c5, c6⟩ := hc
  have hin : ¬ (b ≤ c + i ∧ c + i < b + n) := by omega
  rw [c5 1 (Or.inl rfl), c5 2 (Or.inr rfl), c6 0 (by decide), c6 1 (by decide), c6 2 (by decide), c6 3 (by decide), if_neg hin, if_neg hin, if_neg hin, if_neg hin, if_neg hin, if_neg hin]
  exact h i x hx
