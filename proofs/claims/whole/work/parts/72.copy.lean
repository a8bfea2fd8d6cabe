/-! The model's rows copied. -/
def cpd (ms ms1 : MS) (a b n : Nat) : Prop := ms1.1 = ms.1 ∧ ms1.2.1 = ms.2.1 ∧ (∀ k, k ≠ 1 → k ≠ 2 → ms1.2.2.1 k = ms.2.2.1 k) ∧ (∀ k, 4 ≤ k → ms1.2.2.2 k = ms.2.2.2 k) ∧ (∀ k, k = 1 ∨ k = 2 → ∀ j, ms1.2.2.1 k j = if b ≤ j ∧ j < b + n then ms.2.2.1 k (a + (j - b)) else ms.2.2.1 k j) ∧ ∀ k, k < 4 → ∀ j, ms1.2.2.2 k j = if b ≤ j ∧ j < b + n then ms.2.2.2 k (a + (j - b)) else ms.2.2.2 k j
theorem cpd.zero (ms : MS) (a b : Nat) : cpd ms ms a b 0 := ⟨rfl, rfl, fun _ _ _ => rfl, fun _ _ => rfl, fun k _ j => by rw [if_neg (by omega)], fun k _ j => by rw [if_neg (by omega)]⟩
theorem updL_ne {f : Nat → Int64} {k j : Nat} {x : Int64} (h : j ≠ k) : vp_updL f k x j = f j := by
  unfold vp_updL
  rw [if_neg h]
theorem updL_self {f : Nat → Int64} {k : Nat} {x : Int64} : vp_updL f k x k = x := by
  unfold vp_updL
  rw [if_pos rfl]
theorem upd_self {f : Nat → Int32} {k : Nat} {x : Int32} : upd f k x k = x := by
  unfold upd
  rw [if_pos rfl]
theorem copy_lock {ms : MS} {a0 a1 a2 : Int32} {a b n : Nat} (ha : a0.toInt = a) (hb : a1.toInt = b) (hn : a2.toInt = n) (hda : a + n ≤ 2100) (hdb : b + n ≤ 2100) (hd : a + n ≤ b ∨ b + n ≤ a) (hv : ∀ i, i < n → vp_nar .byte (ms.2.2.1 1 (a + i)) = ms.2.2.1 1 (a + i) ∧ vp_nar .byte (ms.2.2.1 2 (a + i)) = ms.2.2.1 2 (a + i)) : ∀ (m fuel : Nat) (k : Int32) (mk : MS), k.toInt + m = n → 0 ≤ k.toInt → m < fuel → cpd ms mk a b k.toInt.toNat → ∃ ms1, m_copy_l1 a0 a1 a2 fuel (k, mk) = some (a2, ms1) ∧ cpd ms ms1 a b n := by
  have L := nums
  intro m
  induction m with
  | zero =>
    intro fuel k mk h1 h2 h3 hc
    obtain ⟨f, rfl⟩ : ∃ f, fuel = f + 1 := ⟨fuel - 1, by omega⟩
    have hk : k = a2 := i32eq (by omega)
    subst hk
    refine ⟨mk, by rw [m_copy_l1_s, if_pos (show k ≤ k from i32le.mpr (Int.le_refl _))], ?_⟩
    have e : k.toInt.toNat = n := by omega
    rw [e] at hc
    exact hc
  | succ m ih =>
    intro fuel k mk h1 h2 h3 hc
    obtain ⟨f, rfl⟩ : ∃ f, fuel = f + 1 := ⟨fuel - 1, by omega⟩
    have hk8 : ¬ a2 ≤ k := fun e => by have := i32le.mp e; omega
    have k1 : (k + 1).toInt = k.toInt + 1 := by rw [i32add (by omega) (by omega)]; omega
    have y8 : (a1 + k).toInt = b + k.toInt := by rw [i32add (by omega) (by omega), hb]
    have y9 : (a0 + k).toInt = a + k.toInt := by rw [i32add (by omega) (by omega), ha]
    have i8 : vp_in (a1 + k) 2100 := vp_of (by omega) (by omega)
    have i9 : vp_in (a0 + k) 2100 := vp_of (by omega) (by omega)
    generalize hkk : k.toInt.toNat = kk at *
    have t8 : (a1 + k).toNatClampNeg = b + kk := by rw [tnn, y8]; omega
    have t9 : (a0 + k).toNatClampNeg = a + kk := by rw [tnn, y9]; omega
    obtain ⟨c1, c2, c3, c4, c5, c6⟩ := hc
    have hsrc : ¬ (b ≤ a + kk ∧ a + kk < b + kk) := by omega
    have r1 : mk.2.2.1 1 (a + kk) = ms.2.2.1 1 (a + kk) := by rw [c5 1 (Or.inl rfl), if_neg hsrc]
    have r2 : mk.2.2.1 2 (a + kk) = ms.2.2.1 2 (a + kk) := by rw [c5 2 (Or.inr rfl), if_neg hsrc]
    have q0 : mk.2.2.2 0 (a + kk) = ms.2.2.2 0 (a + kk) := by rw [c6 0 (by decide), if_neg hsrc]
    have q1 : mk.2.2.2 1 (a + kk) = ms.2.2.2 1 (a + kk) := by rw [c6 1 (by decide), if_neg hsrc]
    have q2 : mk.2.2.2 2 (a + kk) = ms.2.2.2 2 (a + kk) := by rw [c6 2 (by decide), if_neg hsrc]
    have q3 : mk.2.2.2 3 (a + kk) = ms.2.2.2 3 (a + kk) := by rw [c6 3 (by decide), if_neg hsrc]
    obtain ⟨v1, v2⟩ := hv kk (by omega)
    have hstep : cpd ms (mk.1, mk.2.1, va_up (va_up mk.2.2.1 1 (upd (mk.2.2.1 1) (b + kk) (ms.2.2.1 1 (a + kk)))) 2 (upd (mk.2.2.1 2) (b + kk) (ms.2.2.1 2 (a + kk))), va_up (va_up (va_up (va_up mk.2.2.2 0 (vp_updL (mk.2.2.2 0) (b + kk) (ms.2.2.2 0 (a + kk)))) 1 (vp_updL (mk.2.2.2 1) (b + kk) (ms.2.2.2 1 (a + kk)))) 2 (vp_updL (mk.2.2.2 2) (b + kk) (ms.2.2.2 2 (a + kk)))) 3 (vp_updL (mk.2.2.2 3) (b + kk) (ms.2.2.2 3 (a + kk)))) a b (kk + 1) := by
      have gi : ∀ (g f : Nat → Int32), (∀ j, g j = if b ≤ j ∧ j < b + kk then f (a + (j - b)) else f j) → ∀ j, upd g (b + kk) (f (a + kk)) j = if b ≤ j ∧ j < b + (kk + 1) then f (a + (j - b)) else f j := by
        intro g f hg j
        by_cases e : j = b + kk
        · subst e
          rw [upd_self, if_pos (by omega), show b + kk - b = kk by omega]
        · rw [upd_ne e, hg j]
          by_cases h : b ≤ j ∧ j < b + kk
          · rw [if_pos h, if_pos (by omega)]
          · rw [if_neg h, if_neg (by omega)]
      have gl : ∀ (g f : Nat → Int64), (∀ j, g j = if b ≤ j ∧ j < b + kk then f (a + (j - b)) else f j) → ∀ j, vp_updL g (b + kk) (f (a + kk)) j = if b ≤ j ∧ j < b + (kk + 1) then f (a + (j - b)) else f j := by
        intro g f hg j
        by_cases e : j = b + kk
        · subst e
          rw [updL_self, if_pos (by omega), show b + kk - b = kk by omega]
        · rw [updL_ne e, hg j]
          by_cases h : b ≤ j ∧ j < b + kk
          · rw [if_pos h, if_pos (by omega)]
          · rw [if_neg h, if_neg (by omega)]
      refine ⟨c1, c2, fun i h1 h2 => ?_, fun i h4 => ?_, fun i hi j => ?_, fun i hi j => ?_⟩
      · show va_up (va_up _ _ _) _ _ i = _
        rw [va_up_ne _ _ h2, va_up_ne _ _ h1]; exact c3 i h1 h2
      · show va_up (va_up (va_up (va_up _ _ _) _ _) _ _) _ _ i = _
        rw [va_up_ne _ _ (by omega), va_up_ne _ _ (by omega), va_up_ne _ _ (by omega), va_up_ne _ _ (by omega)]; exact c4 i h4
      · rcases hi with rfl | rfl
        · exact gi _ _ (c5 1 (Or.inl rfl)) j
        · exact gi _ _ (c5 2 (Or.inr rfl)) j
      · rcases (show i = 0 ∨ i = 1 ∨ i = 2 ∨ i = 3 by omega) with rfl | rfl | rfl | rfl
        · exact gl _ _ (c6 0 (by decide)) j
        · exact gl _ _ (c6 1 (by decide)) j
        · exact gl _ _ (c6 2 (by decide)) j
        · exact gl _ _ (c6 3 (by decide)) j
    obtain ⟨ms1, i1, i2⟩ := ih f (k + 1) _ (by omega) (by omega) (by omega) (by
      have e : (k + 1).toInt.toNat = kk + 1 := by rw [k1]; omega
      rw [e]; exact hstep)
    refine ⟨ms1, ?_, i2⟩
    rw [m_copy_l1_s, if_neg hk8]
    simp only [Option.bind_some, rd_in i9, ix_in i8, t8, t9, r1, r2, q0, q1, q2, q3, v1, v2]
    exact i1
theorem copy_ok {ms : MS} {a0 a1 a2 : Int32} {a b n : Nat} (ha : a0.toInt = a) (hb : a1.toInt = b) (hn : a2.toInt = n) (hda : a + n ≤ 2100) (hdb : b + n ≤ 2100) (hd : a + n ≤ b ∨ b + n ≤ a) (hv : ∀ i, i < n → vp_nar .byte (ms.2.2.1 1 (a + i)) = ms.2.2.1 1 (a + i) ∧ vp_nar .byte (ms.2.2.1 2 (a + i)) = ms.2.2.1 2 (a + i)) : ∃ ms1, m_copy a0 a1 a2 ms = some ms1 ∧ cpd ms ms1 a b n := by
  obtain ⟨ms1, h1, h2⟩ := copy_lock ha hb hn hda hdb hd hv n 4096 0 ms (by have := nums; omega) (by decide) (by omega) (by
    have e : (0 : Int32).toInt.toNat = 0 := rfl
    rw [e]; exact cpd.zero ms a b)
  exact ⟨ms1, by simp only [m_copy, h1, Option.bind_some], h2⟩
