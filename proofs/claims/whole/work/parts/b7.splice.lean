/-! The model's rows changed: a part moved, a part put in. -/
theorem at81 : m_at 81 = some 1980 := by
  simp only [m_at, show (80 : Int32) ≤ 81 from by decide, if_true, Option.bind_some]
  rfl
theorem at82 : m_at 82 = some 2040 := by
  simp only [m_at, show (80 : Int32) ≤ 82 from by decide, if_true, Option.bind_some]
  rfl
theorem nWk : (1980 : Int32).toInt = 1980 ∧ (2040 : Int32).toInt = 2040 := by decide
/-- what changes lies in the rows from lo on -/
def kW (lo : Nat) (ms ms1 : MS) : Prop := ms1.1 = ms.1 ∧ (∀ k, k ≠ 1 → k ≠ 2 → ms1.2.2.1 k = ms.2.2.1 k) ∧ (∀ k, 4 ≤ k → ms1.2.2.2 k = ms.2.2.2 k) ∧ ∀ j, j < lo → ms1.2.2.1 1 j = ms.2.2.1 1 j ∧ ms1.2.2.1 2 j = ms.2.2.1 2 j ∧ ∀ k, k < 4 → ms1.2.2.2 k j = ms.2.2.2 k j
theorem kW.rf (lo : Nat) (ms : MS) : kW lo ms ms := ⟨rfl, fun _ _ _ => rfl, fun _ _ => rfl, fun _ _ => ⟨rfl, rfl, fun _ _ => rfl⟩⟩
theorem kW.tr {lo : Nat} {x y z : MS} (h : kW lo x y) (h1 : kW lo y z) : kW lo x z := ⟨h1.1.trans h.1, fun k a b => (h1.2.1 k a b).trans (h.2.1 k a b), fun k a => (h1.2.2.1 k a).trans (h.2.2.1 k a), fun j hj => ⟨(h1.2.2.2 j hj).1.trans (h.2.2.2 j hj).1, (h1.2.2.2 j hj).2.1.trans (h.2.2.2 j hj).2.1, fun k hk => ((h1.2.2.2 j hj).2.2 k hk).trans ((h.2.2.2 j hj).2.2 k hk)⟩⟩
theorem kW.dn {lo l2 : Nat} {x y : MS} (h : kW lo x y) (hl : l2 ≤ lo) : kW l2 x y := ⟨h.1, h.2.1, h.2.2.1, fun j hj => h.2.2.2 j (by omega)⟩
theorem kW.eq {lo : Nat} {x y : MS} (h1 : y.1 = x.1) (h2 : y.2.2 = x.2.2) : kW lo x y := ⟨h1, fun _ _ _ => by rw [h2], fun _ _ => by rw [h2], fun _ _ => ⟨by rw [h2], by rw [h2], fun _ _ => by rw [h2]⟩⟩
theorem cpd.kW {ms ms1 : MS} {a b n lo : Nat} (h : cpd ms ms1 a b n) (hb : lo ≤ b) : kW lo ms ms1 := by
  obtain ⟨c1, c2, c3, c4, c5, c6⟩ := h
  exact ⟨c1, c3, c4, fun j hj => ⟨by rw [c5 1 (Or.inl rfl), if_neg (by omega)], by rw [c5 2 (Or.inr rfl), if_neg (by omega)], fun k hk => by rw [c6 k hk, if_neg (by omega)]⟩⟩
theorem rowIs.kW {lo b : Nat} {ms ms1 : MS} {L : List Nd} (h : rowIs ms b L) (hk : kW lo ms ms1) (hb : b + L.length ≤ lo) : rowIs ms1 b L := by
  intro i x hx
  have hi : i < L.length := (List.getElem?_eq_some_iff.mp hx).1
  obtain ⟨g1, g2, g3⟩ := hk.2.2.2 (b + i) (by omega)
  rw [g1, g2, g3 0 (by decide), g3 1 (by decide), g3 2 (by decide), g3 3 (by decide)]
  exact h i x hx
theorem rowF.kW {lo b : Nat} {ms ms1 : MS} {L : List Nd} (h : rowF ms b L) (hk : kW lo ms ms1) (hb : b + L.length ≤ lo) : rowF ms1 b L := h.keep (fun j _ h2 => hk.2.2.2 j (by omega))
theorem rowIs_sub {ms : MS} {b : Nat} {A X B : List Nd} (h : rowIs ms b (A ++ X ++ B)) : rowIs ms (b + A.length) X := by
  intro i x hx
  have hi : i < X.length := (List.getElem?_eq_some_iff.mp hx).1
  have h1 := h (A.length + i) x (by
    rw [List.append_assoc, List.getElem?_append_right (by omega), Nat.add_sub_cancel_left, List.getElem?_append_left hi]
    exact hx)
  rw [← Nat.add_assoc] at h1
  exact ⟨h1.1, h1.2.1, h1.2.2.1, h1.2.2.2.1, fun h0 => h1.2.2.2.2 (by omega)⟩
/-- one node copied, wherever it goes -/
theorem copy1 {ms : MS} {a0 b0 : Int32} {a b : Nat} (ha : a0.toInt = a) (hb : b0.toInt = b) (hda : a < 2100) (hdb : b < 2100) (hv : vp_nar .byte (ms.2.2.1 1 a) = ms.2.2.1 1 a ∧ vp_nar .byte (ms.2.2.1 2 a) = ms.2.2.1 2 a) : ∃ ms1, m_copy a0 b0 1 ms = some ms1 ∧ cpd ms ms1 a b 1 := by
  have L := nums
  have za : a0 + 0 = a0 := by simp
  have zb : b0 + 0 = b0 := by simp
  have i8 : vp_in b0 2100 := vp_of (by omega) (by omega)
  have i9 : vp_in a0 2100 := vp_of (by omega) (by omega)
  have t8 : b0.toNatClampNeg = b := by rw [tnn]; omega
  have t9 : a0.toNatClampNeg = a := by rw [tnn]; omega
  have gi : ∀ (f : Nat → Int32), ∀ j, upd f b (f a) j = if b ≤ j ∧ j < b + 1 then f (a + (j - b)) else f j := by
    intro f j
    by_cases e : j = b
    · subst e
      rw [upd_self, if_pos (by omega), Nat.sub_self]; rfl
    · rw [upd_ne e, if_neg (by omega)]
  have gl : ∀ (f : Nat → Int64), ∀ j, vp_updL f b (f a) j = if b ≤ j ∧ j < b + 1 then f (a + (j - b)) else f j := by
    intro f j
    by_cases e : j = b
    · subst e
      rw [updL_self, if_pos (by omega), Nat.sub_self]; rfl
    · rw [updL_ne e, if_neg (by omega)]
  refine ⟨(ms.1, ms.2.1, va_up (va_up ms.2.2.1 1 (upd (ms.2.2.1 1) b (ms.2.2.1 1 a))) 2 (upd (ms.2.2.1 2) b (ms.2.2.1 2 a)), va_up (va_up (va_up (va_up ms.2.2.2 0 (vp_updL (ms.2.2.2 0) b (ms.2.2.2 0 a))) 1 (vp_updL (ms.2.2.2 1) b (ms.2.2.2 1 a))) 2 (vp_updL (ms.2.2.2 2) b (ms.2.2.2 2 a))) 3 (vp_updL (ms.2.2.2 3) b (ms.2.2.2 3 a))), ?_, rfl, rfl, fun i h1 h2 => ?_, fun i h4 => ?_, fun i hi j => ?_, fun i hi j => ?_⟩
  · unfold m_copy
    rw [show (4096 : Nat) = 4094 + 1 + 1 from rfl, m_copy_l1_s, if_neg (show ¬ ((1 : Int32) ≤ 0) from by decide)]
    simp only [Option.bind_some, za, zb, rd_in i9, ix_in i8, t8, t9, hv.1, hv.2]
    rw [m_copy_l1_s, if_pos (show (1 : Int32) ≤ 0 + 1 from by decide)]
    rfl
  · show va_up (va_up _ _ _) _ _ i = _
    rw [va_up_ne _ _ h2, va_up_ne _ _ h1]
  · show va_up (va_up (va_up (va_up _ _ _) _ _) _ _) _ _ i = _
    rw [va_up_ne _ _ (by omega), va_up_ne _ _ (by omega), va_up_ne _ _ (by omega), va_up_ne _ _ (by omega)]
  · rcases hi with rfl | rfl
    · exact gi _ j
    · exact gi _ j
  · rcases (show i = 0 ∨ i = 1 ∨ i = 2 ∨ i = 3 by omega) with rfl | rfl | rfl | rfl
    · exact gl _ j
    · exact gl _ j
    · exact gl _ j
    · exact gl _ j
theorem mv_up {α : Type} {f g h : Nat → α} {a b k : Nat} (h1 : ∀ j, g j = if b ≤ j ∧ j < b + k then f (a + (j - b)) else f j) (h2 : ∀ j, h j = if b + k ≤ j ∧ j < b + k + 1 then g (a + k + (j - (b + k))) else g j) (hs : ¬ (b ≤ a + k ∧ a + k < b + k)) : ∀ j, h j = if b ≤ j ∧ j < b + (k + 1) then f (a + (j - b)) else f j := by
  intro j
  rw [h2 j]
  by_cases c : b + k ≤ j ∧ j < b + k + 1
  · have e : j = b + k := by omega
    subst e
    rw [if_pos c, Nat.sub_self, Nat.add_zero, h1 (a + k), if_neg hs, if_pos (by omega), show b + k - b = k by omega]
  · rw [if_neg c, h1 j]
    by_cases c2 : b ≤ j ∧ j < b + k
    · rw [if_pos c2, if_pos (by omega)]
    · rw [if_neg c2, if_neg (by omega)]
theorem mv_dn {α : Type} {f g h : Nat → α} {a b k : Nat} (h1 : ∀ j, g j = if b + 1 ≤ j ∧ j < b + 1 + k then f (a + 1 + (j - (b + 1))) else f j) (h2 : ∀ j, h j = if b ≤ j ∧ j < b + 1 then g (a + (j - b)) else g j) (hs : ¬ (b + 1 ≤ a ∧ a < b + 1 + k)) : ∀ j, h j = if b ≤ j ∧ j < b + (k + 1) then f (a + (j - b)) else f j := by
  intro j
  rw [h2 j]
  by_cases c : b ≤ j ∧ j < b + 1
  · have e : j = b := by omega
    subst e
    rw [if_pos c, Nat.sub_self, Nat.add_zero, h1 a, if_neg hs, if_pos (by omega)]
  · rw [if_neg c, h1 j]
    by_cases c2 : b + 1 ≤ j ∧ j < b + 1 + k
    · rw [if_pos c2, if_pos (by omega), show a + 1 + (j - (b + 1)) = a + (j - b) by omega]
    · rw [if_neg c2, if_neg (by omega)]
theorem cpd.up {ms mk m1 : MS} {a b k : Nat} (h : cpd ms mk a b k) (h1 : cpd mk m1 (a + k) (b + k) 1) (hs : ¬ (b ≤ a + k ∧ a + k < b + k)) : cpd ms m1 a b (k + 1) := by
  obtain ⟨c1, c2, c3, c4, c5, c6⟩ := h
  obtain ⟨d1, d2, d3, d4, d5, d6⟩ := h1
  exact ⟨d1.trans c1, d2.trans c2, fun i x y => (d3 i x y).trans (c3 i x y), fun i x => (d4 i x).trans (c4 i x), fun i hi => mv_up (c5 i hi) (d5 i hi) hs, fun i hi => mv_up (c6 i hi) (d6 i hi) hs⟩
theorem cpd.dn {ms mk m1 : MS} {a b k : Nat} (h : cpd ms mk (a + 1) (b + 1) k) (h1 : cpd mk m1 a b 1) (hs : ¬ (b + 1 ≤ a ∧ a < b + 1 + k)) : cpd ms m1 a b (k + 1) := by
  obtain ⟨c1, c2, c3, c4, c5, c6⟩ := h
  obtain ⟨d1, d2, d3, d4, d5, d6⟩ := h1
  exact ⟨d1.trans c1, d2.trans c2, fun i x y => (d3 i x y).trans (c3 i x y), fun i x => (d4 i x).trans (c4 i x), fun i hi => mv_dn (c5 i hi) (d5 i hi) hs, fun i hi => mv_dn (c6 i hi) (d6 i hi) hs⟩
/-- a row's end moved -/
theorem shift_ok {ms : MS} {x0 xe by9 : Int32} {a b n : Nat} (h0 : x0.toInt = a) (he : xe.toInt = (a + n : Nat)) (hb : by9.toInt = (b : Int) - a) (ha : a + n ≤ 2100) (hbn : b + n ≤ 2100) (hv : ∀ i, i < n → vp_nar .byte (ms.2.2.1 1 (a + i)) = ms.2.2.1 1 (a + i) ∧ vp_nar .byte (ms.2.2.1 2 (a + i)) = ms.2.2.1 2 (a + i)) : ∃ ms1, m_shift x0 xe by9 ms = some ms1 ∧ cpd ms ms1 a b n := by
  have L := nums
  have hd : (xe - x0).toInt = n := by rw [i32sub (by omega) (by omega)]; omega
  by_cases hz : by9 ≤ 0
  · have hz1 := i32le.mp hz
    rw [L.1] at hz1
    have key : ∀ (m fuel : Nat) (k : Int32) (mk : MS), k.toInt + m = n → 0 ≤ k.toInt → m < fuel → cpd ms mk a b k.toInt.toNat → ∃ e ms1, m_shift_l1 x0 xe by9 fuel (k, mk) = some (e, ms1) ∧ cpd ms ms1 a b n := by
      intro m
      induction m with
      | zero =>
        intro fuel k mk h1 h2 h3 hc
        obtain ⟨f, rfl⟩ : ∃ f, fuel = f + 1 := ⟨fuel - 1, by omega⟩
        refine ⟨k, mk, ?_, by rw [show n = k.toInt.toNat by omega]; exact hc⟩
        rw [m_shift_l1_s]
        simp only [Option.bind_some, show xe - x0 ≤ k from i32le.mpr (by omega), if_true]
      | succ m ih =>
        intro fuel k mk h1 h2 h3 hc
        obtain ⟨f, rfl⟩ : ∃ f, fuel = f + 1 := ⟨fuel - 1, by omega⟩
        have k1 : (k + 1).toInt = k.toInt + 1 := by rw [i32add (by omega) (by omega)]; omega
        have hk8 : ¬ xe - x0 ≤ k := fun e => by have := i32le.mp e; omega
        generalize hkk : k.toInt.toNat = kk at *
        have y1 : (x0 + k).toInt = (a + kk : Nat) := by rw [i32add (by omega) (by omega)]; omega
        have y2 : (x0 + k + by9).toInt = (b + kk : Nat) := by rw [i32add (by omega) (by omega), y1]; omega
        have hsrc : ¬ (b ≤ a + kk ∧ a + kk < b + kk) := by omega
        obtain ⟨v1, v2⟩ := hv kk (by omega)
        obtain ⟨m1, e1, e2⟩ := copy1 (ms := mk) y1 y2 (by omega) (by omega) (by rw [hc.2.2.2.2.1 1 (Or.inl rfl), hc.2.2.2.2.1 2 (Or.inr rfl), if_neg hsrc, if_neg hsrc]; exact ⟨v1, v2⟩)
        obtain ⟨e9, ms1, i1, i2⟩ := ih f (k + 1) m1 (by omega) (by omega) (by omega) (by
          rw [show (k + 1).toInt.toNat = kk + 1 by omega]
          exact hc.up e2 hsrc)
        refine ⟨e9, ms1, ?_, i2⟩
        rw [m_shift_l1_s]
        simp only [Option.bind_some, hk8, if_false, hz, if_true, e1]
        exact i1
    obtain ⟨e9, ms1, i1, i2⟩ := key n 4096 0 ms (by omega) (by decide) (by omega) (by
      rw [show (0 : Int32).toInt.toNat = 0 from rfl]; exact cpd.zero ms a b)
    exact ⟨ms1, by simp only [m_shift, i1, Option.bind_some], i2⟩
  · have hz1 : ¬ by9.toInt ≤ (0 : Int32).toInt := fun e => hz (i32le.mpr e)
    rw [L.1] at hz1
    have key : ∀ (m fuel : Nat) (k : Int32) (mk : MS), k.toInt + m = n → 0 ≤ k.toInt → m < fuel → cpd ms mk (a + m) (b + m) k.toInt.toNat → ∃ e ms1, m_shift_l1 x0 xe by9 fuel (k, mk) = some (e, ms1) ∧ cpd ms ms1 a b n := by
      intro m
      induction m with
      | zero =>
        intro fuel k mk h1 h2 h3 hc
        obtain ⟨f, rfl⟩ : ∃ f, fuel = f + 1 := ⟨fuel - 1, by omega⟩
        refine ⟨k, mk, ?_, by rw [show n = k.toInt.toNat by omega]; exact hc⟩
        rw [m_shift_l1_s]
        simp only [Option.bind_some, show xe - x0 ≤ k from i32le.mpr (by omega), if_true]
      | succ m ih =>
        intro fuel k mk h1 h2 h3 hc
        obtain ⟨f, rfl⟩ : ∃ f, fuel = f + 1 := ⟨fuel - 1, by omega⟩
        have k1 : (k + 1).toInt = k.toInt + 1 := by rw [i32add (by omega) (by omega)]; omega
        have hk8 : ¬ xe - x0 ≤ k := fun e => by have := i32le.mp e; omega
        generalize hkk : k.toInt.toNat = kk at *
        have y0 : (xe - 1).toInt = xe.toInt - 1 := by rw [i32sub (by omega) (by omega)]; omega
        have y1 : (xe - 1 - k).toInt = (a + m : Nat) := by rw [i32sub (by omega) (by omega), y0]; omega
        have y2 : (xe - 1 - k + by9).toInt = (b + m : Nat) := by rw [i32add (by omega) (by omega), y1]; omega
        have hsrc : ¬ (b + m + 1 ≤ a + m ∧ a + m < b + m + 1 + kk) := by omega
        obtain ⟨v1, v2⟩ := hv m (by omega)
        have hc : cpd ms mk (a + m + 1) (b + m + 1) kk := hc
        obtain ⟨m1, e1, e2⟩ := copy1 (ms := mk) y1 y2 (by omega) (by omega) (by rw [hc.2.2.2.2.1 1 (Or.inl rfl), hc.2.2.2.2.1 2 (Or.inr rfl), if_neg hsrc, if_neg hsrc]; exact ⟨v1, v2⟩)
        obtain ⟨e9, ms1, i1, i2⟩ := ih f (k + 1) m1 (by omega) (by omega) (by omega) (by
          rw [show (k + 1).toInt.toNat = kk + 1 by omega]
          exact hc.dn e2 hsrc)
        refine ⟨e9, ms1, ?_, i2⟩
        rw [m_shift_l1_s]
        simp only [Option.bind_some, hk8, if_false, hz, e1]
        exact i1
    obtain ⟨e9, ms1, i1, i2⟩ := key n 4096 0 ms (by omega) (by decide) (by omega) (by
      rw [show (0 : Int32).toInt.toNat = 0 from rfl]; exact cpd.zero ms (a + n) (b + n))
    exact ⟨ms1, by simp only [m_shift, i1, Option.bind_some], i2⟩
/-- a node gets another span -/
theorem rowIs.sp {ms : MS} {b i sp : Nat} {X Y : List Nd} {x : Nd} (h : rowIs ms b (X ++ x :: Y)) (hi : X.length = i) : rowIs (ms.1, ms.2.1, va_up ms.2.2.1 2 (upd (ms.2.2.1 2) (b + i) (Int32.ofNat sp)), ms.2.2.2) b (X ++ (x.1, sp, x.2.2) :: Y) := by
  intro j y hy
  by_cases e : j = i
  · subst e
    have hx := h j x (by rw [List.getElem?_append_right (by omega), show j - X.length = 0 by omega]; rfl)
    rw [List.getElem?_append_right (by omega), show j - X.length = 0 by omega] at hy
    cases hy
    refine ⟨hx.1, ?_, hx.2.2.1, hx.2.2.2.1, hx.2.2.2.2⟩
    show upd (ms.2.2.1 2) (b + j) (Int32.ofNat sp) (b + j) = _
    rw [upd_self]
  · have hx := h j y (by
      by_cases c : j < X.length
      · rw [List.getElem?_append_left c] at hy ⊢; exact hy
      · rw [List.getElem?_append_right (by omega)] at hy ⊢
        obtain ⟨n, hn⟩ : ∃ n, j - X.length = n + 1 := ⟨j - X.length - 1, by omega⟩
        rw [hn, List.getElem?_cons_succ] at hy ⊢
        exact hy)
    refine ⟨hx.1, ?_, hx.2.2.1, hx.2.2.2.1, hx.2.2.2.2⟩
    show upd (ms.2.2.1 2) (b + i) (Int32.ofNat sp) (b + j) = _
    rw [upd_ne (by omega)]; exact hx.2.1
theorem nar_s {x : Int32} (h0 : 0 ≤ x.toInt) (h1 : x.toInt ≤ 127) : x.toInt8.toInt32 = x ∧ vp_nar .byte x = x := by
  refine ⟨?_, nar_b (by omega) h1⟩
  apply i32eq
  rw [Int8.toInt_toInt32, Int32.toInt_toInt8]
  rw [Int.bmod_def]
  have : x.toInt % (2 ^ 8 : Nat) = x.toInt := Int.emod_eq_of_lt h0 (by omega)
  simp only [this]
  split <;> omega
