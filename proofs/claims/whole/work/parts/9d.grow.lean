/-! The text being written: its builder grows. -/
section GROW
variable {Zd : Nat → Nat} {K : KE} {st : CS} {q : Nat → Nat} {cw : Nat} {I : Nat → Int32} {A : Nat → Nat → Int32} {R : Nat → Option Nat} {Q : Nat → Nat → Option Nat}
theorem written_sbd (h : Fx st q cw I A R Q) : sbd st (q 7) (q 22) (I 12) (I 13) cw (A 6) := ⟨⟨(h.fl (i := 7) rfl).1, (h.fl (i := 7) rfl).2⟩, (h.fl (i := 22) rfl).1, (h.fl (i := 22) rfl).2⟩
/-- a new array for the builder's bytes -/
theorem Cx.bytes {st1 : CS} {n : Nat} {g : Nat → Int32} (h : Cx K st q cw I A R Q) (e1 : st1.1.1 = st.1.1 + 1) (e2 : st1.2.1 = st.2.1 ++ [st.1.1]) (e3 : ∀ b, b ≠ st.1.1 → b ≠ q 7 → st1.2.2 b = st.2.2 b) (e4 : st1.2.2 st.1.1 = .inl (2, n, g)) (e5 : st1.2.2 (q 7) = .inr (.inr (2, [.ref st.1.1, .int 0, .int (I 12), .int (I 13)]))) : Cx K st1 (va_up q 22 st.1.1) n I (va_up A 6 g) R Q ∧ le K st st1 := by
  obtain ⟨hF, hw, hz⟩ := h
  have hq7 := hF.fl (i := 7) rfl
  have hne7 : ∀ j, us j = true → j ≠ 7 → q j ≠ q 7 := fun j hj hji e => hji (hF.2.2.2 j 7 hj rfl e)
  have hmem : ∀ b, b ∈ st.2.1 → b ∈ st1.2.1 := fun b hb => by rw [e2]; simp [hb]
  have hold : ∀ b, b ∈ st.2.1 → b ≠ q 7 → b ∈ st1.2.1 ∧ st1.2.2 b = st.2.2 b := fun b hb h7 => ⟨hmem b hb, e3 b (by have := hw.1 b hb; omega) h7⟩
  have hkn : ∀ b, b ∈ K.1 → b ∉ st1.2.1 := by
    intro b hb h9
    obtain ⟨k1, k2⟩ := hw.2 b hb
    rw [e2] at h9
    simp at h9
    rcases h9 with h9 | h9
    · exact k2 h9
    · omega
  have hw1 : wf K st1 := by
    refine ⟨fun b hb => ?_, fun b hb => ⟨by have := (hw.2 b hb).1; omega, hkn b hb⟩⟩
    rw [e2] at hb
    simp at hb
    rcases hb with hb | hb
    · have := hw.1 b hb; omega
    · omega
  have hcA : ∀ (b : Nat) (x : CE), cA K st b = some x → b ≠ q 7 → cA K st1 b = some x := by
    intro b x hb h7
    rcases cA_or hb with ⟨g1, g2⟩ | ⟨g1, g2⟩
    · obtain ⟨h1, h2⟩ := hold b g1 h7
      rw [cA_w h1, h2, g2]
    · rw [cA_k hw1 g1, g2]
  have hback : ∀ (b : Nat) (x : CE), cA K st1 b = some x → b = st.1.1 ∨ b = q 7 ∨ cA K st b = some x := by
    intro b x hb
    by_cases h7 : b = q 7
    · exact Or.inr (Or.inl h7)
    · rcases cA_or hb with ⟨g1, g2⟩ | ⟨g1, g2⟩
      · rw [e2] at g1
        simp at g1
        rcases g1 with g1 | g1
        · exact Or.inr (Or.inr (by rw [cA_w g1, ← (hold b g1 h7).2, g2]))
        · exact Or.inl g1
      · exact Or.inr (Or.inr (by rw [cA_k hw g1, g2]))
  have hc7 : cA K st (q 7) = some (.inr (.inr (2, [.ref (q 22), .int 0, .int (I 12), .int (I 13)]))) := by rw [cA_w hq7.1, hq7.2]
  have hle : le K st st1 := by
    refine ⟨fun b c fs hc hb => hcA b _ hb (fun e9 => ?_), fun b v fs hb => ?_⟩
    · subst e9
      rw [hc7] at hb
      cases hb
      rcases hc with hc | hc <;> cases hc
    · obtain ⟨-, -, -, n9, g9, g4, -⟩ := hz b v fs hb
      rw [g4]
      exact hcA v _ g4 (fun e9 => by subst e9; rw [hc7] at g4; cases g4)
  have hL : Lx (va_up q 22 st.1.1) n I (va_up A 6 g) R Q = ((Lx q cw I A R Q).set 7 (q 7, .inr (.inr (2, [.ref st.1.1, .int 0, .int (I 12), .int (I 13)])))).set 22 (st.1.1, .inl (2, n, g)) := rfl
  have hq1 : ∀ j, j ≠ 22 → va_up q 22 st.1.1 j = q j := fun j hj => va_up_ne _ _ hj
  refine ⟨⟨⟨?_, fun j hj => ?_, fun j hj => ?_, fun i j hi hj e => ?_⟩, hw1, ?_⟩, hle⟩
  · rw [hL]
    intro p hp
    obtain ⟨k, hk⟩ := List.mem_iff_getElem?.mp hp
    rw [List.getElem?_set] at hk
    by_cases h22 : 22 = k
    · subst h22
      rw [if_pos rfl, if_pos (by rw [List.length_set]; show 22 < 26; decide)] at hk
      cases hk
      exact ⟨by rw [e2]; simp, e4⟩
    · rw [if_neg h22, List.getElem?_set] at hk
      by_cases h7 : 7 = k
      · subst h7
        rw [if_pos rfl, if_pos (by show 7 < 26; decide)] at hk
        cases hk
        exact ⟨hmem _ hq7.1, e5⟩
      · rw [if_neg h7] at hk
        obtain ⟨hk26, hpk⟩ := Lx_at hk
        obtain ⟨h1, h2⟩ := hF.1 _ (List.mem_of_getElem? hk)
        obtain ⟨h3, h4⟩ := hold _ h1 (by rw [hpk]; exact hne7 k (us_f hk26) (fun e => h7 e.symm))
        exact ⟨h3, h4.trans h2⟩
  · obtain ⟨a1, ⟨a2, a3⟩, ⟨a4, a5⟩, a6, a7⟩ := hF.2.1 j hj
    obtain ⟨u1, u2, u3⟩ := us_p hj
    obtain ⟨b1, b2⟩ := hold _ a2 (hne7 _ u1 (by omega))
    obtain ⟨b3, b4⟩ := hold _ a4 (hne7 _ u2 (by omega))
    obtain ⟨b5, b6⟩ := hold _ a6 (hne7 _ u3 (by omega))
    unfold pgx ob1 ar1q ar1i
    rw [hq1 _ (by omega), hq1 _ (by omega), hq1 _ (by omega), va_up_ne _ _ (show 10 + j ≠ 6 by omega)]
    exact ⟨a1, ⟨b1, b2.trans a3⟩, ⟨b3, b4.trans a5⟩, b5, b6.trans a7⟩
  · obtain ⟨a1, a2, a3⟩ := hF.2.2.1 j hj
    obtain ⟨b1, b2⟩ := hold _ a2 (hne7 _ (us_s hj) (by omega))
    unfold slx ob1
    rw [hq1 _ (by omega)]
    exact ⟨a1, b1, b2.trans a3⟩
  · by_cases hi2 : i = 22
    · by_cases hj2 : j = 22
      · rw [hi2, hj2]
      · rw [hi2, va_up_self, hq1 j hj2] at e
        have := hw.1 _ (hF.n11 hj).1
        omega
    · by_cases hj2 : j = 22
      · rw [hj2, va_up_self, hq1 i hi2] at e
        have := hw.1 _ (hF.n11 hi).1
        omega
      · rw [hq1 i hi2, hq1 j hj2] at e
        exact hF.2.2.2 i j hi hj e
  · intro a v fs ha
    rcases hback a _ ha with e | e | e
    · rw [e, cA_w (by rw [e2]; simp), e4] at ha
      cases ha
    · rw [e, cA_w (hmem _ hq7.1), e5] at ha
      cases ha
    · obtain ⟨g1, g2, g3, n9, g9, g4, g5⟩ := hz a v fs e
      have hv : v < st.1.1 := by
        rcases cA_or g4 with ⟨h1, -⟩ | ⟨h1, -⟩
        · exact hw.1 v h1
        · exact (hw.2 v h1).1
      rw [va_up_self, hq1 23 (by decide), hq1 25 (by decide)]
      exact ⟨by omega, g2, g3, n9, g9, hcA v _ g4 (fun e9 => by subst e9; rw [hc7] at g4; cases g4), g5⟩
theorem grow (h : Cx K st q cw I A R Q) (hfit : ∀ i, fits .byte (.int (A 6 i)) = true) {k : Int32} (k0 : (cw : Int) < k.toInt) (k1 : k.toInt ≤ 1200) (z6 : st.1.1 + 2402 ≤ Zd 6 + cw) (z7 : st.1.2 + 4804 ≤ Zd 7 + 2 * cw) : ∃ (st1 : CS) (cw1 : Nat) (g : Nat → Int32), c_AbstractStringBuilder_ensureCapacityInternal Zd K (q 7) k st = some st1 ∧ Cx K st1 (va_up q 22 st.1.1) cw1 I (va_up A 6 g) R Q ∧ le K st st1 ∧ (∀ i, i < cw → g i = A 6 i) ∧ (∀ i, fits .byte (.int (g i)) = true) ∧ k.toInt ≤ cw1 ∧ 2 * cw + 2 ≤ cw1 ∧ cw1 ≤ 2402 ∧ st1.1 = (st.1.1 + 1, st.1.2 + cw1) := by
  have L := nums
  obtain ⟨hF, hw, hz⟩ := h
  have hs := written_sbd hF
  have hcw : (Int32.ofNat cw).toInt = cw := ofNat_i (by omega)
  have hgt : ¬ k - Int32.ofNat cw ≤ 0 := fun e => by have := i32le.mp e; rw [i32sub (by omega) (by omega)] at this; omega
  -- the new size
  obtain ⟨y, hy, hyi⟩ : ∃ y : Int32, (if k - Int32.ofNat cw < Int32.ofNat cw + 2 then Int32.ofNat cw + 2 else k - Int32.ofNat cw) = y ∧ y.toInt = max (k.toInt - cw) (cw + 2) := by
    refine ⟨_, rfl, ?_⟩
    have e1 : (k - Int32.ofNat cw).toInt = k.toInt - cw := by rw [i32sub (by omega) (by omega)]; omega
    have e2 : (Int32.ofNat cw + 2).toInt = cw + 2 := by rw [i32add (by omega) (by omega)]; omega
    by_cases c : k - Int32.ofNat cw < Int32.ofNat cw + 2
    · rw [if_pos c, e2]; have := i32lt.mp c; omega
    · rw [if_neg c, e1]
      have : ¬ (k - Int32.ofNat cw).toInt < (Int32.ofNat cw + 2).toInt := fun e => c (i32lt.mpr e)
      omega
  obtain ⟨nc, hnc⟩ : ∃ nc : Int32, Int32.ofNat cw + y = nc := ⟨_, rfl⟩
  obtain ⟨cw1, hcw1⟩ : ∃ n : Nat, nc.toInt = n := ⟨nc.toInt.toNat, by rw [← hnc, i32add (by omega) (by omega)]; omega⟩
  have hn1 : (cw1 : Int) = max k.toInt (2 * cw + 2) := by rw [← hcw1, ← hnc, i32add (by omega) (by omega)]; omega
  have ht : nc.toNatClampNeg = cw1 := by rw [tnn]; omega
  have hp0 : ¬ nc ≤ 0 := fun e => by have := i32le.mp e; omega
  have hbig : ¬ (2147483639 : Int32) < nc := fun e => by have := i32lt.mp e; rw [show (2147483639 : Int32).toInt = 2147483639 from by decide] at this; omega
  have hmax : ¬ nc = 2147483647 := fun e => by rw [e, show (2147483647 : Int32).toInt = 2147483647 from by decide] at hcw1; omega
  have hne : ¬ nc = Int32.ofNat cw := fun e => by rw [e, hcw] at hcw1; omega
  have hnB : nBc Zd st nc = some (nB st cw1) := by
    unfold nBc
    rw [if_neg (fun e => by
      rcases e with e | e
      · have := i32lt.mp e; omega
      · omega), ht, if_pos ⟨by omega, by omega⟩]
  have hfr := (fits_cell hw).1
  have hq22 : q 22 ≠ st.1.1 := fun e => hfr (by rw [← e]; exact (hF.fl (i := 22) rfl).1)
  have hq7 : q 7 ≠ st.1.1 := fun e => hfr (by rw [← e]; exact (hF.fl (i := 7) rfl).1)
  have h22 : ar1i (nB st cw1) (q 22) 2 cw (A 6) := ⟨by show q 22 ∈ st.2.1 ++ [st.1.1]; exact List.mem_append_left _ hs.2.1, by show va_up st.2.2 st.1.1 _ (q 22) = _; rw [va_up_ne _ _ hq22]; exact hs.2.2⟩
  have hmin : (if nc < Int32.ofNat cw then nc else Int32.ofNat cw) = Int32.ofNat cw := if_neg (fun e => by have := i32lt.mp e; omega)
  have hcp : cpB K (nB st cw1) (q 22) 0 st.1.1 0 (Int32.ofNat cw) = some (uC (nB st cw1) st.1.1 (.inl (2, cw1, va_cpy (A 6) (fun _ => 0) 0 0 cw))) := by
    have hc1 : cA K (nB st cw1) (q 22) = some (.inl (2, cw, A 6)) := by rw [cA_w h22.1, h22.2]
    have hm1 : st.1.1 ∈ (nB st cw1).2.1 := by show st.1.1 ∈ st.2.1 ++ [st.1.1]; simp
    have hm2 : (nB st cw1).2.2 st.1.1 = .inl (2, cw1, fun _ => 0) := va_up_self _ _ _
    have t0 : (0 : Int32).toNatClampNeg = 0 := rfl
    have tc : (Int32.ofNat cw).toNatClampNeg = cw := by rw [tnn]; omega
    unfold cpB
    rw [hc1, Option.bind_some]
    dsimp only
    rw [if_pos hm1, hm2]
    dsimp only
    rw [t0, tc, if_pos ⟨rfl, rfl, by decide, by decide, fun e => by have := i32lt.mp e; omega, by omega, by omega, List.all_eq_true.mpr (fun i _ => hfit _)⟩]
  have hob7 : ob1 (uC (nB st cw1) st.1.1 (.inl (2, cw1, va_cpy (A 6) (fun _ => 0) 0 0 cw))) (q 7) 2 [.ref (q 22), .int 0, .int (I 12), .int (I 13)] := by
    refine ⟨by show q 7 ∈ st.2.1 ++ [st.1.1]; exact List.mem_append_left _ hs.1.1, ?_⟩
    rw [uC_ne hq7]
    show va_up st.2.2 st.1.1 _ (q 7) = _
    rw [va_up_ne _ _ hq7]
    exact hs.1.2
  have hsF := sF_ob (k := 0) (v := .ref st.1.1) hob7 (Nat.le_of_ble_eq_true rfl)
  generalize hst1 : uC (uC (nB st cw1) st.1.1 (.inl (2, cw1, va_cpy (A 6) (fun _ => 0) 0 0 cw))) (q 7) (.inr (.inr (2, [Value.ref (q 22), .int 0, .int (I 12), .int (I 13)].set 0 (.ref st.1.1)))) = st1 at hsF
  have f1 : st1.1 = (st.1.1 + 1, st.1.2 + cw1) := by rw [← hst1]; rfl
  have f2 : st1.2.1 = st.2.1 ++ [st.1.1] := by rw [← hst1]; rfl
  have f3 : ∀ b, b ≠ st.1.1 → b ≠ q 7 → st1.2.2 b = st.2.2 b := fun b h1 h2 => by
    rw [← hst1, uC_ne h2, uC_ne h1]
    exact va_up_ne _ _ h1
  have f4 : st1.2.2 st.1.1 = .inl (2, cw1, va_cpy (A 6) (fun _ => 0) 0 0 cw) := by rw [← hst1, uC_ne (fun e => hq7 e.symm), uC_self]
  have f5 : st1.2.2 (q 7) = .inr (.inr (2, [.ref st.1.1, .int 0, .int (I 12), .int (I 13)])) := by rw [← hst1, uC_self]; rfl
  obtain ⟨g1, g2⟩ := Cx.bytes ⟨hF, hw, hz⟩ (by rw [f1]) f2 f3 f4 f5
  refine ⟨st1, cw1, _, ?_, g1, g2, fun i hi => ?_, fun i => ?_, by omega, by omega, by omega, f1⟩
  · simp only [c_AbstractStringBuilder_ensureCapacityInternal, gQ_ob (k := 0) (r := some (q 22)) hs.1 rfl, gI_ob (k := 1) (v := 0) hs.1 rfl, Option.bind_some, lA_ar hs.2, shr0, hgt, if_false, isO_ob hs.1, c_AbstractStringBuilder_newCapacity, shl0, c_ArraysSupport_newLength, hy, hnc, hp0, hbig, hmax, c_Arrays_copyOf, hne, hnB, lA_ar h22, hmin, hcp, va_rf, hsF]
  · show (if 0 ≤ i ∧ i < 0 + cw then A 6 (0 + (i - 0)) else 0) = _
    rw [if_pos ⟨by omega, by omega⟩]
    congr 1
    omega
  · show fits .byte (.int (if 0 ≤ i ∧ i < 0 + cw then A 6 (0 + (i - 0)) else 0)) = true
    by_cases c : 0 ≤ i ∧ i < 0 + cw
    · rw [if_pos c]; exact hfit _
    · rw [if_neg c]; decide
end GROW
