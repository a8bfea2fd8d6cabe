/-! Packed texts: a letter by its place. -/
theorem lo_get : ∀ (cs : List Nat) (k : Nat), (∀ c ∈ cs, c < 256) → k < cs.length → lo cs / 256 ^ k % 256 = cs.getD k 0 := by
  intro cs
  induction cs with
  | nil => intro k _ h; exact absurd h (Nat.not_lt_zero k)
  | cons c cs ih =>
    intro k hc hk
    have h0 : c < 256 := hc c List.mem_cons_self
    cases k with
    | zero =>
      show (c + 256 * lo cs) / 256 ^ 0 % 256 = c
      rw [Nat.pow_zero, Nat.div_one]
      omega
    | succ k =>
      show (c + 256 * lo cs) / 256 ^ (k + 1) % 256 = cs.getD k 0
      rw [Nat.pow_succ, Nat.mul_comm (256 ^ k) 256, ← Nat.div_div_eq_div_mul, show (c + 256 * lo cs) / 256 = lo cs by omega]
      exact ih k (fun x hx => hc x (List.mem_cons_of_mem _ hx)) (by have : k + 1 < cs.length + 1 := hk; omega)
theorem n64_shr {x y : Int64} {k : Nat} (h : n64 x < 9223372036854775808) (e : y.toBitVec = x.toBitVec.sshiftRight k) : n64 y = n64 x / 2 ^ k := by
  unfold n64 at *
  rw [e, BitVec.sshiftRight_eq_of_msb_false (by rw [BitVec.msb_eq_decide]; simpa using h), BitVec.toNat_ushiftRight, Nat.shiftRight_eq_div_pow]
theorem low8 {y : Int64} : (y &&& 255).toInt32 = Int32.ofNat (n64 y % 256) := by
  have h1 : n64 (y &&& 255) = n64 y % 256 := by
    rw [n64_and]
    show n64 y &&& 255 = _
    exact Nat.and_two_pow_sub_one_eq_mod (n64 y) 8
  apply i32eq
  rw [ofNat_i (by omega), Int64.toInt_toInt32]
  have h2 : (y &&& 255).toInt = (n64 y % 256 : Nat) := by
    rw [← h1]
    unfold n64 at h1 ⊢
    show (y &&& 255).toBitVec.toInt = _
    rw [BitVec.toInt_eq_toNat_cond, if_pos (by omega)]
  rw [h2]
  apply Int.bmod_eq_of_le
  · omega
  · omega
theorem shr_8 {x : Int64} (h : n64 x < 9223372036854775808) {n : Int32} {k : Nat} (hn : n.toInt = k) (hk : k < 7) : ((x >>> ((8 * n).toInt64 &&& 63)) &&& 255).toInt32 = Int32.ofNat (n64 x / 256 ^ k % 256) := by
  rw [low8]
  rcases (show k = 0 ∨ k = 1 ∨ k = 2 ∨ k = 3 ∨ k = 4 ∨ k = 5 ∨ k = 6 by omega) with rfl | rfl | rfl | rfl | rfl | rfl | rfl
  · have e : n = 0 := i32eq (by rw [hn]; decide)
    subst e
    rw [n64_shr (k := 0) h rfl]
  · have e : n = 1 := i32eq (by rw [hn]; decide)
    subst e
    rw [n64_shr (k := 8) h rfl]
  · have e : n = 2 := i32eq (by rw [hn]; decide)
    subst e
    rw [n64_shr (k := 16) h rfl]
  · have e : n = 3 := i32eq (by rw [hn]; decide)
    subst e
    rw [n64_shr (k := 24) h rfl]
  · have e : n = 4 := i32eq (by rw [hn]; decide)
    subst e
    rw [n64_shr (k := 32) h rfl]
  · have e : n = 5 := i32eq (by rw [hn]; decide)
    subst e
    rw [n64_shr (k := 40) h rfl]
  · have e : n = 6 := i32eq (by rw [hn]; decide)
    subst e
    rw [n64_shr (k := 48) h rfl]
theorem enc_chr {cs : List Int32} (h : okC cs) (hl : cs.length ≤ 10) {i : Int32} {j : Nat} (hi : i.toInt = j) (hj : j < cs.length) : m_charOf (encU cs).1 (encU cs).2 i = some (cs.getD j 0) := by
  have N := nums
  obtain ⟨h1, h2⟩ := enc_num cs.length cs rfl hl h
  have hch : (chN cs).length = cs.length := List.length_map _
  have hget : ∀ m, m < cs.length → Int32.ofNat ((chN cs).getD m 0) = cs.getD m 0 := by
    intro m hm
    have hmem : cs[m] ∈ cs := List.getElem_mem hm
    have e1 : (chN cs).getD m 0 = (cs[m]).toInt.toNat := by
      unfold chN
      rw [List.getD_eq_getElem?_getD, List.getElem?_map, List.getElem?_eq_getElem hm]
      rfl
    have e2 : cs.getD m 0 = cs[m] := by rw [List.getD_eq_getElem?_getD, List.getElem?_eq_getElem hm]; rfl
    obtain ⟨c0, c1⟩ := h _ hmem
    rw [e1, e2]
    apply i32eq
    rw [ofNat_i (by omega)]
    omega
  have p7 : (256 : Nat) ^ 7 = 72057594037927936 := by decide
  by_cases c7 : j < 7
  · have hlt : ¬ (7 : Int32) ≤ i := fun e => by have := i32le.mp e; omega
    have hlo : lo ((chN cs).take 7) < 72057594037927936 := by
      have := lo_lt (cs := (chN cs).take 7) (fun x hx => h.n x (List.mem_of_mem_take hx))
      have h9 : 256 ^ ((chN cs).take 7).length ≤ 256 ^ 7 := Nat.pow_le_pow_right (by decide) (by rw [List.length_take]; omega)
      omega
    have hg := lo_get ((chN cs).take 7) j (fun x hx => h.n x (List.mem_of_mem_take hx)) (by rw [List.length_take]; omega)
    have hg2 : ((chN cs).take 7).getD j 0 = (chN cs).getD j 0 := by rw [List.getD_eq_getElem?_getD, List.getD_eq_getElem?_getD, List.getElem?_take, if_pos c7]
    have hd : n64 (encU cs).1 / 256 ^ j % 256 = lo ((chN cs).take 7) / 256 ^ j % 256 := by
      rw [h1]
      clear hg hg2 hget hlt h1 h2 hlo
      generalize lo ((chN cs).take 7) = a
      rcases (show j = 0 ∨ j = 1 ∨ j = 2 ∨ j = 3 ∨ j = 4 ∨ j = 5 ∨ j = 6 by omega) with rfl | rfl | rfl | rfl | rfl | rfl | rfl
      · rw [show (256 : Nat) ^ 0 = 1 from by decide]; omega
      · rw [show (256 : Nat) ^ 1 = 256 from by decide]; omega
      · rw [show (256 : Nat) ^ 2 = 65536 from by decide]; omega
      · rw [show (256 : Nat) ^ 3 = 16777216 from by decide]; omega
      · rw [show (256 : Nat) ^ 4 = 4294967296 from by decide]; omega
      · rw [show (256 : Nat) ^ 5 = 1099511627776 from by decide]; omega
      · rw [show (256 : Nat) ^ 6 = 281474976710656 from by decide]; omega
    have hs := shr_8 (x := (encU cs).1) (by rw [h1]; omega) hi c7
    rw [hd, hg, hg2, hget j hj] at hs
    simp only [m_charOf, hlt, if_false, Option.bind_some, hs]
  · have hle : (7 : Int32) ≤ i := i32le.mpr (by omega)
    have hi7 : (i - 7).toInt = (j - 7 : Nat) := by rw [i32sub (by omega) (by omega)]; omega
    have hlo : lo ((chN cs).drop 7) < 16777216 := by
      have := lo_lt (cs := (chN cs).drop 7) (fun x hx => h.n x (List.mem_of_mem_drop hx))
      have h9 : 256 ^ ((chN cs).drop 7).length ≤ 256 ^ 3 := Nat.pow_le_pow_right (by decide) (by rw [List.length_drop]; omega)
      have h8 : (256 : Nat) ^ 3 = 16777216 := by decide
      omega
    have hg := lo_get ((chN cs).drop 7) (j - 7) (fun x hx => h.n x (List.mem_of_mem_drop hx)) (by rw [List.length_drop]; omega)
    have hg2 : ((chN cs).drop 7).getD (j - 7) 0 = (chN cs).getD j 0 := by rw [List.getD_eq_getElem?_getD, List.getD_eq_getElem?_getD, List.getElem?_drop, show 7 + (j - 7) = j by omega]
    have hs := shr_8 (x := (encU cs).2) (by rw [h2]; omega) hi7 (by omega)
    rw [h2, hg, hg2, hget j hj] at hs
    simp only [m_charOf, hle, if_true, Option.bind_some, hs]
