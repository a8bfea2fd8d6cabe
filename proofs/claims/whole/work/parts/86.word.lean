/-! The word that is being read: class's builder, model's packed text. -/
theorem enc_len {cs : List Int32} (h : okC cs) (hl : cs.length ≤ 10) : m_lengthOf (encU cs).1 = some (Int32.ofNat cs.length) := by
  obtain ⟨h1, -⟩ := enc_num cs.length cs rfl hl h
  have hlo7 : lo ((chN cs).take 7) < 72057594037927936 := by
    have := lo_lt (cs := (chN cs).take 7) (fun x hx => h.n x (List.mem_of_mem_take hx))
    have h9 : 256 ^ ((chN cs).take 7).length ≤ 256 ^ 7 := Nat.pow_le_pow_right (by decide) (by rw [List.length_take]; omega)
    have h8 : (256 : Nat) ^ 7 = 72057594037927936 := by decide
    omega
  have e : ((encU cs).1 >>> ((56 : Int32).toInt64 &&& 63)).toInt32 = Int32.ofNat cs.length := by
    apply i32eq
    rw [shr_56 (by rw [h1]; omega), h1, ofNat_i (by omega)]
    have : (lo ((chN cs).take 7) + cs.length * 72057594037927936) / 72057594037927936 = cs.length := by omega
    rw [this]
  simp only [m_lengthOf, Option.bind_some, e]
theorem m_add_eq (c : Int32) (ms : MS) : m_add c ms = some (ms.1, vp_updL (vp_updL ms.2.1 1 (addE (ms.2.1 0, ms.2.1 1) c).2) 0 (addE (ms.2.1 0, ms.2.1 1) c).1, ms.2.2.1, ms.2.2.2) := by
  unfold addE
  dsimp only
  simp only [m_add, m_lengthOf, Option.bind_some]
  by_cases e : (7 : Int32) ≤ (ms.2.1 0 >>> ((56 : Int32).toInt64 &&& 63)).toInt32
  · simp only [e, if_true, Option.bind_some]
  · simp only [e, if_false, Option.bind_some]
theorem u8_i2b {c : Int32} (h0 : 0 ≤ c.toInt) (h1 : c.toInt < 256) : u8 c.toInt8.toInt32 = c := by
  apply i32eq
  obtain ⟨a1, a2⟩ := u8_r c.toInt8.toInt32
  obtain ⟨b1, b2⟩ := i2b_r c
  have hb : c.toInt8.toInt32.toInt = c.toInt.bmod 256 := by rw [Int8.toInt_toInt32, Int32.toInt_toInt8]
  have hu : (u8 c.toInt8.toInt32).toBitVec.toNat = c.toInt8.toInt32.toBitVec.toNat &&& 255 := by
    unfold u8
    rw [Int32.toBitVec_and, BitVec.toNat_and]
    rfl
  have hm : c.toInt8.toInt32.toBitVec.toNat &&& 255 = c.toInt8.toInt32.toBitVec.toNat % 256 := Nat.and_two_pow_sub_one_eq_mod _ 8
  have hbt : c.toInt8.toInt32.toInt = c.toInt8.toInt32.toBitVec.toInt := rfl
  rw [BitVec.toInt_eq_toNat_cond] at hbt
  have hlt := c.toInt8.toInt32.toBitVec.isLt
  rw [int_of (hu.trans hm) (by omega)]
  have hbm : c.toInt.bmod 256 = if c.toInt < 128 then c.toInt else c.toInt - 256 := by
    rw [Int.bmod_def]
    have : c.toInt % (256 : Nat) = c.toInt := Int.emod_eq_of_lt h0 (by omega)
    rw [this]
    split <;> split <;> omega
  rw [hb, hbm] at hbt
  split at hbt <;> split at hbt <;> omega
section WORD
variable {Zd : Nat → Nat} {K : KE} {st : CS} {ms : MS} {q : Nat → Nat} {cw : Nat} {I : Nat → Int32} {A : Nat → Nat → Int32} {R : Nat → Option Nat} {Q : Nat → Nat → Option Nat}
theorem word_sbd (h : Fx st q cw I A R Q) : sbd st (q 9) (q 23) (I 14) (I 15) 16 (A 7) := ⟨⟨(h.fl (i := 9) rfl).1, (h.fl (i := 9) rfl).2⟩, (h.fl (i := 23) rfl).1, (h.fl (i := 23) rfl).2⟩
theorem word_set0 (h : Cx K st q cw I A R Q) (h0 : 0 ≤ (I 15).toInt) : ∃ m1 st1, c_StringBuilder_setLength Zd K (q 9) 0 st = some st1 ∧ Cx K st1 q cw (upd (upd I 14 m1) 15 0) A R Q ∧ stp K st st1 := by
  obtain ⟨hF, hw, hz⟩ := h
  obtain ⟨m1, e1⟩ := sb_set0 (Zd := Zd) (K := K) (word_sbd hF) (by decide) h0
  refine ⟨m1, _, e1, ⟨?_, hw, nb_Rz hz (hF.fl (i := 9) rfl).1 (hF.fl (i := 9) rfl).2 rfl rfl⟩, nb_le hz (hF.fl (i := 9) rfl).1 (hF.fl (i := 9) rfl).2 rfl, rfl⟩
  exact hF.put (i := 9) rfl rfl (fun j hj => ⟨rfl, rfl, rfl⟩) (fun j hj => ⟨rfl, rfl, (upd_ne (by omega)).trans (upd_ne (by omega)), (upd_ne (by omega)).trans (upd_ne (by omega)), (upd_ne (by omega)).trans (upd_ne (by omega)), (upd_ne (by omega)).trans (upd_ne (by omega))⟩)
/-- the bytes of the three builders belong to no text -/
theorem by_le {b : Nat} {e : CE} (hz : Rz K st q) (hb : b = q 22 ∨ b = q 23 ∨ b = q 25) (hm : b ∈ st.2.1) {t n : Nat} {g : Nat → Int32} (h0 : st.2.2 b = .inl (t, n, g)) : le K st (uC st b e) := by
  have hc : cA K st b = some (.inl (t, n, g)) := by rw [cA_w hm, h0]
  refine le.put hc (fun c fs he => by cases he) (fun a v fs ha he => ?_)
  obtain ⟨h1, h2, h3, -⟩ := hz a v fs ha
  rcases hb with e9 | e9 | e9 <;> rw [e9] at he
  · exact h1 he
  · exact h2 he
  · exact h3 he
theorem by_Rz {b : Nat} {e : CE} (hz : Rz K st q) (hb : b = q 22 ∨ b = q 23 ∨ b = q 25) (hm : b ∈ st.2.1) (he : ∀ fs, e ≠ .inr (.inr (12, fs))) : Rz K (uC st b e) q := by
  intro a v fs ha
  rw [cA_uC hm] at ha
  by_cases c : a = b
  · rw [if_pos c] at ha
    cases ha
    exact absurd rfl (he _)
  · rw [if_neg c] at ha
    obtain ⟨g1, g2, g3, n, g, g4, g5⟩ := hz a v fs ha
    refine ⟨g1, g2, g3, n, g, ?_, g5⟩
    rw [cA_uC hm, if_neg (fun e9 => by
      subst e9
      rcases hb with e8 | e8 | e8
      · exact g1 e8
      · exact g2 e8
      · exact g3 e8)]
    exact g4
theorem word_app (h : Cx K st q cw I A R Q) (h0 : 0 ≤ (I 15).toInt) (h1 : (I 15).toInt < 16) {c : Int32} (c1 : c.toInt ≤ 255) : ∃ st1, c_StringBuilder_append_C Zd K (q 9) c st = some (some (q 9), st1) ∧ Cx K st1 q cw (upd I 15 (I 15 + 1)) (va_up A 7 (upd (A 7) (I 15).toNatClampNeg c.toInt8.toInt32)) R Q ∧ stp K st st1 := by
  obtain ⟨hF, hw, hz⟩ := h
  have e1 := sb_app (Zd := Zd) (K := K) (word_sbd hF) (by decide) h0 (by omega) c1
  have hF1 : Fx (uC st (q 9) (.inr (.inr (2, [.ref (q 23), .int 0, .int (I 14), .int (I 15 + 1)])))) q cw (upd I 15 (I 15 + 1)) A R Q := hF.put (i := 9) rfl rfl (fun j hj => ⟨rfl, rfl, rfl⟩) (fun j hj => ⟨rfl, rfl, upd_ne (by omega), upd_ne (by omega), upd_ne (by omega), upd_ne (by omega)⟩)
  have l1 := nb_le (e := .inr (.inr (2, [.ref (q 23), .int 0, .int (I 14), .int (I 15 + 1)]))) hz (hF.fl (i := 9) rfl).1 (hF.fl (i := 9) rfl).2 rfl
  have z1 := nb_Rz (e := .inr (.inr (2, [.ref (q 23), .int 0, .int (I 14), .int (I 15 + 1)]))) hz (hF.fl (i := 9) rfl).1 (hF.fl (i := 9) rfl).2 rfl rfl
  refine ⟨_, e1, ⟨?_, hw, by_Rz z1 (Or.inr (Or.inl rfl)) (hF1.fl (i := 23) rfl).1 (fun fs e => by cases e)⟩, l1.tr (by_le z1 (Or.inr (Or.inl rfl)) (hF1.fl (i := 23) rfl).1 (hF1.fl (i := 23) rfl).2), rfl⟩
  exact hF1.put (i := 23) rfl rfl (fun j hj => ⟨rfl, rfl, va_up_ne _ _ (by omega)⟩) (fun j hj => ⟨rfl, rfl, rfl, rfl, rfl, rfl⟩)
/-- new cells: what was there stays -/
theorem Cx.new {st1 : CS} (h : Cx K st q cw I A R Q) {a v n : Nat} {g : Nat → Int32} (ha : a = st.1.1) (hv : v = st.1.1 + 1) (e1 : st1.1.1 = st.1.1 + 2) (e2 : st1.2.1 = st.2.1 ++ [a] ++ [v]) (e3 : ∀ b, b < st.1.1 → st1.2.2 b = st.2.2 b) (e4 : st1.2.2 a = .inr (.inr (12, [.ref v, .int 0, .int 0, .int 0]))) (e5 : st1.2.2 v = .inl (2, n, g)) (hn : n ≤ 65536) (hg : ∀ i, i < n → fits .byte (.int (g i)) = true) : Cx K st1 q cw I A R Q ∧ le K st st1 ∧ strOf K st1 a = some ((List.range n).map g) := by
  obtain ⟨hF, hw, hz⟩ := h
  have hmem : ∀ b, b ∈ st.2.1 → b ∈ st1.2.1 ∧ st1.2.2 b = st.2.2 b := fun b hb => ⟨by rw [e2]; simp [hb], e3 b (hw.1 b hb)⟩
  have hkn : ∀ b, b ∈ K.1 → b ∉ st1.2.1 := by
    intro b hb h9
    obtain ⟨k1, k2⟩ := hw.2 b hb
    rw [e2] at h9
    simp at h9
    rcases h9 with h9 | h9 | h9
    · exact k2 h9
    · omega
    · omega
  have hcA := le.new hw hmem hkn
  have hqm : ∀ i, us i = true → q i ∈ st.2.1 := by
    intro i hi
    have hcase : i < 26 ∨ (100 ≤ i ∧ i < 136) ∨ (200 ≤ i ∧ i < 208) := by
      unfold us at hi
      simp at hi
      omega
    rcases hcase with h9 | ⟨h8, h9⟩ | ⟨h8, h9⟩
    · have hl : i < (Lx q cw I A R Q).length := h9
      have hg9 : (Lx q cw I A R Q)[i]? = some (Lx q cw I A R Q)[i] := List.getElem?_eq_getElem hl
      obtain ⟨-, hp⟩ := Lx_at hg9
      have := (hF.1 _ (List.mem_of_getElem? hg9)).1
      rw [hp] at this
      exact this
    · obtain ⟨-, p2, p3, p4⟩ := hF.2.1 ((i - 100) / 3) (by omega)
      rcases (show i = 100 + 3 * ((i - 100) / 3) ∨ i = 101 + 3 * ((i - 100) / 3) ∨ i = 102 + 3 * ((i - 100) / 3) by omega) with e | e | e
      · rw [e]; exact p2.1
      · rw [e]; exact p3.1
      · rw [e]; exact p4.1
    · obtain ⟨-, p2⟩ := hF.2.2.1 (i - 200) (by omega)
      have e : i = 200 + (i - 200) := by omega
      rw [e]; exact p2.1
  have hF1 : Fx st1 q cw I A R Q := hF.mono (fun b hb => (hmem b hb).1) (fun i hi => (hmem _ (hqm i hi)).2)
  have ca : cA K st1 a = some (.inr (.inr (12, [.ref v, .int 0, .int 0, .int 0]))) := by rw [cA_w (by rw [e2]; simp), e4]
  have cv : cA K st1 v = some (.inl (2, n, g)) := by rw [cA_w (by rw [e2]; simp), e5]
  have hback : ∀ (b : Nat) (x : CE), cA K st1 b = some x → b = a ∨ b = v ∨ cA K st b = some x := by
    intro b x hb
    rcases cA_or hb with ⟨g1, g2⟩ | ⟨g1, g2⟩
    · rw [e2] at g1
      simp at g1
      rcases g1 with g1 | g1 | g1
      · right; right
        rw [cA_w g1, ← (hmem b g1).2, g2]
      · exact Or.inl g1
      · exact Or.inr (Or.inl g1)
    · right; right
      rw [cA_k hw g1, g2]
  refine ⟨⟨hF1, ⟨fun b hb => ?_, fun b hb => ?_⟩, ?_⟩, ⟨fun b c fs _ hb => hcA b _ hb, fun b w fs hb => ?_⟩, strOf_of ca cv⟩
  · rw [e2] at hb
    simp at hb
    rcases hb with hb | hb | hb
    · have := hw.1 b hb; omega
    · omega
    · omega
  · exact ⟨by have := (hw.2 b hb).1; omega, hkn b hb⟩
  · intro b w fs hb
    have hq : ∀ i, us i = true → q i < st.1.1 := fun i hi => hw.1 _ (hqm i hi)
    rcases hback b _ hb with e | e | e
    · rw [e, ca] at hb
      cases hb
      have q22 := hq 22 (by decide)
      have q23 := hq 23 (by decide)
      have q25 := hq 25 (by decide)
      exact ⟨by omega, by omega, by omega, n, g, cv, hn, hg⟩
    · rw [e, cv] at hb; cases hb
    · obtain ⟨g1, g2, g3, n9, g9, g4, g5⟩ := hz b w fs e
      exact ⟨g1, g2, g3, n9, g9, hcA w _ g4, g5⟩
  · obtain ⟨-, -, -, n9, g9, g4, -⟩ := hz b w fs hb
    rw [g4, hcA w _ g4]
theorem word_str (h : Cx K st q cw I A R Q) (h0 : 0 ≤ (I 15).toInt) (h1 : (I 15).toInt < 16) (hfit : ∀ i, fits .byte (.int (A 7 i)) = true) (z6 : st.1.1 + 2 ≤ Zd 6) (z7 : st.1.2 + 4 + (I 15).toInt.toNat ≤ Zd 7) : ∃ st1, c_StringBuilder_toString Zd K (q 9) st = some (some st.1.1, st1) ∧ st1.1 = (st.1.1 + 2, st.1.2 + 4 + (I 15).toInt.toNat) ∧ Cx K st1 q cw I A R Q ∧ le K st st1 ∧ strOf K st1 st.1.1 = some ((List.range (I 15).toInt.toNat).map (A 7)) := by
  obtain ⟨st1, g1, e1, e2, e3, e4, e5, e6, e7⟩ := sb_str (Zd := Zd) (K := K) h.2.1 (word_sbd h.1) (by decide) h0 (by omega) hfit z6 z7
  obtain ⟨c1, c2, c3⟩ := h.new rfl rfl (by rw [e2]) e3 e4 e5 e6 (by omega) (fun i hi => by rw [e7 i hi]; exact hfit i)
  refine ⟨st1, e1, e2, c1, c2, ?_⟩
  rw [c3]
  congr 1
  apply List.map_congr_left
  intro i hi
  exact e7 i (List.mem_range.mp hi)
end WORD
