/-! Builders and texts. -/
def sbd (st : CS) (a v : Nat) (m n : Int32) (cap : Nat) (g : Nat → Int32) : Prop := ob1 st a 2 [.ref v, .int 0, .int m, .int n] ∧ ar1i st v 2 cap g
theorem uC_uC {st : CS} {a : Nat} {e e1 : CE} : uC (uC st a e) a e1 = uC st a e1 := by
  unfold uC
  dsimp only
  rw [va_up_up]
theorem ob1_self {st : CS} {a ci : Nat} {fs : List Value} (h : a ∈ st.2.1) : ob1 (uC st a (.inr (.inr (ci, fs)))) a ci fs := ⟨h, uC_self⟩
theorem ob1_ne {st : CS} {a b ci : Nat} {fs : List Value} {e : CE} (h : ob1 st a ci fs) (hne : a ≠ b) : ob1 (uC st b e) a ci fs := ⟨h.1, by rw [uC_ne hne]; exact h.2⟩
theorem ar1_ne {st : CS} {a b t n : Nat} {g : Nat → Int32} {e : CE} (h : ar1i st a t n g) (hne : a ≠ b) : ar1i (uC st b e) a t n g := ⟨h.1, by rw [uC_ne hne]; exact h.2⟩
theorem sbd_ne {st : CS} {a v : Nat} {m n : Int32} {cap : Nat} {g : Nat → Int32} (h : sbd st a v m n cap g) : a ≠ v := by
  intro e
  have h1 := h.1.2
  have h2 := h.2.2
  rw [e, h2] at h1
  cases h1
section SB
variable {Zd : Nat → Nat} {K : KE} {st : CS} {a v : Nat} {m n : Int32} {cap : Nat} {g : Nat → Int32}
theorem ens_no (h : sbd st a v m n cap g) (hc : cap < 2147483648) {k : Int32} (k0 : 0 ≤ k.toInt) (hk : k.toInt ≤ cap) : c_AbstractStringBuilder_ensureCapacityInternal Zd K a k st = some st := by
  have L := nums
  have hcw : (Int32.ofNat cap).toInt = cap := ofNat_i hc
  have hle : k - Int32.ofNat cap ≤ 0 := i32le.mpr (by rw [i32sub (by omega) (by omega)]; omega)
  simp only [c_AbstractStringBuilder_ensureCapacityInternal, gQ_ob (k := 0) (r := some v) h.1 rfl, gI_ob (k := 1) (v := 0) h.1 rfl, Option.bind_some, lA_ar h.2, shr0, hle, if_true]
theorem sb_lat (h : sbd st a v m n cap g) : c_AbstractStringBuilder_isLatin1 Zd K a st = some 1 := by
  simp only [c_AbstractStringBuilder_isLatin1, gI_ob (k := 1) (v := 0) h.1 rfl, Option.bind_some, if_true, bz]
  rfl
theorem sb_set0 (h : sbd st a v m n cap g) (hc : cap < 2147483648) (n0 : 0 ≤ n.toInt) : ∃ m1, c_StringBuilder_setLength Zd K a 0 st = some (uC st a (.inr (.inr (2, [.ref v, .int 0, .int m1, .int 0])))) := by
  have L := nums
  have e0 := ens_no (Zd := Zd) (K := K) (k := 0) h hc (by decide) (by omega)
  have h0n : (0 : Int32) ≤ n := i32le.mpr (by omega)
  have z00 : (0 : Int32) ≤ 0 := by decide
  by_cases hn : n ≤ 0
  · have e1 := sF_ob (k := 3) (v := .int 0) h.1 (Nat.le_of_ble_eq_true rfl)
    refine ⟨m, ?_⟩
    simp only [c_StringBuilder_setLength, isO_ob h.1, Option.bind_some, c_AbstractStringBuilder_setLength, z00, if_true, e0, gI_ob (k := 3) (v := n) h.1 rfl, h0n, hn, e1]
    rfl
  · have e1 := sF_ob (k := 2) (v := .int 1) h.1 (Nat.le_of_ble_eq_true rfl)
    have h1 : ob1 (uC st a (.inr (.inr (2, [.ref v, .int 0, .int 1, .int n])))) a 2 [.ref v, .int 0, .int 1, .int n] := ob1_self h.1.1
    have e2 := sF_ob (k := 3) (v := .int 0) h1 (Nat.le_of_ble_eq_true rfl)
    rw [uC_uC] at e2
    refine ⟨1, ?_⟩
    have e1 : sF st a 2 2 (.int 1) = some (uC st a (.inr (.inr (2, [.ref v, .int 0, .int 1, .int n])))) := e1
    have e2 : sF (uC st a (.inr (.inr (2, [.ref v, .int 0, .int 1, .int n])))) a 2 3 (.int 0) = some (uC st a (.inr (.inr (2, [.ref v, .int 0, .int 1, .int 0])))) := e2
    simp only [c_StringBuilder_setLength, isO_ob h.1, Option.bind_some, c_AbstractStringBuilder_setLength, z00, if_true, e0, gI_ob (k := 3) (v := n) h.1 rfl, h0n, hn, if_false, e1, e2]
theorem i2b_r (c : Int32) : -128 ≤ c.toInt8.toInt32.toInt ∧ c.toInt8.toInt32.toInt ≤ 127 := by
  rw [Int8.toInt_toInt32]
  have h1 := Int8.le_toInt c.toInt8
  have h2 := Int8.toInt_lt c.toInt8
  simp at h1 h2 ⊢
  omega
theorem sb_app (h : sbd st a v m n cap g) (hc : cap < 2147483648) (n0 : 0 ≤ n.toInt) (n1 : n.toInt < cap) {c : Int32} (c1 : c.toInt ≤ 255) : c_StringBuilder_append_C Zd K a c st = some (some a, uC (uC st a (.inr (.inr (2, [.ref v, .int 0, .int m, .int (n + 1)])))) v (.inl (2, cap, upd g n.toNatClampNeg c.toInt8.toInt32))) := by
  have L := nums
  have k1 : (n + 1).toInt = n.toInt + 1 := by rw [i32add (by omega) (by omega)]; omega
  have e0 := ens_no (Zd := Zd) (K := K) (k := n + 1) h hc (by omega) (by omega)
  have hce : ¬ (255 : Int32) < c := fun e => by
    have h9 := i32lt.mp e
    have h8 : (255 : Int32).toInt = 255 := by decide
    omega
  have e1 := sF_ob (k := 3) (v := .int (n + 1)) h.1 (Nat.le_of_ble_eq_true rfl)
  have e1 : sF st a 2 3 (.int (n + 1)) = some (uC st a (.inr (.inr (2, [.ref v, .int 0, .int m, .int (n + 1)])))) := e1
  have h2 : ar1i (uC st a (.inr (.inr (2, [.ref v, .int 0, .int m, .int (n + 1)])))) v 2 cap g := ar1_ne h.2 (fun e => sbd_ne h e.symm)
  have e2 := wA_ar (i := n) (v := c.toInt8.toInt32) h2 (vp_of n0 (by omega))
  obtain ⟨b1, b2⟩ := i2b_r c
  have h10 : ¬ ((1 : Int32) = 0) := by decide
  have hcan : c_StringLatin1_canEncode Zd K c st = some 1 := by
    simp only [c_StringLatin1_canEncode, hce, if_false, Option.bind_some, bz]
    rfl
  simp only [c_StringBuilder_append_C, isO_ob h.1, Option.bind_some, c_AbstractStringBuilder_append_C, gI_ob (k := 3) (v := n) h.1 rfl, e0, sb_lat h, h10, if_false, hcan, gQ_ob (k := 0) (r := some v) h.1 rfl, e1, nar_b b1 b2, e2]
/-- a text made of a builder: where it lies, what it holds -/
theorem sb_str (hw : wf K st) (h : sbd st a v m n cap g) (hc : cap ≤ 65536) (n0 : 0 ≤ n.toInt) (n1 : n.toInt < cap) (hfit : ∀ i, fits .byte (.int (g i)) = true) (z6 : st.1.1 + 2 ≤ Zd 6) (z7 : st.1.2 + 4 + n.toInt.toNat ≤ Zd 7) : ∃ (st1 : CS) (g1 : Nat → Int32), c_StringBuilder_toString Zd K a st = some (some st.1.1, st1) ∧ st1.1 = (st.1.1 + 2, st.1.2 + 4 + n.toInt.toNat) ∧ st1.2.1 = st.2.1 ++ [st.1.1] ++ [st.1.1 + 1] ∧ (∀ b, b < st.1.1 → st1.2.2 b = st.2.2 b) ∧ st1.2.2 st.1.1 = .inr (.inr (12, [.ref (st.1.1 + 1), .int 0, .int 0, .int 0])) ∧ st1.2.2 (st.1.1 + 1) = .inl (2, n.toInt.toNat, g1) ∧ ∀ i, i < n.toInt.toNat → g1 i = g i := by
  have L := nums
  have ha := hw.1 a h.1.1
  have hv := hw.1 v h.2.1
  have hnn : n.toNatClampNeg = n.toInt.toNat := rfl
  -- the String
  have e1 : nOc Zd st 12 4 [.null, .int 0, .int 0, .int 0] = some (nO st 12 4 [.null, .int 0, .int 0, .int 0]) := by
    unfold nOc
    rw [if_pos ⟨by omega, by omega⟩]
  generalize hs1 : nO st 12 4 [.null, .int 0, .int 0, .int 0] = s1 at *
  have s11 : s1.1 = (st.1.1 + 1, st.1.2 + 4) := by rw [← hs1]; rfl
  have s12 : s1.2.1 = st.2.1 ++ [st.1.1] := by rw [← hs1]; rfl
  have s13 : ∀ b, b ≠ st.1.1 → s1.2.2 b = st.2.2 b := fun b hb => by rw [← hs1]; exact va_up_ne _ _ hb
  have s14 : ob1 s1 st.1.1 12 [.null, .int 0, .int 0, .int 0] := ⟨by rw [s12]; simp, by rw [← hs1]; exact va_up_self _ _ _⟩
  have h1 : sbd s1 a v m n cap g := ⟨⟨by rw [s12]; simp [h.1.1], by rw [s13 a (by omega)]; exact h.1.2⟩, by rw [s12]; simp [h.2.1], by rw [s13 v (by omega)]; exact h.2.2⟩
  have e2 : sF s1 st.1.1 12 1 (.int 0) = some (uC s1 st.1.1 (.inr (.inr (12, [.null, .int 0, .int 0, .int 0])))) := sF_ob (k := 1) s14 (Nat.le_of_ble_eq_true rfl)
  generalize hs2 : uC s1 st.1.1 (.inr (.inr (12, [.null, .int 0, .int 0, .int 0]))) = s2 at *
  have s21 : s2.1 = s1.1 := by rw [← hs2]; rfl
  have s22 : s2.2.1 = s1.2.1 := by rw [← hs2]; rfl
  have s23 : ∀ b, b ≠ st.1.1 → s2.2.2 b = st.2.2 b := fun b hb => by rw [← hs2, uC_ne hb]; exact s13 b hb
  have s24 : s2.2.2 st.1.1 = .inr (.inr (12, [.null, .int 0, .int 0, .int 0])) := by rw [← hs2]; exact uC_self
  have v2 : ar1i s2 v 2 cap g := ⟨by rw [s22, s12]; simp [h.2.1], by rw [s23 v (by omega)]; exact h.2.2⟩
  -- its bytes
  have nn0 : ¬ (n < 0 ∨ 65536 < n.toNatClampNeg) := by
    rintro (e | e)
    · have := i32lt.mp e; omega
    · omega
  have e3 : nBc Zd s2 n = some (nB s2 n.toInt.toNat) := by
    unfold nBc
    rw [if_neg nn0, if_pos (by rw [s21, s11]; exact ⟨by omega, by show st.1.2 + 4 + n.toNatClampNeg ≤ _; omega⟩)]
    rfl
  generalize hs3 : nB s2 n.toInt.toNat = s3 at *
  have s31 : s3.1 = (st.1.1 + 2, st.1.2 + 4 + n.toInt.toNat) := by rw [← hs3]; show (s2.1.1 + 1, s2.1.2 + n.toInt.toNat) = _; rw [s21, s11]
  have a15 : s2.1.1 = st.1.1 + 1 := by rw [s21, s11]
  have s32 : s3.2.1 = st.2.1 ++ [st.1.1] ++ [st.1.1 + 1] := by rw [← hs3]; show s2.2.1 ++ [s2.1.1] = _; rw [s22, s12, a15]
  have s33 : ∀ b, b ≠ st.1.1 + 1 → s3.2.2 b = s2.2.2 b := fun b hb => by rw [← hs3]; show va_up s2.2.2 s2.1.1 _ b = _; rw [a15, va_up_ne _ _ hb]
  have s34 : ar1i s3 (st.1.1 + 1) 2 n.toInt.toNat (fun _ => 0) := ⟨by rw [s32]; simp, by rw [← hs3]; show va_up s2.2.2 s2.1.1 _ _ = _; rw [a15, va_up_self]⟩
  have v3 : ar1i s3 v 2 cap g := ⟨by rw [s32]; simp [h.2.1], by rw [s33 v (by omega)]; exact v2.2⟩
  have e4 : cpB K s3 v 0 (st.1.1 + 1) 0 n = some (uC s3 (st.1.1 + 1) (.inl (2, n.toInt.toNat, va_cpy g (fun _ => 0) 0 0 n.toInt.toNat))) := by
    unfold cpB
    rw [cA_w v3.1, v3.2, Option.bind_some]
    simp only [s34.1, if_true, s34.2]
    rw [if_pos ⟨trivial, trivial, by decide, by decide, (fun e => by have := i32lt.mp e; omega), by show 0 + n.toInt.toNat ≤ cap; omega, by show 0 + n.toInt.toNat ≤ n.toInt.toNat; omega, List.all_eq_true.mpr (fun i _ => hfit _)⟩]
    rfl
  generalize hs4 : uC s3 (st.1.1 + 1) (.inl (2, n.toInt.toNat, va_cpy g (fun _ => 0) 0 0 n.toInt.toNat)) = s4 at *
  have s43 : ∀ b, b ≠ st.1.1 + 1 → s4.2.2 b = s3.2.2 b := fun b hb => by rw [← hs4, uC_ne hb]
  have s44 : s4.2.2 (st.1.1 + 1) = .inl (2, n.toInt.toNat, va_cpy g (fun _ => 0) 0 0 n.toInt.toNat) := by rw [← hs4]; exact uC_self
  have s42 : s4.2.1 = s3.2.1 := by rw [← hs4]; rfl
  have s41 : s4.1 = s3.1 := by rw [← hs4]; rfl
  have o4 : ob1 s4 st.1.1 12 [.null, .int 0, .int 0, .int 0] := ⟨by rw [s42, s32]; simp, by rw [s43 _ (by omega), s33 _ (by omega)]; exact s24⟩
  have e5 : sF s4 st.1.1 12 0 (.ref (st.1.1 + 1)) = some (uC s4 st.1.1 (.inr (.inr (12, [.ref (st.1.1 + 1), .int 0, .int 0, .int 0])))) := sF_ob (k := 0) o4 (Nat.le_of_ble_eq_true rfl)
  refine ⟨uC s4 st.1.1 (.inr (.inr (12, [.ref (st.1.1 + 1), .int 0, .int 0, .int 0]))), va_cpy g (fun _ => 0) 0 0 n.toInt.toNat, ?_, ?_, ?_, ?_, uC_self, ?_, ?_⟩
  · have hcw : (Int32.ofNat cap).toInt = cap := ofNat_i (by omega)
    have hne : ¬ n = Int32.ofNat cap := fun e => by rw [e] at n1; omega
    have n00 : (0 : Int32) ≤ n := i32le.mpr (by omega)
    have ns : n - 0 = n := Int32.sub_zero n
    have cs : Int32.ofNat cap - 0 = Int32.ofNat cap := Int32.sub_zero _
    have hmin : (if n < Int32.ofNat cap then n else Int32.ofNat cap) = n := if_pos (i32lt.mpr (by omega))
    have h10 : ¬ ((1 : Int32) = 0) := by decide
    have hlen : c_StringBuilder_length Zd K a s1 = some n := by
      simp only [c_StringBuilder_length, isO_ob h1.1, Option.bind_some, c_AbstractStringBuilder_length, gI_ob (k := 3) (v := n) h1.1 rfl]
    simp only [c_StringBuilder_toString, Option.bind_some, e1, c_String_init_q, c_String_init_qq, isO_ob h1.1, c_AbstractStringBuilder_getValue, gQ_ob (k := 0) (r := some v) h1.1 rfl, hlen, sb_lat h1, h10, if_false, e2, c_Arrays_copyOfRange, if_true, lA_ar v2, hne, c_Arrays_copyOfRangeByte, c_Arrays_checkLength, n00, ns, a15, e3, lA_ar v3, cs, hmin, e4, va_rf, e5]
  · show s4.1 = _
    rw [s41, s31]
  · show s4.2.1 = _
    rw [s42, s32]
  · intro b hb
    rw [uC_ne (by omega), s43 b (by omega), s33 b (by omega), s23 b (by omega)]
  · rw [uC_ne (by omega), s44]
  · intro i hi
    unfold va_cpy
    rw [if_pos (by omega)]
    simp
end SB
