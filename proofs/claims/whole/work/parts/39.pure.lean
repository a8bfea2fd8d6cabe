/-! The heap as a function, read and written: what the pure functions answer. -/
/-- the world's addresses lie below the next one, the constants too, and apart from the world -/
def wf (K : KE) (st : CS) : Prop := (∀ a ∈ st.2.1, a < st.1.1) ∧ ∀ a ∈ K.1, a < st.1.1 ∧ a ∉ st.2.1
/-- an object, an array of numbers, an array of references of the world -/
def ob1 (st : CS) (a ci : Nat) (fs : List Value) : Prop := a ∈ st.2.1 ∧ st.2.2 a = .inr (.inr (ci, fs))
def ar1i (st : CS) (a t n : Nat) (g : Nat → Int32) : Prop := a ∈ st.2.1 ∧ st.2.2 a = .inl (t, n, g)
def ar1q (st : CS) (a t n : Nat) (g : Nat → Option Nat) : Prop := a ∈ st.2.1 ∧ st.2.2 a = .inr (.inl (t, n, g))
theorem cA_w {K : KE} {st : CS} {a : Nat} (h : a ∈ st.2.1) : cA K st a = some (st.2.2 a) := by
  unfold cA
  rw [if_pos h]
theorem cA_k {K : KE} {st : CS} {a : Nat} (hw : wf K st) (h : a ∈ K.1) : cA K st a = some (K.2 a) := by
  unfold cA
  rw [if_neg (hw.2 a h).2, if_pos h]
theorem gI_cA {K : KE} {st : CS} {a ci k : Nat} {fs : List Value} {v : Int32} (h : cA K st a = some (.inr (.inr (ci, fs)))) (hk : fs[k]? = some (.int v)) : gI K st a ci k = some v := by
  unfold gI gF
  rw [h]
  simp [hk]
theorem gQ_cA {K : KE} {st : CS} {a ci k : Nat} {fs : List Value} {r : Option Nat} (h : cA K st a = some (.inr (.inr (ci, fs)))) (hk : fs[k]? = some (va_rf r)) : gQ K st a ci k = some r := by
  unfold gQ gF
  rw [h]
  cases r <;> simp [hk, va_rf]
theorem gI_ob {K : KE} {st : CS} {a ci k : Nat} {fs : List Value} {v : Int32} (h : ob1 st a ci fs) (hk : fs[k]? = some (.int v)) : gI K st a ci k = some v := gI_cA ((cA_w h.1).trans (by rw [h.2])) hk
theorem gQ_ob {K : KE} {st : CS} {a ci k : Nat} {fs : List Value} {r : Option Nat} (h : ob1 st a ci fs) (hk : fs[k]? = some (va_rf r)) : gQ K st a ci k = some r := gQ_cA ((cA_w h.1).trans (by rw [h.2])) hk
theorem isO_ob {K : KE} {st : CS} {a ci : Nat} {fs : List Value} (h : ob1 st a ci fs) : isO K st a ci = some () := by
  unfold isO
  rw [cA_w h.1, h.2]
  simp
theorem sF_ob {st : CS} {a ci k : Nat} {fs : List Value} {v : Value} (h : ob1 st a ci fs) (hk : k < fs.length) : sF st a ci k v = some (uC st a (.inr (.inr (ci, fs.set k v)))) := by
  unfold sF
  rw [if_pos h.1, h.2]
  simp [hk]
theorem rA_cA {K : KE} {st : CS} {a t n : Nat} {g : Nat → Int32} {i : Int32} (h : cA K st a = some (.inl (t, n, g))) (hi : vp_in i n) : rA K st a t i = some (g i.toNatClampNeg) := by
  unfold rA
  rw [h]
  simp only [Option.bind_some, if_true, rd]
  rw [if_neg hi]
theorem rA_ar {K : KE} {st : CS} {a t n : Nat} {g : Nat → Int32} {i : Int32} (h : ar1i st a t n g) (hi : vp_in i n) : rA K st a t i = some (g i.toNatClampNeg) := rA_cA ((cA_w h.1).trans (by rw [h.2])) hi
theorem wA_ar {st : CS} {a t n : Nat} {g : Nat → Int32} {i v : Int32} (h : ar1i st a t n g) (hi : vp_in i n) : wA st a t i v = some (uC st a (.inl (t, n, upd g i.toNatClampNeg v))) := by
  unfold wA
  rw [if_pos h.1, h.2]
  simp only [if_true, ix]
  rw [if_neg hi]
  rfl
theorem rQ_ar {K : KE} {st : CS} {a t n : Nat} {g : Nat → Option Nat} {i : Int32} (h : ar1q st a t n g) (hi : vp_in i n) : rQ K st a t i = some (g i.toNatClampNeg) := by
  unfold rQ
  rw [cA_w h.1, h.2]
  simp only [Option.bind_some, if_true, rd]
  rw [if_neg hi]
theorem uC_self {st : CS} {a : Nat} {e : CE} : (uC st a e).2.2 a = e := va_up_self _ _ _
theorem uC_ne {st : CS} {a b : Nat} {e : CE} (h : b ≠ a) : (uC st a e).2.2 b = st.2.2 b := va_up_ne _ _ h
