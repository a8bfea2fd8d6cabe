/-! Values stay as they are while other cells change or come. -/
def le (K : KE) (st st1 : CS) : Prop := (∀ (a c : Nat) (fs : List Value), c = 11 ∨ c = 12 → cA K st a = some (.inr (.inr (c, fs))) → cA K st1 a = some (.inr (.inr (c, fs)))) ∧ ∀ (a v : Nat) (fs : List Value), cA K st a = some (.inr (.inr (12, .ref v :: fs))) → cA K st1 v = cA K st v
theorem le.rf (K : KE) (st : CS) : le K st st := ⟨fun _ _ _ _ h => h, fun _ _ _ _ => rfl⟩
theorem le.tr {K : KE} {st st1 st2 : CS} (h : le K st st1) (h1 : le K st1 st2) : le K st st2 := ⟨fun a c fs hc ha => h1.1 a c fs hc (h.1 a c fs hc ha), fun a v fs ha => (h1.2 a v fs (h.1 a 12 _ (Or.inr rfl) ha)).trans (h.2 a v fs ha)⟩
theorem le.fF {K : KE} {st st1 : CS} (h : le K st st1) {a ci k : Nat} {v : Value} (hc : ci = 11 ∨ ci = 12) (hg : gF K st a ci k = some v) : gF K st1 a ci k = some v := by
  obtain ⟨fs, h1, h2⟩ := gF_some hg
  unfold gF
  rw [h.1 a ci fs hc h1]
  simpa using h2
theorem le.fQ {K : KE} {st st1 : CS} (h : le K st st1) {a ci k : Nat} {r : Option Nat} (hc : ci = 11 ∨ ci = 12) (hg : gQ K st a ci k = some r) : gQ K st1 a ci k = some r := by
  have h1 := h.fF hc (gQ_some hg)
  unfold gQ
  rw [h1]
  cases r <;> rfl
theorem le.fI {K : KE} {st st1 : CS} (h : le K st st1) {a ci k : Nat} {r : Int32} (hc : ci = 11 ∨ ci = 12) (hg : gI K st a ci k = some r) : gI K st1 a ci k = some r := by
  have h1 := h.fF hc (gI_some hg)
  unfold gI
  rw [h1]
  rfl
theorem strOf_some {K : KE} {st : CS} {a : Nat} {cs : List Int32} (h : strOf K st a = some cs) : ∃ (v n : Nat) (fs : List Value) (g : Nat → Int32), cA K st a = some (.inr (.inr (12, .ref v :: .int 0 :: fs))) ∧ cA K st v = some (.inl (2, n, g)) ∧ cs = (List.range n).map g := by
  unfold strOf at h
  obtain ⟨e, h1, h2⟩ := ob h
  split at h2
  · obtain ⟨e2, h3, h4⟩ := ob h2
    split at h4
    · exact ⟨_, _, _, _, h1, h3, (Option.some.inj h4).symm⟩
    · cases h4
  · cases h2
theorem strOf_of {K : KE} {st : CS} {a v n : Nat} {fs : List Value} {g : Nat → Int32} (h1 : cA K st a = some (.inr (.inr (12, .ref v :: .int 0 :: fs)))) (h2 : cA K st v = some (.inl (2, n, g))) : strOf K st a = some ((List.range n).map g) := by
  have e : strOf K st a = (cA K st v).bind fun e2 => match e2 with
      | .inl (2, n, g) => some ((List.range n).map g)
      | _ => none := by
    unfold strOf
    rw [h1]
    rfl
  rw [e, h2]
  rfl
theorem le.str {K : KE} {st st1 : CS} (h : le K st st1) {a : Nat} {cs : List Int32} (hg : strOf K st a = some cs) : strOf K st1 a = some cs := by
  obtain ⟨v, n, fs, g, h1, h2, rfl⟩ := strOf_some hg
  exact strOf_of (h.1 a 12 _ (Or.inr rfl) h1) ((h.2 a v _ h1).trans h2)
theorem le.kids {K : KE} {st st1 : CS} (h : le K st st1) {f f1 : Nat → Option (List Nd)} (hf : ∀ a L, f a = some L → f1 a = some L) : ∀ (n : Nat) (r : Option Nat) (xs : List (List Nd)), kidsOf K st f n r = some xs → kidsOf K st1 f1 n r = some xs := by
  intro n
  induction n with
  | zero =>
    intro r xs hx
    cases r with
    | none => exact hx
    | some a => cases hx
  | succ n ih =>
    intro r xs hx
    cases r with
    | none => exact hx
    | some a =>
      have hx : ((f a).bind fun x => (gQ K st a 11 5).bind fun r => (kidsOf K st f n r).bind fun xs => some (x :: xs)) = some xs := hx
      obtain ⟨x, e1, hx⟩ := ob hx
      obtain ⟨r, e2, hx⟩ := ob hx
      obtain ⟨ys, e3, hx⟩ := ob hx
      show ((f1 a).bind fun x => (gQ K st1 a 11 5).bind fun r => (kidsOf K st1 f1 n r).bind fun xs => some (x :: xs)) = some xs
      rw [hf a x e1, Option.bind_some, h.fQ (Or.inl rfl) e2, Option.bind_some, ih r ys e3, Option.bind_some]
      exact hx
theorem le.tree {Zd : Nat → Nat} {K : KE} {st st1 : CS} (h : le K st st1) : ∀ (d a : Nat) (L : List Nd), treeOf Zd K st d a = some L → treeOf Zd K st1 d a = some L := by
  intro d
  induction d with
  | zero => intro a L hx; cases hx
  | succ d ih =>
    intro a L hx
    unfold treeOf at hx ⊢
    obtain ⟨kd, e1, hx⟩ := ob hx
    obtain ⟨k, e2, hx⟩ := ob hx
    obtain ⟨o, e3, hx⟩ := ob hx
    obtain ⟨num, e4, hx⟩ := ob hx
    obtain ⟨ch, e5, hx⟩ := ob hx
    obtain ⟨c, e6, hx⟩ := ob hx
    obtain ⟨cs, e7, hx⟩ := ob hx
    obtain ⟨nm, e8, hx⟩ := ob hx
    obtain ⟨n, e9, hx⟩ := ob hx
    obtain ⟨ns, e10, hx⟩ := ob hx
    obtain ⟨fst, e11, hx⟩ := ob hx
    obtain ⟨xs, e12, hx⟩ := ob hx
    rw [h.fQ (Or.inl rfl) e1, Option.bind_some, e2, Option.bind_some, e3, Option.bind_some, h.fI (Or.inl rfl) e4, Option.bind_some, h.fQ (Or.inl rfl) e5, Option.bind_some, e6, Option.bind_some, h.str e7, Option.bind_some, h.fQ (Or.inl rfl) e8, Option.bind_some, e9, Option.bind_some, h.str e10, Option.bind_some, h.fQ (Or.inl rfl) e11, Option.bind_some, h.kids ih 64 fst xs e12, Option.bind_some]
    exact hx
theorem cA_uC_ne {K : KE} {st : CS} {a b : Nat} {e : CE} (h : b ≠ a) : cA K (uC st a e) b = cA K st b := by
  unfold cA
  show (if b ∈ st.2.1 then some ((uC st a e).2.2 b) else _) = _
  rw [uC_ne h]
/-- a cell that is neither value nor text, nor a text's bytes, gets another content -/
theorem le.put {K : KE} {st : CS} {b : Nat} {e0 e : CE} (h0 : cA K st b = some e0) (h1 : ∀ (c : Nat) (fs : List Value), e0 = .inr (.inr (c, fs)) → ¬ (c = 11 ∨ c = 12)) (h2 : ∀ (a v : Nat) (fs : List Value), cA K st a = some (.inr (.inr (12, .ref v :: fs))) → v ≠ b) : le K st (uC st b e) := by
  refine ⟨fun a c fs hc ha => ?_, fun a v fs ha => ?_⟩
  · have hab : a ≠ b := by
      intro e9
      subst e9
      rw [h0] at ha
      exact h1 c fs (Option.some.inj ha) hc
    rw [cA_uC_ne hab]; exact ha
  · exact cA_uC_ne (h2 a v fs ha)
/-- cells that come leave what is there -/
theorem le.new {K : KE} {st st1 : CS} (hw : wf K st) (h1 : ∀ a, a ∈ st.2.1 → a ∈ st1.2.1 ∧ st1.2.2 a = st.2.2 a) (h2 : ∀ a, a ∈ K.1 → a ∉ st1.2.1) : ∀ (a : Nat) (e : CE), cA K st a = some e → cA K st1 a = some e := by
  intro a e ha
  rcases cA_or ha with ⟨g1, g2⟩ | ⟨g1, g2⟩
  · rw [cA_w (h1 a g1).1, (h1 a g1).2, g2]
  · unfold cA
    rw [if_neg (h2 a g1), if_pos g1, g2]
