/-! The half as it will be; how many documents there are then. -/
/-- no constant is a value -/
def wk (K : KE) : Prop := ∀ a ∈ K.1, ∀ fs : List Value, K.2 a ≠ .inr (.inr (11, fs))
theorem ob_of {K : KE} {st : CS} (hk : wk K) {a : Nat} {fs : List Value} (h : cA K st a = some (.inr (.inr (11, fs)))) : ob1 st a 11 fs := by
  rcases cA_or h with ⟨h1, h2⟩ | ⟨h1, h2⟩
  · exact ⟨h1, h2⟩
  · exact absurd h2 (hk a h1 fs)
theorem tree_ob {Zd : Nat → Nat} {K : KE} {st : CS} (hk : wk K) {d a : Nat} {L : List Nd} (h : treeOf Zd K st d a = some L) : ∃ fs, ob1 st a 11 fs := by
  cases d with
  | zero => cases h
  | succ d =>
    unfold treeOf at h
    obtain ⟨kd, e1, h⟩ := ob h
    obtain ⟨fs, h1, -⟩ := gF_some (gQ_some e1)
    exact ⟨fs, ob_of hk h1⟩
theorem le_ob {K : KE} {st st1 : CS} (hk : wk K) (hl : le K st st1) {a : Nat} {fs : List Value} (h : ob1 st a 11 fs) : ob1 st1 a 11 fs := ob_of hk (hl.1 a 11 fs (Or.inl rfl) (by rw [cA_w h.1, h.2]))
theorem va_up_up {α : Type} (f : Nat → α) (a : Nat) (x y : α) : va_up (va_up f a x) a y = va_up f a y := by
  funext b
  by_cases h : b = a
  · subst h; rw [va_up_self, va_up_self]
  · rw [va_up_ne _ _ h, va_up_ne _ _ h, va_up_ne _ _ h]
/-- the documents as they will be: that of id is r -/
def nwI (A : Nat → Nat → Int32) (Q : Nat → Nat → Option Nat) (cur id : Int32) (r : Option Nat) (e : Int32) : Option Nat := if e = id then r else docS A Q cur e
theorem docS_up {A : Nat → Nat → Int32} {Q : Nat → Nat → Option Nat} {g : Nat → Option Nat} {r d : Int32} : docS A (va_up Q 5 g) r d = docS A Q r d := by
  unfold docS
  rw [va_up_ne _ _ (show 10 + (leafS A r (d / 4)).toNatClampNeg ≠ 5 by omega)]
section DRAFT
variable {Zd : Nat → Nat} {K : KE} {st : CS} {ms : MS} {q : Nat → Nat} {cw : Nat} {I : Nat → Int32} {A : Nat → Nat → Int32} {R : Nat → Option Nat} {Q : Nat → Nat → Option Nat}
theorem doc_ob (hk1 : wk K) (hp : Rp A ms) (hd : Rd Zd K st Q ms) {r d : Int32} (hr : pgr r) {b : Nat} (h : docS A Q r d = some b) : ∃ fs, ob1 st b 11 fs := by
  rcases doc_row hp hd hr d with ⟨e1, -⟩ | ⟨a, n, e1, e2, e3, e4⟩
  · rw [e1] at h; cases h
  · rw [e1] at h
    cases h
    obtain ⟨-, L, h2, -⟩ := e4
    exact tree_ob hk1 h2
theorem draft_lock (hk1 : wk K) (hp : Rp A ms) (hd : Rd Zd K st Q ms) (hcr : pgr (A 3 (curM (A 2)).toNatClampNeg)) {id half : Int32} (hh : half = 0 ∨ half = 1) {r : Option Nat} (hr : ∀ b, r = some b → ∃ fs, ob1 st b 11 fs) : ∀ (m fuel : Nat) (k any : Int32) (sk : CS) (g : Nat → Option Nat), k.toInt + m = 4 → 0 ≤ k.toInt → m < fuel → Fx sk q cw I A R (va_up Q 5 g) → le K st sk → Rz K sk q → wf K sk → sk.1 = st.1 → (∀ n : Nat, n < k.toNatClampNeg → g n = nwI A Q (A 3 (curM (A 2)).toNatClampNeg) id r (half * 4 + Int32.ofNat n)) → (any = 0 ∨ any = 1) → (any = 0 ↔ ∀ n : Nat, n < k.toNatClampNeg → nwI A Q (A 3 (curM (A 2)).toNatClampNeg) id r (half * 4 + Int32.ofNat n) = none) → ∃ x s1 g1, c_Store_draftHalf_l1 Zd K (q 6) half id r fuel (any, k, sk) = some (x, 4, s1) ∧ Fx s1 q cw I A R (va_up Q 5 g1) ∧ le K st s1 ∧ Rz K s1 q ∧ wf K s1 ∧ s1.1 = st.1 ∧ (∀ n : Nat, n < 4 → g1 n = nwI A Q (A 3 (curM (A 2)).toNatClampNeg) id r (half * 4 + Int32.ofNat n)) ∧ (x = 0 ∨ x = 1) ∧ (x = 0 ↔ ∀ n : Nat, n < 4 → nwI A Q (A 3 (curM (A 2)).toNatClampNeg) id r (half * 4 + Int32.ofNat n) = none) := by
  have L := nums
  intro m
  induction m with
  | zero =>
    intro fuel k any sk g h1 h2 h3 hF hl hz hw h1s hg ha0 ha
    obtain ⟨f, rfl⟩ : ∃ f, fuel = f + 1 := ⟨fuel - 1, by omega⟩
    have hk : k = 4 := i32eq (by omega)
    subst hk
    exact ⟨any, sk, g, by rw [c_Store_draftHalf_l1_s, if_pos (show (4 : Int32) ≤ 4 from by decide)], hF, hl, hz, hw, h1s, hg, ha0, ha⟩
  | succ m ih =>
    intro fuel k any sk g h1 h2 h3 hF hl hz hw h1s hg ha0 ha
    obtain ⟨f, rfl⟩ : ∃ f, fuel = f + 1 := ⟨fuel - 1, by omega⟩
    have hk8 : ¬ 4 ≤ k := fun e => by have := i32le.mp e; omega
    have k1 : (k + 1).toInt = k.toInt + 1 := by rw [i32add (by omega) (by omega)]; omega
    have hin : vp_in k 4 := vp_of h2 (by omega)
    have hkn : Int32.ofNat k.toNatClampNeg = k := i32eq (by rw [ofNat_i (by rw [tnn]; omega), tnn]; omega)
    generalize hcur : A 3 (curM (A 2)).toNatClampNeg = cur at *
    have hdk : c_Store_document Zd K (q 6) cur (half * 4 + k) sk = some (docS A Q cur (half * 4 + k)) := by rw [c_doc hF hp hcr, docS_up]
    have hcrk : c_Store_currentRoot Zd K (q 6) sk = some cur := by rw [c_cr hF, hcur]
    have hnew : ∀ b, nwI A Q cur id r (half * 4 + k) = some b → ∃ fs, ob1 sk b 11 fs := by
      intro b hb
      unfold nwI at hb
      by_cases e : half * 4 + k = id
      · rw [if_pos e] at hb
        obtain ⟨fs, h9⟩ := hr b hb
        exact ⟨fs, le_ob hk1 hl h9⟩
      · rw [if_neg e] at hb
        obtain ⟨fs, h9⟩ := doc_ob hk1 hp hd hcr hb
        exact ⟨fs, le_ob hk1 hl h9⟩
    obtain ⟨s2, e2, f2, hF2⟩ := fa_21 hF hin (nwI A Q cur id r (half * 4 + k)) hnew
    have hF2 : Fx s2 q cw I A R (va_up Q 5 (va_up g k.toNatClampNeg (nwI A Q cur id r (half * 4 + k)))) := by
      rw [va_up_up] at hF2
      exact hF2
    have l2 : le K sk s2 := by rw [f2]; exact nb_le hz (hF.fl (i := 21) rfl).1 (hF.fl (i := 21) rfl).2 rfl
    have z2 : Rz K s2 q := by rw [f2]; exact nb_Rz hz (hF.fl (i := 21) rfl).1 (hF.fl (i := 21) rfl).2 rfl rfl
    have w2 : wf K s2 := by rw [f2]; exact hw
    have hrd : rQ K s2 (q 21) 5 k = some (nwI A Q cur id r (half * 4 + k)) := by
      rw [fr_21 hF2 hin, va_up_self, va_up_self]
    have hkt : (k + 1).toNatClampNeg = k.toNatClampNeg + 1 := by rw [tnn, tnn, k1]; omega
    have hif : (if half * 4 + k = id then (some r) else ((isO K sk (q 6) 9).bind fun _ => (c_Store_currentRoot Zd K (q 6) sk).bind fun x35 => (isO K sk (q 6) 9).bind fun _ => (c_Store_document Zd K (q 6) x35 (half * 4 + k) sk).bind fun x38 => some x38)) = some (nwI A Q cur id r (half * 4 + k)) := by
      unfold nwI
      by_cases e : half * 4 + k = id
      · rw [if_pos e, if_pos e]
      · rw [if_neg e, if_neg e]
        simp only [fo_6 hF, Option.bind_some, hcrk, hdk]
    obtain ⟨any2, ha2, ha3, ha4⟩ : ∃ any2 : Int32, (if any = (0 : Int32) then ((gQ K s2 (q 6) 9 5).bind fun x30 => x30.bind fun a31z => (rQ K s2 a31z 5 k).bind fun x32 => nl x32 (some (0 : Int32)) (fun a33z => some (1 : Int32))) else (some (1 : Int32))) = some any2 ∧ (any2 = 0 ∨ any2 = 1) ∧ (any2 = 0 ↔ any = 0 ∧ nwI A Q cur id r (half * 4 + k) = none) := by
      by_cases e : any = 0
      · rw [if_pos e, fg_6_5 hF2]
        simp only [Option.bind_some, hrd]
        cases hv : nwI A Q cur id r (half * 4 + k) with
        | none => exact ⟨0, rfl, Or.inl rfl, ⟨fun _ => ⟨e, rfl⟩, fun _ => rfl⟩⟩
        | some b => exact ⟨1, rfl, Or.inr rfl, ⟨fun h9 => absurd h9 (by decide), fun h9 => by cases h9.2⟩⟩
      · rw [if_neg e]
        exact ⟨1, rfl, Or.inr rfl, ⟨fun h9 => absurd h9 (by decide), fun h9 => absurd h9.1 e⟩⟩
    obtain ⟨x, s1, g1, i1, i2⟩ := ih f (k + 1) any2 s2 (va_up g k.toNatClampNeg (nwI A Q cur id r (half * 4 + k))) (by omega) (by omega) (by omega) hF2 (hl.tr l2) z2 w2 (by rw [f2]; exact h1s) (fun n hn => by
      rw [hkt] at hn
      by_cases e : n = k.toNatClampNeg
      · rw [e, va_up_self, hkn]
      · rw [va_up_ne _ _ e]; exact hg n (by omega)) ha3 (by
      rw [ha4, ha, hkt]
      constructor
      · rintro ⟨h8, h9⟩ n hn
        by_cases e : n = k.toNatClampNeg
        · rw [e, hkn]; exact h9
        · exact h8 n (by omega)
      · intro h9
        refine ⟨fun n hn => h9 n (by omega), ?_⟩
        have h8 := h9 k.toNatClampNeg (by omega)
        rw [hkn] at h8; exact h8)
    refine ⟨x, s1, g1, ?_, i2⟩
    rw [c_Store_draftHalf_l1_s, if_neg hk8]
    simp only [Option.bind_some, fg_6_5 hF, hif, e2, ha2]
    exact i1
theorem cnt_lock (hp : Rp A ms) (hd : Rd Zd K st Q ms) {cur id half row : Int32} {r : Option Nat} (hcr : pgr cur) (hrow : r = none ↔ row < 0) : ∀ (m fuel : Nat) (k a b : Int32), k.toInt + m = 8 → 0 ≤ k.toInt → m < fuel → 0 ≤ a.toInt → a.toInt ≤ k.toInt → 0 ≤ b.toInt → b.toInt ≤ k.toInt → ∃ a1 b1 : Int32, m_change_l1 id row ms cur half fuel (a, b, k) = some (a1, b1, 8) ∧ 0 ≤ a1.toInt ∧ a1.toInt ≤ 8 ∧ 0 ≤ b1.toInt ∧ b1.toInt ≤ 8 ∧ (a1.toInt = 0 ↔ a.toInt = 0 ∧ ∀ e : Int32, k.toInt ≤ e.toInt → e.toInt < 8 → e / 4 = half → nwI A Q cur id r e = none) ∧ (b1.toInt = 0 ↔ b.toInt = 0 ∧ ∀ e : Int32, k.toInt ≤ e.toInt → e.toInt < 8 → ¬ e / 4 = half → nwI A Q cur id r e = none) := by
  have L := nums
  intro m
  induction m with
  | zero =>
    intro fuel k a b h1 h2 h3 a0 a1 b0 b1
    obtain ⟨f, rfl⟩ : ∃ f, fuel = f + 1 := ⟨fuel - 1, by omega⟩
    have hk : k = 8 := i32eq (by omega)
    subst hk
    refine ⟨a, b, by rw [m_change_l1_s, if_pos (show (8 : Int32) ≤ 8 from by decide)], a0, by omega, b0, by omega, ?_, ?_⟩
    · exact ⟨fun h => ⟨h, fun e h5 h6 => by omega⟩, fun h => h.1⟩
    · exact ⟨fun h => ⟨h, fun e h5 h6 => by omega⟩, fun h => h.1⟩
  | succ m ih =>
    intro fuel k a b h1 h2 h3 a0 a1 b0 b1
    obtain ⟨f, rfl⟩ : ∃ f, fuel = f + 1 := ⟨fuel - 1, by omega⟩
    have hk8 : ¬ 8 ≤ k := fun e => by have := i32le.mp e; omega
    have k1 : (k + 1).toInt = k.toInt + 1 := by rw [i32add (by omega) (by omega)]; omega
    have a2 : (a + 1).toInt = a.toInt + 1 := by rw [i32add (by omega) (by omega)]; omega
    have b2 : (b + 1).toInt = b.toInt + 1 := by rw [i32add (by omega) (by omega)]; omega
    have hex : ∃ v : Int32, (if k = id then (if row < (0 : Int32) then (some (0 : Int32)) else (some (1 : Int32))) else ((m_rowOf cur k ms).bind fun x483 => if x483 < (0 : Int32) then (some (0 : Int32)) else (some (1 : Int32)))) = some v ∧ ((v = 0 ∧ nwI A Q cur id r k = none) ∨ (v = 1 ∧ nwI A Q cur id r k ≠ none)) := by
      unfold nwI
      by_cases e : k = id
      · rw [if_pos e, if_pos e]
        by_cases e2 : row < 0
        · rw [if_pos e2]; exact ⟨0, rfl, Or.inl ⟨rfl, hrow.mpr e2⟩⟩
        · rw [if_neg e2]; exact ⟨1, rfl, Or.inr ⟨rfl, fun h9 => e2 (hrow.mp h9)⟩⟩
      · rw [if_neg e, if_neg e, m_row hp hcr, Option.bind_some]
        by_cases e2 : rowS ms cur k < 0
        · rw [if_pos e2]; exact ⟨0, rfl, Or.inl ⟨rfl, (row_neg hp hd hcr k).mpr e2⟩⟩
        · rw [if_neg e2]; exact ⟨1, rfl, Or.inr ⟨rfl, fun h9 => e2 ((row_neg hp hd hcr k).mp h9)⟩⟩
    obtain ⟨v, hv, hv2⟩ := hex
    have step : ∀ (P : Int32 → Prop) (hk9 : P k → nwI A Q cur id r k = none), (∀ e : Int32, k.toInt + 1 ≤ e.toInt → e.toInt < 8 → P e → nwI A Q cur id r e = none) → ∀ e : Int32, k.toInt ≤ e.toInt → e.toInt < 8 → P e → nwI A Q cur id r e = none := by
      intro P hk9 h e h5 h6 h7
      by_cases e9 : e = k
      · subst e9; exact hk9 h7
      · exact h e (by have := i32ne e9; omega) h6 h7
    rcases hv2 with ⟨rfl, hn⟩ | ⟨rfl, hn⟩
    · obtain ⟨a3, b3, i1, i2, i3, i4, i5, i6, i7⟩ := ih f (k + 1) a b (by omega) (by omega) (by omega) a0 (by omega) b0 (by omega)
      rw [k1] at i6 i7
      refine ⟨a3, b3, ?_, i2, i3, i4, i5, ?_, ?_⟩
      · rw [m_change_l1_s, if_neg hk8, hv]
        simp only [Option.bind_some, if_true]
        exact i1
      · rw [i6]
        exact ⟨fun h => ⟨h.1, step (fun e => e / 4 = half) (fun _ => hn) h.2⟩, fun h => ⟨h.1, fun e h5 h6 h7 => h.2 e (by omega) h6 h7⟩⟩
      · rw [i7]
        exact ⟨fun h => ⟨h.1, step (fun e => ¬ e / 4 = half) (fun _ => hn) h.2⟩, fun h => ⟨h.1, fun e h5 h6 h7 => h.2 e (by omega) h6 h7⟩⟩
    · by_cases hh : k / 4 = half
      · obtain ⟨a3, b3, i1, i2, i3, i4, i5, i6, i7⟩ := ih f (k + 1) (a + 1) b (by omega) (by omega) (by omega) (by omega) (by omega) b0 (by omega)
        rw [k1] at i6 i7
        refine ⟨a3, b3, ?_, i2, i3, i4, i5, ?_, ?_⟩
        · rw [m_change_l1_s, if_neg hk8, hv]
          simp only [Option.bind_some, show ¬ ((1 : Int32) = 0) from by decide, if_false, hh, if_true]
          exact i1
        · rw [i6]
          exact ⟨fun h => by omega, fun h => absurd (h.2 k (Int.le_refl _) (by omega) hh) hn⟩
        · rw [i7]
          exact ⟨fun h => ⟨h.1, step (fun e => ¬ e / 4 = half) (fun h9 => absurd hh h9) h.2⟩, fun h => ⟨h.1, fun e h5 h6 h7 => h.2 e (by omega) h6 h7⟩⟩
      · obtain ⟨a3, b3, i1, i2, i3, i4, i5, i6, i7⟩ := ih f (k + 1) a (b + 1) (by omega) (by omega) (by omega) a0 (by omega) (by omega) (by omega)
        rw [k1] at i6 i7
        refine ⟨a3, b3, ?_, i2, i3, i4, i5, ?_, ?_⟩
        · rw [m_change_l1_s, if_neg hk8, hv]
          simp only [Option.bind_some, show ¬ ((1 : Int32) = 0) from by decide, if_false, hh]
          exact i1
        · rw [i6]
          exact ⟨fun h => ⟨h.1, step (fun e => e / 4 = half) (fun h9 => absurd h9 hh) h.2⟩, fun h => ⟨h.1, fun e h5 h6 h7 => h.2 e (by omega) h6 h7⟩⟩
        · rw [i7]
          exact ⟨fun h => by omega, fun h => absurd (h.2 k (Int.le_refl _) (by omega) hh) hn⟩
end DRAFT
