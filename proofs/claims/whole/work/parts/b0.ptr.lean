/-! Pointers: their characters, whether they are well-formed, the last slash; class and model. -/
/-- a text's characters, as numbers from 0 to 255 -/
def Pt (K : KE) (st : CS) (b : Nat) (us : List Int32) : Prop := ∃ cs, strOf K st b = some cs ∧ okS cs ∧ us = cs.map u8
/-- a well-formed pointer -/
def ptr (us : List Int32) : Prop := us = [] ∨ (us.getD 0 0 = 47 ∧ ∀ j, j < us.length → us.getD j 0 = 126 → j + 1 < us.length ∧ (us.getD (j + 1) 0 = 48 ∨ us.getD (j + 1) 0 = 49))
section PTR
variable {Zd : Nat → Nat} {K : KE} {st st1 : CS} {b : Nat} {us : List Int32}
theorem Pt.le (h : Pt K st b us) (hl : le K st st1) : Pt K st1 b us := by
  obtain ⟨cs, h1, h2, h3⟩ := h
  exact ⟨cs, hl.str h1, h2, h3⟩
theorem Pt.ok (h : Pt K st b us) : okC us ∧ us.length ≤ 10 := by
  obtain ⟨cs, h1, h2, rfl⟩ := h
  exact ⟨okC_u8 cs, by rw [List.length_map]; exact h2.1⟩
theorem Pt.is (h : Pt K st b us) : isO K st b 12 = some () := by
  obtain ⟨cs, h1, h2, h3⟩ := h
  exact str_isO h1
theorem Pt.len (h : Pt K st b us) : c_String_length Zd K b st = some (Int32.ofNat us.length) := by
  obtain ⟨cs, h1, h2, rfl⟩ := h
  rw [str_len h1, List.length_map]
theorem Pt.chr (h : Pt K st b us) {i : Int32} (i0 : 0 ≤ i.toInt) (i1 : i.toInt < us.length) : c_String_charAt Zd K b i st = some (us.getD i.toInt.toNat 0) := by
  obtain ⟨cs, h1, h2, rfl⟩ := h
  rw [List.length_map] at i1
  have := h2.1
  rw [str_char h1 (by omega) i0 i1, List.getD_eq_getElem?_getD, List.getD_eq_getElem?_getD, List.getElem?_map, List.getElem?_eq_getElem (by omega)]
  rfl
theorem Pt.emp (h : Pt K st b us) : c_String_isEmpty Zd K b st = some (if us.length = 0 then 1 else 0) := by
  have hl := h.len (Zd := Zd)
  have h10 := h.ok.2
  obtain ⟨cs, h1, h2, rfl⟩ := h
  obtain ⟨v, n, fs, g, e1, e2, rfl⟩ := strOf_some h1
  have hn : ((List.range n).map g).length = n := by rw [List.length_map, List.length_range]
  rw [List.length_map, hn] at h10 ⊢
  have hq : gQ K st b 12 0 = some (some v) := by
    unfold gQ gF
    rw [e1]
    rfl
  have hy : (Int32.ofNat n = 0) = (n = 0) := by
    apply propext
    constructor
    · intro e
      have : (Int32.ofNat n).toInt = (0 : Int32).toInt := by rw [e]
      rw [ofNat_i (by omega), show (0 : Int32).toInt = 0 from by decide] at this
      omega
    · intro e; rw [e]; rfl
  by_cases e : n = 0
  · simp only [c_String_isEmpty, hq, Option.bind_some, lA_cA e2, hy, e, if_true, bz]; rfl
  · simp only [c_String_isEmpty, hq, Option.bind_some, lA_cA e2, hy, e, if_false, bz]; rfl
theorem m_isp0 {x y : Int64} {n : Nat} (hx : m_lengthOf x = some (Int32.ofNat n)) (hn : n ≤ 10) (hc : ∀ (i : Int32) (j : Nat), i.toInt = j → j < n → ∃ c, m_charOf x y i = some c) : ∀ (m f : Nat) (i : Int32), i.toInt + m = n → 0 ≤ i.toInt → m < f → ∃ e, m_isPointer_l1 x y f (0, i) = some (0, e) := by
  have N := nums
  have hni := ofNat_i (n := n) (by omega)
  intro m
  induction m with
  | zero =>
    intro f i hi i0 hf
    obtain ⟨f, rfl⟩ : ∃ g, f = g + 1 := ⟨f - 1, by omega⟩
    refine ⟨i, ?_⟩
    rw [m_isPointer_l1_s]
    simp only [hx, Option.bind_some, show Int32.ofNat n ≤ i from i32le.mpr (by omega), if_true]
  | succ m ih =>
    intro f i hi i0 hf
    obtain ⟨f, rfl⟩ : ∃ g, f = g + 1 := ⟨f - 1, by omega⟩
    have k1 : (i + 1).toInt = i.toInt + 1 := by rw [i32add (by omega) (by omega)]; omega
    obtain ⟨e, he⟩ := ih f (i + 1) (by omega) (by omega) (by omega)
    refine ⟨e, ?_⟩
    rw [m_isPointer_l1_s]
    have hn1 : ¬ Int32.ofNat n ≤ i := fun e9 => by have := i32le.mp e9; omega
    by_cases hz : Int32.ofNat n ≤ i + 1
    · simp only [hx, Option.bind_some, hn1, if_false, hz, if_true]
      exact he
    · obtain ⟨c, hc1⟩ := hc (i + 1) (i.toInt.toNat + 1) (by omega) (by have : ¬ (Int32.ofNat n).toInt ≤ (i + 1).toInt := fun e9 => hz (i32le.mpr e9); omega)
      simp only [hx, Option.bind_some, hn1, if_false, hz, hc1, if_true]
      exact he
theorem isp_l (h : Pt K st b us) : ∀ (m f1 f2 : Nat) (i : Int32), i.toInt + m = us.length → 0 ≤ i.toInt → m < f1 → m < f2 →
    (∃ v e, c_Pointer_isPointer_l1 Zd K (some b) st b f1 i = some (.inr v) ∧ m_isPointer_l1 (encU us).1 (encU us).2 f2 (1, i) = some (1, e) ∧ ∀ j : Nat, i.toInt ≤ j → j < us.length → us.getD j 0 = 126 → j + 1 < us.length ∧ (us.getD (j + 1) 0 = 48 ∨ us.getD (j + 1) 0 = 49)) ∨
    (∃ e, c_Pointer_isPointer_l1 Zd K (some b) st b f1 i = some (.inl 0) ∧ m_isPointer_l1 (encU us).1 (encU us).2 f2 (1, i) = some (0, e)) := by
  have N := nums
  have h10 : ¬ ((1 : Int32) = 0) := by decide
  obtain ⟨hok, hle⟩ := h.ok
  have hml := enc_len hok hle
  have hni := ofNat_i (n := us.length) (by omega)
  intro m
  induction m with
  | zero =>
    intro f1 f2 i hi i0 hf1 hf2
    obtain ⟨f1, rfl⟩ : ∃ g, f1 = g + 1 := ⟨f1 - 1, by omega⟩
    obtain ⟨f2, rfl⟩ : ∃ g, f2 = g + 1 := ⟨f2 - 1, by omega⟩
    have hz : Int32.ofNat us.length ≤ i := i32le.mpr (by omega)
    refine Or.inl ⟨i, i, ?_, ?_, fun j h1 h2 => by omega⟩
    · rw [c_Pointer_isPointer_l1_s]
      simp only [h.is, h.len, Option.bind_some, hz, if_true]
    · rw [m_isPointer_l1_s]
      simp only [hml, Option.bind_some, hz, if_true]
  | succ m ih =>
    intro f1 f2 i hi i0 hf1 hf2
    obtain ⟨f1, rfl⟩ : ∃ g, f1 = g + 1 := ⟨f1 - 1, by omega⟩
    obtain ⟨f2, rfl⟩ : ∃ g, f2 = g + 1 := ⟨f2 - 1, by omega⟩
    obtain ⟨j0, hj0⟩ : ∃ j0 : Nat, i.toInt = j0 := ⟨i.toInt.toNat, by omega⟩
    have k1 : (i + 1).toInt = i.toInt + 1 := by rw [i32add (by omega) (by omega)]; omega
    have hz : ¬ Int32.ofNat us.length ≤ i := fun e9 => by have := i32le.mp e9; omega
    have hch := h.chr (Zd := Zd) i0 (by omega)
    have hmc := enc_chr hok hle hj0 (by omega)
    rw [show i.toInt.toNat = j0 by omega] at hch
    have q1 : (i + 1).toInt + m = us.length := by omega
    have q2 : 0 ≤ (i + 1).toInt := by omega
    have ih1 := ih f1 f2 (i + 1) q1 q2 (by omega) (by omega)
    have hfl0 := m_isp0 (x := (encU us).1) (y := (encU us).2) hml hle (fun i9 j9 e1 e2 => ⟨_, enc_chr hok hle e1 e2⟩) m f2 (i + 1) q1 q2 (by omega)
    -- the next character
    have hnx : ∃ e22, (if Int32.ofNat us.length ≤ i + 1 then (some (0 : Int32)) else ((some (i + 1)).bind fun y33 => (m_charOf (encU us).1 (encU us).2 y33).bind fun x34 => some x34)) = some e22 ∧ ((¬ Int32.ofNat us.length ≤ i + 1 ∧ j0 + 1 < us.length ∧ e22 = us.getD (j0 + 1) 0) ∨ (Int32.ofNat us.length ≤ i + 1 ∧ e22 = 0)) := by
      by_cases hz1 : Int32.ofNat us.length ≤ i + 1
      · exact ⟨0, by rw [if_pos hz1], Or.inr ⟨hz1, rfl⟩⟩
      · have hlt : j0 + 1 < us.length := by have : ¬ (Int32.ofNat us.length).toInt ≤ (i + 1).toInt := fun e9 => hz1 (i32le.mpr e9); omega
        have := enc_chr hok hle (i := i + 1) (j := j0 + 1) (by omega) hlt
        exact ⟨us.getD (j0 + 1) 0, by rw [if_neg hz1, Option.bind_some, this, Option.bind_some], Or.inl ⟨hz1, hlt, rfl⟩⟩
    obtain ⟨e22, hn1, hn2⟩ := hnx
    by_cases hc : us.getD j0 0 = 126
    · -- an escape, or not
      have hesc : ∃ v, c_Pointer_isEscape Zd K (some b) i st = some v ∧ ((v = 1 ∧ j0 + 1 < us.length ∧ (us.getD (j0 + 1) 0 = 48 ∨ us.getD (j0 + 1) 0 = 49) ∧ (e22 = 48 ∨ e22 = 49)) ∨ (v = 0 ∧ ¬ e22 = 48 ∧ ¬ e22 = 49)) := by
        rcases hn2 with ⟨g1, g2, g3⟩ | ⟨g1, g2⟩
        · have hlt : i + 1 < Int32.ofNat us.length := i32lt.mpr (by omega)
          have hch1 := h.chr (Zd := Zd) (i := i + 1) q2 (by omega)
          rw [show (i + 1).toInt.toNat = j0 + 1 by omega] at hch1
          by_cases e8 : us.getD (j0 + 1) 0 = 48
          · refine ⟨1, ?_, Or.inl ⟨rfl, g2, Or.inl e8, Or.inl (g3.trans e8)⟩⟩
            simp only [c_Pointer_isEscape, Option.bind_some, h.is, h.len, hlt, if_true, hch1, e8, bz]; rfl
          · by_cases e9 : us.getD (j0 + 1) 0 = 49
            · refine ⟨1, ?_, Or.inl ⟨rfl, g2, Or.inr e9, Or.inr (g3.trans e9)⟩⟩
              simp only [c_Pointer_isEscape, Option.bind_some, h.is, h.len, hlt, if_true, hch1, e9, show ¬ ((49 : Int32) = 48) from by decide, if_false, bz]; rfl
            · refine ⟨0, ?_, Or.inr ⟨rfl, by rw [g3]; exact e8, by rw [g3]; exact e9⟩⟩
              simp only [c_Pointer_isEscape, Option.bind_some, h.is, h.len, hlt, if_true, hch1, e8, e9, if_false, bz]; rfl
        · have hlt : ¬ i + 1 < Int32.ofNat us.length := fun e9 => by have := i32lt.mp e9; have := i32le.mp g1; omega
          refine ⟨0, ?_, Or.inr ⟨rfl, by rw [g2]; decide, by rw [g2]; decide⟩⟩
          simp only [c_Pointer_isEscape, Option.bind_some, h.is, h.len, hlt, if_false]
      obtain ⟨v, hv1, hv2⟩ := hesc
      rcases hv2 with ⟨rfl, g1, g2, g3⟩ | ⟨rfl, g1, g2⟩
      · -- goes on
        have hcs : c_Pointer_isPointer_l1 Zd K (some b) st b (f1 + 1) i = c_Pointer_isPointer_l1 Zd K (some b) st b f1 (i + 1) := by
          rw [c_Pointer_isPointer_l1_s]
          simp only [h.is, h.len, Option.bind_some, hz, if_false, hch, hc, if_true, hv1, h10]
        have hms : m_isPointer_l1 (encU us).1 (encU us).2 (f2 + 1) (1, i) = m_isPointer_l1 (encU us).1 (encU us).2 f2 (1, i + 1) := by
          rw [m_isPointer_l1_s]
          simp only [hml, Option.bind_some, hz, if_false, hmc, hc, if_true, h10]
          have hn1' := hn1
          simp only [Option.bind_some] at hn1'
          rw [hn1', Option.bind_some]
          rcases g3 with e9 | e9
          · simp only [e9, if_true, Option.bind_some]
          · simp only [e9, show ¬ ((49 : Int32) = 48) from by decide, if_false, if_true, Option.bind_some]
        rw [hcs, hms]
        rcases ih1 with ⟨v, e, i1, i2, i3⟩ | i1
        · refine Or.inl ⟨v, e, i1, i2, fun j x1 x2 x3 => ?_⟩
          by_cases ej : j = j0
          · subst ej; exact ⟨g1, g2⟩
          · exact i3 j (by omega) x2 x3
        · exact Or.inr i1
      · obtain ⟨e, he⟩ := hfl0
        refine Or.inr ⟨e, ?_, ?_⟩
        · rw [c_Pointer_isPointer_l1_s]
          simp only [h.is, h.len, Option.bind_some, hz, if_false, hch, hc, if_true, hv1]
        · rw [m_isPointer_l1_s]
          simp only [hml, Option.bind_some, hz, if_false, hmc, hc, if_true, h10]
          have hn1' := hn1
          simp only [Option.bind_some] at hn1'
          rw [hn1', Option.bind_some]
          simp only [g1, g2, if_false, Option.bind_some]
          exact he
    · have hcs : c_Pointer_isPointer_l1 Zd K (some b) st b (f1 + 1) i = c_Pointer_isPointer_l1 Zd K (some b) st b f1 (i + 1) := by
        rw [c_Pointer_isPointer_l1_s]
        simp only [h.is, h.len, Option.bind_some, hz, if_false, hch, hc]
      have hms : m_isPointer_l1 (encU us).1 (encU us).2 (f2 + 1) (1, i) = m_isPointer_l1 (encU us).1 (encU us).2 f2 (1, i + 1) := by
        rw [m_isPointer_l1_s]
        simp only [hml, Option.bind_some, hz, if_false, hmc, hc, h10]
        have hn1' := hn1
        simp only [Option.bind_some] at hn1'
        rw [hn1', Option.bind_some]
      rw [hcs, hms]
      rcases ih1 with ⟨v, e, i1, i2, i3⟩ | i1
      · refine Or.inl ⟨v, e, i1, i2, fun j x1 x2 x3 => ?_⟩
        by_cases ej : j = j0
        · subst ej; exact absurd x3 hc
        · exact i3 j (by omega) x2 x3
      · exact Or.inr i1
theorem ptr_lock (h : Pt K st b us) : ∃ x, c_Pointer_isPointer Zd K (some b) st = some x ∧ m_isPointer (encU us).1 (encU us).2 = some x ∧ (x = 0 ∨ (x = 1 ∧ ptr us)) := by
  have N := nums
  have h10 : ¬ ((1 : Int32) = 0) := by decide
  obtain ⟨hok, hle⟩ := h.ok
  have hml := enc_len hok hle
  have hni := ofNat_i (n := us.length) (by omega)
  by_cases h0 : us.length = 0
  · have hz : Int32.ofNat us.length = 0 := by rw [h0]; rfl
    rcases isp_l (Zd := Zd) h 0 4096 4096 0 (by rw [N.1]; omega) (by decide) (by decide) (by decide) with ⟨v, e, i1, i2, -⟩ | ⟨e, i1, i2⟩
    · refine ⟨1, ?_, ?_, Or.inr ⟨rfl, Or.inl (List.length_eq_zero_iff.mp h0)⟩⟩
      · simp only [c_Pointer_isPointer, Option.bind_some, h.is, h.emp, h0, if_true, h10, if_false]
      · simp only [m_isPointer, hml, Option.bind_some, hz, if_true, i2, bz]; rfl
    · obtain ⟨f, hf⟩ : ∃ f, (4096 : Nat) = f + 1 := ⟨4095, rfl⟩
      rw [hf, m_isPointer_l1_s] at i2
      simp only [hml, Option.bind_some, show Int32.ofNat us.length ≤ 0 from by rw [hz]; decide, if_true] at i2
      exact absurd (congrArg Prod.fst (Option.some.inj i2)) h10
  · have hz : ¬ Int32.ofNat us.length = 0 := fun e => by have : (Int32.ofNat us.length).toInt = (0 : Int32).toInt := by rw [e]
                                                         rw [N.1] at this; omega
    have hch := h.chr (Zd := Zd) (i := 0) (by decide) (by rw [N.1]; omega)
    rw [show (0 : Int32).toInt.toNat = 0 from by decide] at hch
    have hmc := enc_chr hok hle (i := 0) (j := 0) (by decide) (by omega)
    by_cases hs : us.getD 0 0 = 47
    · rcases isp_l (Zd := Zd) h us.length 4096 4096 0 (by rw [N.1]; omega) (by decide) (by omega) (by omega) with ⟨v, e, i1, i2, i3⟩ | ⟨e, i1, i2⟩
      · refine ⟨1, ?_, ?_, Or.inr ⟨rfl, Or.inr ⟨hs, fun j hj => i3 j (by rw [N.1]; omega) hj⟩⟩⟩
        · simp only [c_Pointer_isPointer, Option.bind_some, h.is, h.emp, h0, if_true, if_false, hch, hs, i1]
        · simp only [m_isPointer, hml, Option.bind_some, hz, if_false, hmc, hs, if_true, i2, bz]; rfl
      · refine ⟨0, ?_, ?_, Or.inl rfl⟩
        · simp only [c_Pointer_isPointer, Option.bind_some, h.is, h.emp, h0, if_true, if_false, hch, hs, i1]
        · simp only [m_isPointer, hml, Option.bind_some, hz, if_false, hmc, hs, if_true, i2, bz]; rfl
    · obtain ⟨e, he⟩ := m_isp0 (x := (encU us).1) (y := (encU us).2) hml hle (fun i9 j9 e1 e2 => ⟨_, enc_chr hok hle e1 e2⟩) us.length 4096 0 (by rw [N.1]; omega) (by decide) (by omega)
      refine ⟨0, ?_, ?_, Or.inl rfl⟩
      · simp only [c_Pointer_isPointer, Option.bind_some, h.is, h.emp, h0, if_true, if_false, hch, hs]
      · simp only [m_isPointer, hml, Option.bind_some, hz, if_false, hmc, hs, he, bz]; rfl
theorem ls_l (h : Pt K st b us) : ∀ (m f1 f2 : Nat) (s i : Int32), i.toInt + m = us.length → 0 ≤ i.toInt → m < f1 → m < f2 → 0 ≤ s.toInt → s.toInt < us.length → us.getD s.toInt.toNat 0 = 47 → (∀ j : Nat, s.toInt < j → j < i.toInt → ¬ us.getD j 0 = 47) → ∃ x e, c_Pointer_lastSlash_l1 Zd K (some b) st f1 (s, i) = some (x, e) ∧ m_lastSlash_l1 (encU us).1 (encU us).2 f2 (s, i) = some (x, e) ∧ 0 ≤ x.toInt ∧ x.toInt < us.length ∧ us.getD x.toInt.toNat 0 = 47 ∧ ∀ j : Nat, x.toInt < j → j < us.length → ¬ us.getD j 0 = 47 := by
  have N := nums
  obtain ⟨hok, hle⟩ := h.ok
  have hml := enc_len hok hle
  have hni := ofNat_i (n := us.length) (by omega)
  intro m
  induction m with
  | zero =>
    intro f1 f2 s i hi i0 hf1 hf2 s0 s1 s2 s3
    obtain ⟨f1, rfl⟩ : ∃ g, f1 = g + 1 := ⟨f1 - 1, by omega⟩
    obtain ⟨f2, rfl⟩ : ∃ g, f2 = g + 1 := ⟨f2 - 1, by omega⟩
    have hz : Int32.ofNat us.length ≤ i := i32le.mpr (by omega)
    refine ⟨s, i, ?_, ?_, s0, s1, s2, fun j x1 x2 => s3 j x1 (by omega)⟩
    · rw [c_Pointer_lastSlash_l1_s]
      simp only [h.is, h.len, Option.bind_some, hz, if_true]
    · rw [m_lastSlash_l1_s]
      simp only [hml, Option.bind_some, hz, if_true]
  | succ m ih =>
    intro f1 f2 s i hi i0 hf1 hf2 s0 s1 s2 s3
    obtain ⟨f1, rfl⟩ : ∃ g, f1 = g + 1 := ⟨f1 - 1, by omega⟩
    obtain ⟨f2, rfl⟩ : ∃ g, f2 = g + 1 := ⟨f2 - 1, by omega⟩
    obtain ⟨j0, hj0⟩ : ∃ j0 : Nat, i.toInt = j0 := ⟨i.toInt.toNat, by omega⟩
    have k1 : (i + 1).toInt = i.toInt + 1 := by rw [i32add (by omega) (by omega)]; omega
    have hz : ¬ Int32.ofNat us.length ≤ i := fun e9 => by have := i32le.mp e9; omega
    have hch := h.chr (Zd := Zd) i0 (by omega)
    have hmc := enc_chr hok hle hj0 (by omega)
    rw [show i.toInt.toNat = j0 by omega] at hch
    by_cases hc : us.getD j0 0 = 47
    · obtain ⟨x, e, i1, i2, i3⟩ := ih f1 f2 i (i + 1) (by omega) (by omega) (by omega) (by omega) i0 (by omega) (by rw [show i.toInt.toNat = j0 by omega]; exact hc) (fun j x1 x2 => by omega)
      refine ⟨x, e, ?_, ?_, i3⟩
      · rw [c_Pointer_lastSlash_l1_s]
        simp only [h.is, h.len, Option.bind_some, hz, if_false, hch, hc, if_true]
        exact i1
      · rw [m_lastSlash_l1_s]
        simp only [hml, Option.bind_some, hz, if_false, hmc, hc, if_true]
        exact i2
    · obtain ⟨x, e, i1, i2, i3⟩ := ih f1 f2 s (i + 1) (by omega) (by omega) (by omega) (by omega) s0 s1 s2 (fun j x1 x2 => by
        by_cases ej : j = j0
        · rw [ej]; exact hc
        · exact s3 j x1 (by omega))
      refine ⟨x, e, ?_, ?_, i3⟩
      · rw [c_Pointer_lastSlash_l1_s]
        simp only [h.is, h.len, Option.bind_some, hz, if_false, hch, hc]
        exact i1
      · rw [m_lastSlash_l1_s]
        simp only [hml, Option.bind_some, hz, if_false, hmc, hc]
        exact i2
theorem slash_lock (h : Pt K st b us) (hp : ptr us) (h0 : us.length ≠ 0) : ∃ x, c_Pointer_lastSlash Zd K (some b) st = some x ∧ m_lastSlash (encU us).1 (encU us).2 = some x ∧ 0 ≤ x.toInt ∧ x.toInt < us.length ∧ us.getD x.toInt.toNat 0 = 47 ∧ ∀ j : Nat, x.toInt < j → j < us.length → ¬ us.getD j 0 = 47 := by
  have N := nums
  have h10 := h.ok.2
  have hs : us.getD 0 0 = 47 := by
    rcases hp with e | e
    · exact absurd (by rw [e]; rfl) h0
    · exact e.1
  obtain ⟨x, e, i1, i2, i3⟩ := ls_l (Zd := Zd) h us.length 4096 4096 0 0 (by rw [N.1]; omega) (by decide) (by omega) (by omega) (by decide) (by rw [N.1]; omega) (by rw [show (0 : Int32).toInt.toNat = 0 from by decide]; exact hs) (fun j x1 x2 => by omega)
  exact ⟨x, by simp only [c_Pointer_lastSlash, i1, Option.bind_some], by simp only [m_lastSlash, i2, Option.bind_some], i3⟩
end PTR
