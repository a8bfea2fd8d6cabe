/-! A path's way through a document: class and model. -/
def wlk (L : List Nd) (us : List Int32) : Nat → Nat → Nat → Nat → Option Nat
  | 0, _, _, _ => none
  | f + 1, i, k, e => if e ≤ k then some i else match kidAt L i (tkn us (k + 1) (nxt us 16 (k + 1))) with
    | none => none
    | some j => wlk L us f j (nxt us 16 (k + 1)) e
theorem nxt_ok {us : List Int32} : ∀ (f k : Nat), us.length ≤ k + f → k ≤ us.length → k ≤ nxt us f k ∧ nxt us f k ≤ us.length ∧ (nxt us f k = us.length ∨ us.getD (nxt us f k) 0 = 47) ∧ ∀ j, k ≤ j → j < nxt us f k → ¬ us.getD j 0 = 47 := by
  intro f
  induction f with
  | zero =>
    intro k h hk
    have : k = us.length := by omega
    exact ⟨Nat.le_refl _, hk, Or.inl this, fun j h1 h2 => by have : j < k := h2; omega⟩
  | succ f ih =>
    intro k h hk
    unfold nxt
    by_cases c : k < us.length
    · rw [if_pos c]
      by_cases c2 : us.getD k 0 = 47
      · rw [if_pos c2]
        exact ⟨Nat.le_refl _, hk, Or.inr c2, fun j h1 h2 => by omega⟩
      · rw [if_neg c2]
        obtain ⟨i1, i2, i3, i4⟩ := ih (k + 1) (by omega) (by omega)
        refine ⟨by omega, i2, i3, fun j h1 h2 => ?_⟩
        by_cases ej : j = k
        · rw [ej]; exact c2
        · exact i4 j (by omega) h2
    · rw [if_neg c]
      exact ⟨Nat.le_refl _, hk, Or.inl (by omega), fun j h1 h2 => by omega⟩
/-- the whole way: to the last slash, and a step more -/
theorem wlk_last {L : List Nd} {us : List Int32} {sl : Nat} (hl : us.length ≤ 10) (h1 : sl < us.length) (h47 : us.getD sl 0 = 47) (hlast : ∀ j, sl < j → j < us.length → ¬ us.getD j 0 = 47) : ∀ (f i k : Nat), k ≤ sl → us.length - k < f → wlk L us f i k us.length = (wlk L us f i k sl).bind fun h => kidAt L h (tkn us (sl + 1) us.length) := by
  intro f
  induction f with
  | zero => intro i k hk hf; omega
  | succ f ih =>
    intro i k hk hf
    obtain ⟨n1, n2, n3, n4⟩ := nxt_ok 16 (k + 1) (by omega) (show k + 1 ≤ us.length by omega)
    unfold wlk
    rw [if_neg (by omega)]
    by_cases c : sl ≤ k
    · have hks : k = sl := by omega
      subst hks
      rw [if_pos c]
      have hnx : nxt us 16 (k + 1) = us.length := by
        rcases n3 with e | e
        · exact e
        · rcases Nat.lt_or_ge (nxt us 16 (k + 1)) us.length with h9 | h9
          · exact absurd e (hlast _ (by omega) h9)
          · omega
      rw [hnx]
      show _ = kidAt L i (tkn us (k + 1) us.length)
      cases hkd : kidAt L i (tkn us (k + 1) us.length) with
      | none => rfl
      | some j =>
        obtain ⟨g, rfl⟩ : ∃ g, f = g + 1 := ⟨f - 1, by omega⟩
        show wlk L us (g + 1) j us.length us.length = some j
        unfold wlk
        rw [if_pos (Nat.le_refl _)]
    · rw [if_neg c]
      have hnx : nxt us 16 (k + 1) ≤ sl := by
        rcases Nat.lt_or_ge sl (nxt us 16 (k + 1)) with h9 | h9
        · exact absurd h47 (n4 sl (by omega) h9)
        · exact h9
      cases hkd : kidAt L i (tkn us (k + 1) (nxt us 16 (k + 1))) with
      | none => rfl
      | some j => exact ih j _ hnx (by omega)
section LEAD
variable {Zd : Nat → Nat} {K : KE} {st : CS} {q : Nat → Nat} {cw : Nat} {R : Nat → Option Nat} {Q : Nat → Nat → Option Nat} {b : Nat} {us : List Int32}
/-- characters that are no slash are passed over -/
theorem lead_skip {sk : CS} (h : Pt K sk b us) {e : Nat} (he : e ≤ us.length) {a2 : Int32} (ha2 : a2.toInt = e) {o p : Nat} {x1 : Int32} : ∀ (m n f : Nat) (nI : Int32), nI.toInt = n → n + m ≤ e → (∀ j, n ≤ j → j < n + m → ¬ us.getD j 0 = 47) → ∃ n2 : Int32, n2.toInt = (n + m : Nat) ∧ c_Pointer_lead_l1 Zd K o (some b) a2 (f + m) (some p, x1, nI, sk) = c_Pointer_lead_l1 Zd K o (some b) a2 f (some p, x1, n2, sk) := by
  have N := nums
  have h10 := h.ok.2
  intro m
  induction m with
  | zero => intro n f nI hn _ _; exact ⟨nI, hn, rfl⟩
  | succ m ih =>
    intro n f nI hn hle hns
    have k1 : (nI + 1).toInt = (n + 1 : Nat) := by rw [i32add (by omega) (by omega)]; omega
    obtain ⟨n2, i1, i2⟩ := ih (n + 1) f (nI + 1) k1 (by omega) (fun j h1 h2 => hns j (by omega) (by omega))
    refine ⟨n2, by rw [i1]; omega, ?_⟩
    rw [← i2, show f + (m + 1) = f + m + 1 by omega, c_Pointer_lead_l1_s]
    have z1 : ¬ a2 < nI := fun e9 => by have := i32lt.mp e9; omega
    have z2 : ¬ nI = a2 := fun e9 => by rw [e9] at hn; omega
    have hch := h.chr (Zd := Zd) (i := nI) (by omega) (by omega)
    rw [show nI.toInt.toNat = n by omega] at hch
    have h47 := hns n (Nat.le_refl _) (by omega)
    simp only [z1, if_false, nl, z2, Option.bind_some, h.is, hch, h47]
/-- one token's way -/
theorem lead_l (hc : kc Zd K) {d : Nat} {N : List Nat} {a : Nat} {nx : Option Nat} {L : List Nd} (hT : Tw Zd K st d N a nx L) (hl : L.length ≤ 24) (h : Pt K st b us) (hp : ptr us) {e : Nat} (he : e ≤ us.length) (hee : e = us.length ∨ us.getD e 0 = 47) {a2 : Int32} (ha2 : a2.toInt = e) : ∀ (m k i p f1 f2 f : Nat) (v x1 x2 : Int32) (sk : CS) (Ik : Nat → Int32) (Ak : Nat → Nat → Int32) (mk : MS), k ≤ e → e - k ≤ m → N[i]? = some p → v.toInt = (1980 + i : Nat) → x1.toInt = (k + 1 : Nat) → x2.toInt = k → e + 1 - k < f1 → m < f2 → m < f → le K st sk → Cx K sk q cw Ik Ak R Q → Wp Ik Ak → rowIs mk 1980 L → sk.1.1 + 2 * m ≤ Zd 6 → sk.1.2 + 14 * m ≤ Zd 7 →
    ∃ s1 I1 A1 ms1 y1 y2 y3, c_Pointer_lead_l1 Zd K (q 10) (some b) a2 f1 (some p, x1, x1, sk) = some ((wlk L us f i k e).bind fun j => N[j]?, y1, y2, s1) ∧ m_walk_l1 (encU us).1 (encU us).2 a2 f2 (v, x2, mk) = some (ci (wlk L us f i k e), y3, ms1) ∧ Cx K s1 q cw I1 A1 R Q ∧ le K sk s1 ∧ s1.1.1 ≤ sk.1.1 + 2 * m ∧ s1.1.2 ≤ sk.1.2 + 14 * m ∧ Wp I1 A1 ∧ pI Ik I1 ∧ pA Ak A1 ∧ ms1.1 = mk.1 ∧ ms1.2.2 = mk.2.2 ∧ ∀ j, wlk L us f i k e = some j → ∃ y, N[j]? = some y := by
  have Nn := nums
  obtain ⟨hok, hle⟩ := h.ok
  intro m
  induction m with
  | zero =>
    intro k i p f1 f2 f v x1 x2 sk Ik Ak mk hk hm hi hv hx1 hx2 hf1 hf2 hf hlk hC hW hrow z6 z7
    obtain ⟨f1, rfl⟩ : ∃ g, f1 = g + 1 := ⟨f1 - 1, by omega⟩
    obtain ⟨f2, rfl⟩ : ∃ g, f2 = g + 1 := ⟨f2 - 1, by omega⟩
    obtain ⟨f, rfl⟩ : ∃ g, f = g + 1 := ⟨f - 1, by omega⟩
    have hwk : wlk L us (f + 1) i k e = some i := by unfold wlk; rw [if_pos (by omega)]
    rw [hwk]
    refine ⟨sk, Ik, Ak, mk, x1, x1, x2, ?_, ?_, hC, le.rf K sk, by omega, by omega, hW, pI.rf _, pA.rf _, rfl, rfl, fun j hj => by cases hj; exact ⟨p, hi⟩⟩
    · have hlt : a2 < x1 := i32lt.mpr (by omega)
      rw [c_Pointer_lead_l1_s, if_pos hlt, Option.bind_some, hi]
    · have hle2 : a2 ≤ x2 := i32le.mpr (by omega)
      rw [m_walk_l1_s, if_pos hle2]
      show some (v, x2, mk) = some (Int32.ofNat (1980 + i), x2, mk)
      rw [show v = Int32.ofNat (1980 + i) from i32eq (by rw [hv, ofNat_i (by have := (List.getElem?_eq_some_iff.mp hi).1; have := Tw.len _ _ _ _ _ hT; omega)])]
  | succ m ih =>
    intro k i p f1 f2 f v x1 x2 sk Ik Ak mk hk hm hi hv hx1 hx2 hf1 hf2 hf hlk hC hW hrow z6 z7
    by_cases hke : k = e
    · obtain ⟨s1, I1, A1, ms1, y1, y2, y3, g1, g2, g3, g4, g5, g6, g7⟩ := ih k i p f1 f2 f v x1 x2 sk Ik Ak mk hk (by omega) hi hv hx1 hx2 hf1 (by omega) (by omega) hlk hC hW hrow (by omega) (by omega)
      exact ⟨s1, I1, A1, ms1, y1, y2, y3, g1, g2, g3, g4, by omega, by omega, g7⟩
    · have hlt : k < e := by omega
      obtain ⟨n1, n2, n3, n4⟩ := nxt_ok 16 (k + 1) (by omega) (show k + 1 ≤ us.length by omega)
      have hnx : nxt us 16 (k + 1) ≤ e := by
        rcases Nat.lt_or_ge e (nxt us 16 (k + 1)) with h9 | h9
        · rcases hee with e8 | e8
          · omega
          · exact absurd e8 (n4 e (by omega) h9)
        · exact h9
      obtain ⟨f, rfl⟩ : ∃ g, f = g + 1 := ⟨f - 1, by omega⟩
      obtain ⟨f2, rfl⟩ : ∃ g, f2 = g + 1 := ⟨f2 - 1, by omega⟩
      have hwk : wlk L us (f + 1) i k e = (match kidAt L i (tkn us (k + 1) (nxt us 16 (k + 1))) with
          | none => none
          | some j => wlk L us f j (nxt us 16 (k + 1)) e) := by
        rw [wlk, if_neg (by omega)]
      generalize nxt us 16 (k + 1) = n at *
      have hPk := h.le hlk
      obtain ⟨f1, rfl⟩ : ∃ g, f1 = g + 1 + (n - (k + 1)) := ⟨f1 - 1 - (n - (k + 1)), by omega⟩
      obtain ⟨nI, hnI, hskip⟩ := lead_skip (Zd := Zd) hPk he ha2 (o := q 10) (p := p) (x1 := x1) (n - (k + 1)) (k + 1) (f1 + 1) x1 hx1 (by omega) (fun j h1 h2 => n4 j h1 (by omega))
      have hnI : nI.toInt = n := by rw [hnI]; omega
      obtain ⟨s1, I1, A1, ms1, tb, t1, t2, t3, t4, t5, t6, t7, t8, t9, t10, t11, t12, t13, t14⟩ := tok_lock (Zd := Zd) (ms := mk) hPk hp hC hW (i := k + 1) (e := n) n2 n3 (by omega) n1 (fun j h1 h2 => n4 j h1 h2) (a1 := x1) (a2 := nI) hx1 hnI (by omega) (by omega)
      have t2 := t2 x2 (i32eq (by rw [i32add (by omega) (by omega), hx1, hx2, Nn.2.1]; omega))
      have hT1 := Tw.le hc.2.2 (hlk.tr t4) _ _ _ _ _ hT
      have hrow1 : rowIs ms1 1980 L := by
        intro i9 x9 h9
        rw [t14]
        exact hrow i9 x9 h9
      obtain ⟨kd, o, k1, k2, k3, k4, k5, k6, k7⟩ := kid_lock hc hT1 hi t7 t9 hrow1 hl t8 hv
      have hz1 : ¬ a2 < nI := fun e9 => by have := i32lt.mp e9; omega
      have hz2 : ¬ a2 ≤ x2 := fun e9 => by have := i32le.mp e9; omega
      have hv0 : ¬ v < 0 := fun e9 => by have := i32lt.mp e9; omega
      have kn : (nI + 1).toInt = (n + 1 : Nat) := by rw [i32add (by omega) (by omega)]; omega
      -- a step of the class
      have hcs : c_Pointer_lead_l1 Zd K (q 10) (some b) a2 (f1 + 1) (some p, x1, nI, sk) = c_Pointer_lead_l1 Zd K (q 10) (some b) a2 f1 ((kidAt L i (tkn us (k + 1) n)).bind fun j => N[j]?, nI + 1, nI + 1, s1) := by
        have hin : ((gQ K s1 p 11 0).bind fun x31 => (if x31 = some (Zd 14) then ((isO K s1 p 11).bind fun _ => (c_Value_member Zd K p (some tb) s1).bind fun x42 => some x42) else ((c_Pointer_index Zd K (some tb) s1).bind fun x36 => (isO K s1 p 11).bind fun _ => (c_Value_element Zd K p x36 s1).bind fun x39 => some x39)).bind fun e32 => some (e32, nI + (1 : Int32), s1)) = some ((kidAt L i (tkn us (k + 1) n)).bind fun j => N[j]?, nI + 1, s1) := by
          by_cases o6 : o = 6
          · simp only [k1, Option.bind_some, k3.mpr o6, if_true, k2, (k6 o6).1]
          · obtain ⟨x, e19, y1, y2, -, -⟩ := k7 o6
            have h14 : ¬ some kd = some (Zd 14) := fun e9 => o6 (k3.mp e9)
            simp only [k1, Option.bind_some, h14, if_false, k2, y1, y2]
        rw [c_Pointer_lead_l1_s]
        by_cases hna : nI = a2
        · subst hna
          simp only [hz1, if_false, nl, if_true, fo_10 hC.1, Option.bind_some, t1]
          rw [hin]
          rfl
        · have hlt2 : n < us.length := by
            have : ¬ n = e := fun e9 => hna (i32eq (by rw [hnI, ha2, e9]))
            omega
          have h47 : us.getD n 0 = 47 := by
            rcases n3 with e8 | e8
            · omega
            · exact e8
          have hch := hPk.chr (Zd := Zd) (i := nI) (by omega) (by omega)
          rw [show nI.toInt.toNat = n by omega, h47] at hch
          simp only [hz1, if_false, nl, hna, if_true, fo_10 hC.1, Option.bind_some, hPk.is, hch, t1]
          rw [hin]
          rfl
      -- a step of the model
      have hms : m_walk_l1 (encU us).1 (encU us).2 a2 (f2 + 1) (v, x2, mk) = m_walk_l1 (encU us).1 (encU us).2 a2 f2 (ci (kidAt L i (tkn us (k + 1) n)), nI, ms1) := by
        rw [m_walk_l1_s]
        by_cases o6 : o = 6
        · simp only [hz2, if_false, hv0, t2, Option.bind_some, k4, o6, show ¬ ((6 : Int32) = 5) from by decide, if_true, (k6 o6).2]
        · obtain ⟨x, e19, -, -, y3, y4⟩ := k7 o6
          simp only [hz2, if_false, hv0, t2, Option.bind_some, k4, o6, y3, y4]
      rw [hskip, hcs, hms, hwk]
      cases hkd : kidAt L i (tkn us (k + 1) n) with
      | none =>
        refine ⟨s1, I1, A1, ms1, nI + 1, nI + 1, nI, ?_, ?_, t3, t4, by omega, by omega, t10, t11, t12, t13, t14, fun j hj => by cases hj⟩
        · obtain ⟨g, rfl⟩ : ∃ g, f1 = g + 1 := ⟨f1 - 1, by omega⟩
          rw [c_Pointer_lead_l1_s]
          show (if a2 < nI + 1 then some (none, nI + 1, nI + 1, s1) else some (none, nI + 1, nI + 1, s1)) = _
          split <;> rfl
        · obtain ⟨g, rfl⟩ : ∃ g, f2 = g + 1 := ⟨f2 - 1, by omega⟩
          rw [m_walk_l1_s]
          show (if a2 ≤ nI then some (ci none, nI, ms1) else (if ci none < (0 : Int32) then some (ci none, nI, ms1) else _)) = some (ci none, nI, ms1)
          by_cases c9 : a2 ≤ nI
          · rw [if_pos c9]
          · rw [if_neg c9, if_pos (by decide)]
      | some j =>
        obtain ⟨y, hy⟩ := k5 j hkd
        have hjl := (List.getElem?_eq_some_iff.mp hy).1
        have hNl := Tw.len _ _ _ _ _ hT
        obtain ⟨s2, I2, A2, ms2, y1, y2, y3, g1, g2, g3, g4, g5, g6, g7, g8, g9, g10, g11, g12⟩ := ih n j y f1 f2 f (Int32.ofNat (1980 + j)) (nI + 1) nI s1 I1 A1 ms1 hnx (by omega) hy (by rw [ofNat_i (by omega)]) kn hnI (by omega) (by omega) (by omega) (hlk.tr t4) t3 t10 hrow1 (by omega) (by omega)
        refine ⟨s2, I2, A2, ms2, y1, y2, y3, ?_, g2, g3, t4.tr g4, by omega, by omega, g7, t11.tr g8, t12.tr g9, g10.trans t13, g11.trans t14, g12⟩
        rw [Option.bind_some, hy]
        exact g1
/-- a path's way from the document to a slash or to its end -/
theorem lead_lock (hc : kc Zd K) {I : Nat → Int32} {A : Nat → Nat → Int32} {ms : MS} {d : Nat} {N : List Nat} {a : Nat} {nx : Option Nat} {L : List Nd} (hT : Tw Zd K st d N a nx L) (hl : L.length ≤ 24) (h : Pt K st b us) (hp : ptr us) (hC : Cx K st q cw I A R Q) (hW : Wp I A) (hrow : rowIs ms 1980 L) {e : Nat} (he : e ≤ us.length) (hee : e = us.length ∨ us.getD e 0 = 47) {a2 : Int32} (ha2 : a2.toInt = e) (z6 : st.1.1 + 20 ≤ Zd 6) (z7 : st.1.2 + 140 ≤ Zd 7) :
    ∃ s1 I1 A1 ms1, c_Pointer_lead Zd K (q 10) (some a) (some b) a2 st = some ((wlk L us 16 0 0 e).bind fun j => N[j]?, s1) ∧ m_walk (encU us).1 (encU us).2 a2 ms = some (ci (wlk L us 16 0 0 e), ms1) ∧ Cx K s1 q cw I1 A1 R Q ∧ le K st s1 ∧ s1.1.1 ≤ st.1.1 + 20 ∧ s1.1.2 ≤ st.1.2 + 140 ∧ Wp I1 A1 ∧ pI I I1 ∧ pA A A1 ∧ ms1.1 = ms.1 ∧ ms1.2.2 = ms.2.2 ∧ ∀ j, wlk L us 16 0 0 e = some j → ∃ y, N[j]? = some y := by
  have h10 := h.ok.2
  obtain ⟨s1, I1, A1, ms1, y1, y2, y3, g1, g2, g3⟩ := lead_l (Zd := Zd) hc hT hl h hp he hee ha2 10 0 0 a 4096 4096 16 1980 1 0 st I A ms (Nat.zero_le _) (by omega) hT.hd (by decide) (by decide) (by decide) (by omega) (by decide) (by decide) (le.rf K st) hC hW hrow z6 z7
  refine ⟨s1, I1, A1, ms1, ?_, ?_, g3⟩
  · simp only [c_Pointer_lead, g1, Option.bind_some]
  · have h81 : m_at 81 = some 1980 := by
      simp only [m_at, show (80 : Int32) ≤ 81 from by decide, if_true, Option.bind_some]
      rfl
    simp only [m_walk, h81, Option.bind_some, g2]
end LEAD
