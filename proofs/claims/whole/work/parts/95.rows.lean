/-! The model's rows: nodes one behind the other. -/
def hdF (ms : MS) (j : Nat) (x : Nd) : Prop := ms.2.2.1 1 j = x.1 ∧ ms.2.2.1 2 j = Int32.ofNat x.2.1 ∧ ms.2.2.2 0 j = payA x ∧ ms.2.2.2 1 j = payB x
def rowF (ms : MS) (b : Nat) (L : List Nd) : Prop := ∀ i x, L[i]? = some x → hdF ms (b + i) x ∧ (ms.2.2.2 2 (b + i), ms.2.2.2 3 (b + i)) = enc x.2.2.2.2
theorem rowF_nil (ms : MS) (b : Nat) : rowF ms b [] := fun i x h => by cases h
theorem rowF_app {ms : MS} {b : Nat} {xs ys : List Nd} : rowF ms b (xs ++ ys) ↔ rowF ms b xs ∧ rowF ms (b + xs.length) ys := by
  constructor
  · intro h
    refine ⟨fun i x hx => h i x ?_, fun i x hx => ?_⟩
    · rw [List.getElem?_append_left]
      · exact hx
      · rcases Nat.lt_or_ge i xs.length with h9 | h9
        · exact h9
        · rw [List.getElem?_eq_none h9] at hx; cases hx
    · have h9 := h (xs.length + i) x (by rw [List.getElem?_append_right (by omega)]; rw [show xs.length + i - xs.length = i by omega]; exact hx)
      rw [← Nat.add_assoc] at h9
      exact h9
  · rintro ⟨h1, h2⟩ i x hx
    rcases Nat.lt_or_ge i xs.length with h9 | h9
    · rw [List.getElem?_append_left h9] at hx
      exact h1 i x hx
    · rw [List.getElem?_append_right h9] at hx
      have h8 := h2 (i - xs.length) x hx
      rw [show b + xs.length + (i - xs.length) = b + i by omega] at h8
      exact h8
theorem rowF_cons {ms : MS} {b : Nat} {x : Nd} {xs : List Nd} : rowF ms b (x :: xs) ↔ (hdF ms b x ∧ (ms.2.2.2 2 b, ms.2.2.2 3 b) = enc x.2.2.2.2) ∧ rowF ms (b + 1) xs := by
  have h := rowF_app (ms := ms) (b := b) (xs := [x]) (ys := xs)
  rw [show [x] ++ xs = x :: xs from rfl] at h
  rw [h]
  constructor
  · rintro ⟨h1, h2⟩; exact ⟨h1 0 x rfl, h2⟩
  · rintro ⟨h1, h2⟩
    refine ⟨fun i y hy => ?_, h2⟩
    cases i with
    | zero => cases hy; exact h1
    | succ i => cases hy
theorem rowIs_iff {ms : MS} {b : Nat} {x : Nd} {xs : List Nd} : rowIs ms b (x :: xs) ↔ hdF ms b x ∧ rowF ms (b + 1) xs := by
  constructor
  · intro h
    obtain ⟨h1, h2, h3, h4, -⟩ := h 0 x rfl
    refine ⟨⟨h1, h2, h3, h4⟩, fun i y hy => ?_⟩
    obtain ⟨g1, g2, g3, g4, g5⟩ := h (i + 1) y hy
    rw [show b + 1 + i = b + (i + 1) by omega]
    exact ⟨⟨g1, g2, g3, g4⟩, g5 (by omega)⟩
  · rintro ⟨⟨h1, h2, h3, h4⟩, h5⟩ i y hy
    cases i with
    | zero => cases hy; exact ⟨h1, h2, h3, h4, fun h => absurd h (by omega)⟩
    | succ i =>
      obtain ⟨⟨g1, g2, g3, g4⟩, g5⟩ := h5 i y hy
      rw [show b + 1 + i = b + (i + 1) by omega] at g1 g2 g3 g4 g5
      exact ⟨g1, g2, g3, g4, fun _ => g5⟩
/-- a part's row with its name -/
theorem rowF_of {ms : MS} {b : Nat} {L : List Nd} (hL : okL L) : rowF ms b L ↔ rowIs ms b L ∧ (ms.2.2.2 2 b, ms.2.2.2 3 b) = enc (nmL L) := by
  obtain ⟨⟨x, xs, rfl, -⟩, -⟩ := hL
  rw [rowF_cons, rowIs_iff]
  constructor
  · rintro ⟨⟨h1, h2⟩, h3⟩; exact ⟨⟨h1, h3⟩, h2⟩
  · rintro ⟨⟨h1, h3⟩, h2⟩; exact ⟨⟨h1, h2⟩, h3⟩
theorem rowF.keep {ms ms2 : MS} {b : Nat} {L : List Nd} (h : rowF ms b L) (hk : ∀ j, b ≤ j → j < b + L.length → ms2.2.2.1 1 j = ms.2.2.1 1 j ∧ ms2.2.2.1 2 j = ms.2.2.1 2 j ∧ ∀ k, k < 4 → ms2.2.2.2 k j = ms.2.2.2 k j) : rowF ms2 b L := by
  intro i x hx
  have hi : i < L.length := by
    rcases Nat.lt_or_ge i L.length with h9 | h9
    · exact h9
    · rw [List.getElem?_eq_none h9] at hx; cases hx
  obtain ⟨e1, e2, e3⟩ := hk (b + i) (by omega) (by omega)
  obtain ⟨⟨g1, g2, g3, g4⟩, g5⟩ := h i x hx
  refine ⟨⟨by rw [e1]; exact g1, by rw [e2]; exact g2, by rw [e3 0 (by decide)]; exact g3, by rw [e3 1 (by decide)]; exact g4⟩, ?_⟩
  rw [e3 2 (by decide), e3 3 (by decide)]
  exact g5
theorem rowF.low {c : Nat} {ms ms2 : MS} {b : Nat} {L : List Nd} (h : rowF ms b L) (hl : lowM c ms ms2) (hc : b + L.length ≤ c) : rowF ms2 b L := h.keep (fun j _ h2 => hl.2.2.2 j (by omega))
theorem lg0 {x y : Int64} : (lg_cmp x y = 0) = (x = y) := by
  apply propext
  unfold lg_cmp
  constructor
  · intro h
    by_cases h1 : x > y
    · rw [if_pos h1] at h; exact absurd h (by decide)
    · rw [if_neg h1] at h
      by_cases h2 : x = y
      · exact h2
      · rw [if_neg h2] at h; exact absurd h (by decide)
  · intro h
    subst h
    rw [if_neg Int64.lt_irrefl, if_pos rfl]
/-- the last part of that name -/
def fdR (x : Int64 × Int64) : Nat → List (List Nd) → Int32 → Int32
  | _, [], acc => acc
  | p, L :: Ls, acc => fdR x (p + L.length) Ls (if enc (nmL L) = x then Int32.ofNat p else acc)
theorem fdR_none {x : Int64 × Int64} : ∀ (Ls : List (List Nd)) (p : Nat) (acc : Int32), (∀ L ∈ Ls, enc (nmL L) ≠ x) → fdR x p Ls acc = acc := by
  intro Ls
  induction Ls with
  | nil => intro p acc _; rfl
  | cons L Ls ih =>
    intro p acc h
    show fdR x (p + L.length) Ls (if enc (nmL L) = x then Int32.ofNat p else acc) = acc
    rw [if_neg (h L List.mem_cons_self), ih _ _ (fun M hM => h M (List.mem_cons_of_mem _ hM))]
theorem fdR_some {x : Int64 × Int64} : ∀ (Ls : List (List Nd)) (p : Nat) (acc : Int32), p + Ls.flatten.length < 2147483648 → (0 ≤ acc.toInt ∨ ∃ L ∈ Ls, enc (nmL L) = x) → 0 ≤ (fdR x p Ls acc).toInt := by
  intro Ls
  induction Ls with
  | nil =>
    intro p acc _ h
    rcases h with h | ⟨L, h, -⟩
    · exact h
    · cases h
  | cons L Ls ih =>
    intro p acc hp h
    rw [List.flatten_cons, List.length_append] at hp
    refine ih (p + L.length) _ (by omega) ?_
    by_cases e : enc (nmL L) = x
    · left
      rw [if_pos e, ofNat_i (by omega)]
      omega
    · rw [if_neg e]
      rcases h with h | ⟨M, h1, h2⟩
      · exact Or.inl h
      · right
        rcases List.mem_cons.mp h1 with h9 | h9
        · subst h9; exact absurd h2 e
        · exact ⟨M, h9, h2⟩
theorem member_m {ms : MS} {ob9 : Int32} {base E : Nat} {x y : Int64} (hob : ob9.toInt = base) (hsp : (ms.2.2.1 2 base).toInt = (E : Int) - base) (hE : E ≤ 2100) (hbE : base < E) : ∀ (Ls : List (List Nd)) (p fuel : Nat) (c acc : Int32), c.toInt = p → rowF ms p Ls.flatten → (∀ L ∈ Ls, okL L) → p + Ls.flatten.length = E → Ls.length < fuel → ∃ c2, m_member_l1 ob9 x y ms fuel (acc, c) = some (fdR (x, y) p Ls acc, c2) := by
  have L0 := nums
  have hbt : ob9.toNatClampNeg = base := by rw [tnn]; omega
  have hbi : vp_in ob9 2100 := vp_of (by omega) (by omega)
  have hend : (ob9 + ms.2.2.1 2 base).toInt = E := by rw [i32add (by omega) (by omega)]; omega
  intro Ls
  induction Ls with
  | nil =>
    intro p fuel c acc hc hr hok hpE hf
    obtain ⟨g, rfl⟩ : ∃ g, fuel = g + 1 := ⟨fuel - 1, by omega⟩
    have hpe : p = E := by simpa using hpE
    have hle : ob9 + ms.2.2.1 2 base ≤ c := i32le.mpr (by omega)
    refine ⟨c, ?_⟩
    rw [m_member_l1_s]
    simp only [rd_in hbi, Option.bind_some, hbt, hle, if_true]
    rfl
  | cons L Ls ih =>
    intro p fuel c acc hc hr hok hpE hf
    obtain ⟨g, rfl⟩ : ∃ g, fuel = g + 1 := ⟨fuel - 1, by omega⟩
    have hL := hok L List.mem_cons_self
    rw [List.flatten_cons, List.length_append] at hpE
    rw [List.flatten_cons, rowF_app] at hr
    obtain ⟨hr1, hr2⟩ := hr
    have hr1b := (rowF_of hL).mp hr1
    obtain ⟨⟨z, zs, hz, hzs⟩, hok9⟩ := hL
    have hLpos : 1 ≤ L.length := by rw [hz]; simp
    have hhd : hdF ms p z := by
      have := hr1
      rw [hz, rowF_cons] at this
      exact this.1.1
    have hspz : (ms.2.2.1 2 p).toInt = L.length := by rw [hhd.2.1, hzs, ofNat_i (by omega)]
    have hle : ¬ ob9 + ms.2.2.1 2 base ≤ c := fun e => by have := i32le.mp e; omega
    have hct : c.toNatClampNeg = p := by rw [tnn]; omega
    have hci : vp_in c 2100 := vp_of (by omega) (by omega)
    have hcs : (c + ms.2.2.1 2 p).toInt = (p + L.length : Nat) := by rw [i32add (by omega) (by omega)]; omega
    have hl9 : (L :: Ls).length = Ls.length + 1 := rfl
    obtain ⟨c2, i1⟩ := ih (p + L.length) g (c + ms.2.2.1 2 p) (if enc (nmL L) = (x, y) then Int32.ofNat p else acc) hcs hr2 (fun M hM => hok M (List.mem_cons_of_mem _ hM)) (by omega) (by omega)
    refine ⟨c2, ?_⟩
    rw [m_member_l1_s]
    simp only [rd_in hbi, Option.bind_some, hbt, hle, if_false, rd_in hci, hct, lg0]
    have hcp : c = Int32.ofNat p := i32eq (by rw [ofNat_i (by omega), hc])
    have hgo : ∀ acc9 : Int32, acc9 = (if enc (nmL L) = (x, y) then Int32.ofNat p else acc) → m_member_l1 ob9 x y ms g (acc9, c + ms.2.2.1 2 p) = some (fdR (x, y) p (L :: Ls) acc, c2) := fun acc9 e => by rw [e]; exact i1
    rw [← hr1b.2] at hgo
    by_cases e1 : ms.2.2.2 2 p = x
    · by_cases e2 : ms.2.2.2 3 p = y
      · simp only [e1, e2, if_true, Option.bind_some]
        exact hgo c (by rw [if_pos (by rw [e1, e2])]; exact hcp)
      · simp only [e1, e2, if_true, if_false, Option.bind_some]
        exact hgo acc (by rw [if_neg (fun e => e2 (congrArg (fun v => v.2) e))])
    · simp only [e1, if_false, Option.bind_some]
      exact hgo acc (by rw [if_neg (fun e => e1 (congrArg (fun v => v.1) e))])
theorem member_ok {ms : MS} {ob9 : Int32} {base : Nat} {Ls : List (List Nd)} (hob : ob9.toInt = base) (hsp : (ms.2.2.1 2 base).toInt = 1 + Ls.flatten.length) (hE : base + 1 + Ls.flatten.length ≤ 2100) (hr : rowF ms (base + 1) Ls.flatten) (hok : ∀ L ∈ Ls, okL L) (hl : Ls.length < 4096) (x y : Int64) : m_member ob9 x y ms = some (fdR (x, y) (base + 1) Ls (-1)) := by
  have L := nums
  have k1 : (ob9 + 1).toInt = (base + 1 : Nat) := by rw [i32add (by omega) (by omega)]; omega
  obtain ⟨c2, h⟩ := member_m (E := base + 1 + Ls.flatten.length) (x := x) (y := y) hob (by rw [hsp]; omega) hE (by omega) Ls (base + 1) 4096 (ob9 + 1) (-1) k1 hr hok rfl hl
  simp only [m_member, Option.bind_some, h]
section SKIP
variable {Zd : Nat → Nat} {K : KE} {st : CS} {ms : MS} {q : Nat → Nat} {cw : Nat} {I : Nat → Int32} {A : Nat → Nat → Int32} {R : Nat → Option Nat} {Q : Nat → Nat → Option Nat}
theorem c_skip_id (h : Cx K st q cw I A R Q) (h0 : 0 ≤ (I 1).toInt) (h8 : (I 0).toInt ≤ 80) (hb : ¬ isBl (chr (A 0) (I 0) (I 1))) : c_Text_skipBlanks Zd K (q 1) st = some st := by
  have hch := c_here (Zd := Zd) h h0 h8
  have b1 : ¬ chr (A 0) (I 0) (I 1) = 32 := fun e9 => hb (Or.inl e9)
  have b2 : ¬ chr (A 0) (I 0) (I 1) = 9 := fun e9 => hb (Or.inr (Or.inl e9))
  have b3 : ¬ chr (A 0) (I 0) (I 1) = 10 := fun e9 => hb (Or.inr (Or.inr (Or.inl e9)))
  have b4 : ¬ chr (A 0) (I 0) (I 1) = 13 := fun e9 => hb (Or.inr (Or.inr (Or.inr e9)))
  have hbl : c_Text_isBlank Zd K (chr (A 0) (I 0) (I 1)) st = some 0 := by
    simp only [c_Text_isBlank, b1, b2, b3, b4, if_false, Option.bind_some, bz]
    rfl
  have hl : c_Text_skipBlanks_l1 Zd K (q 1) 4096 st = some st := by
    rw [show (4096 : Nat) = 4095 + 1 from rfl, c_Text_skipBlanks_l1_s]
    simp only [fg_1_3 h.1, fg_1_2 h.1, Option.bind_some]
    by_cases e : I 0 ≤ I 1
    · rw [if_pos e]
    · rw [if_neg e]
      simp only [fo_1 h.1, hch, Option.bind_some, hbl, if_true]
  simp only [c_Text_skipBlanks, hl, Option.bind_some]
theorem m_seesB (h : 0 ≤ (ms.1 2).toInt) (c : Int32) : m_sees c ms = some 0 := by
  simp only [m_sees, i32n h, if_true, Option.bind_some]
  rfl
theorem m_blanksB (h : 0 ≤ (ms.1 2).toInt) : m_blanks ms = some ms := by
  have hl : m_blanks_l1 4096 ms = some ms := by
    rw [show (4096 : Nat) = 4095 + 1 from rfl, m_blanks_l1_s]
    simp only [m_seesB h, Option.bind_some, if_true]
  simp only [m_blanks, hl, Option.bind_some]
/-- the parser's count -/
theorem tv (h : Cx K st q cw I A R Q) (x : Int32) : ∃ st1, sF st (q 2) 3 0 (.int x) = some st1 ∧ Cx K st1 q cw (upd I 3 x) A R Q ∧ stp K st st1 := by
  obtain ⟨hF, hw, hz⟩ := h
  obtain ⟨s1, e1, f1, hF1⟩ := fw_2_0 hF x
  exact ⟨s1, e1, ⟨hF1, by rw [f1]; exact hw, by rw [f1]; exact nb_Rz hz (hF.fl (i := 2) rfl).1 (hF.fl (i := 2) rfl).2 rfl rfl⟩, by rw [f1]; exact nb_le hz (hF.fl (i := 2) rfl).1 (hF.fl (i := 2) rfl).2 rfl, by rw [f1]; rfl⟩
end SKIP
