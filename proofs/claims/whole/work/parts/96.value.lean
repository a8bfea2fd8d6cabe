/-! A value read: class and model; plain values. -/
def kI3 (I I1 : Nat → Int32) : Prop := ∀ k, k ≠ 1 → k ≠ 2 → k ≠ 3 → k ≠ 14 → k ≠ 15 → I1 k = I k
theorem kI3.tr {I I1 I2 : Nat → Int32} (h : kI3 I I1) (h1 : kI3 I1 I2) : kI3 I I2 := fun k a b c d e => (h1 k a b c d e).trans (h k a b c d e)
theorem kI.k3 {I I1 : Nat → Int32} (h : kI I I1) : kI3 I I1 := fun k a b _ d e => h k a b d e
theorem kI3.v (I : Nat → Int32) (x : Int32) : kI3 I (upd I 3 x) := fun _ _ _ a _ _ => upd_ne a
/-- a digit stands where none may stand -/
def Pq (I : Nat → Int32) (A : Nat → Nat → Int32) (ms : MS) : Prop := I 2 = -1 ∧ (0 ≤ (I 1).toInt ∧ (I 1).toInt ≤ 80 ∧ (I 0).toInt ≤ 80) ∧ isDg (chr (A 0) (I 0) (I 1)) ∧ ms.1 2 = I 1
def VO (Zd : Nat → Nat) (K : KE) (s : CS) (q : Nat → Nat) (cw : Nat) (I : Nat → Int32) (A : Nat → Nat → Int32) (R : Nat → Option Nat) (Q : Nat → Nat → Option Nat) (ms : MS) (d r nn : Nat) (cv : Option (Option Nat × CS)) : Prop :=
  ∃ st1 I1 A1 b ms1 n b2 ms2, m_begins ms = some (b, ms1) ∧ (b = 0 ∨ b = 1) ∧ mrun n b ms1 b2 ms2 ∧ Cx K st1 q cw I1 A1 R Q ∧ le K s st1 ∧ Wq I1 A1 ∧ kI3 I I1 ∧ kA A A1 ∧ lowM (1920 + nn) ms ms2 ∧ st1.1.1 ≤ s.1.1 + 5 * (24 - nn) ∧ st1.1.2 ≤ s.1.2 + 34 * (24 - nn) ∧
    ((∃ a N L, cv = some (some a, st1) ∧ Tw Zd K st1 d N a none L ∧ nmL L = [] ∧ N.Nodup ∧ (∀ x ∈ N, s.1.1 ≤ x) ∧ n + 1 ≤ 2 * L.length ∧ (I1 3).toInt = nn + L.length ∧ (I1 3).toInt ≤ 24 ∧ st1.1.1 + 2 ≤ s.1.1 + 5 * L.length ∧ st1.1.2 + 14 ≤ s.1.2 + 34 * L.length ∧
      ((Tq I1 A1 ms2 ∧ b2 = 0 ∧ I1 3 = ms2.1 3 ∧ ms2.1 4 = ms.1 4 ∧ (∀ k, k < r → ms2.2.2.1 3 k = ms.2.2.1 3 k) ∧ rowIs ms2 (1920 + nn) L ∧ ms2.2.2.2 2 (1920 + nn) = ms.2.2.2 2 (1920 + nn) ∧ ms2.2.2.2 3 (1920 + nn) = ms.2.2.2 3 (1920 + nn)) ∨ Pq I1 A1 ms2)) ∨
     (cv = some (none, st1) ∧ Fq I1 ms2 ∧ (n : Int) ≤ 2 * ((I1 3).toInt - nn) ∧ (I1 3).toInt ≤ 24))
section VALUE
variable {Zd : Nat → Nat} {K : KE} {s s1 : CS} {ms : MS} {q : Nat → Nat} {cw : Nat} {I : Nat → Int32} {A : Nat → Nat → Int32} {R : Nat → Option Nat} {Q : Nat → Nat → Option Nat}
theorem Nv.le (hk : wk K) (hl : le K s s1) {a : Nat} {o num : Int32} {cs ns : List Int32} {fst nx : Option Nat} (h : Nv Zd K s a o num cs ns fst nx) : Nv Zd K s1 a o num cs ns fst nx := by
  obtain ⟨k, c, n, h1, h2, h3, h4⟩ := h
  exact ⟨k, c, n, le_ob hk hl h1, h2, hl.str h3, hl.str h4⟩
theorem Tw.le (hk : wk K) (hl : le K s s1) : ∀ (d : Nat) (N : List Nat) (a : Nat) (nx : Option Nat) (L : List Nd), Tw Zd K s d N a nx L → Tw Zd K s1 d N a nx L := by
  intro d
  induction d with
  | zero => intro N a nx L h; exact h.elim
  | succ d ih =>
    rintro N a nx L ⟨o, num, cs, ns, fst, ks, h1, h2, h3, h4, h5, h6⟩
    exact ⟨o, num, cs, ns, fst, ks, h1.le hk hl, Cs.mono ks fst none h2 (fun k hk nx h9 => ih _ _ _ _ h9), h3, h4, h5, h6⟩
theorem Cs.all {f : List Nat → Nat → Option Nat → List Nd → Prop} : ∀ (ks : List Kd) (r e : Option Nat), Cs f r ks e → ∀ k ∈ ks, ∃ nx, f k.1 k.2.1 nx k.2.2 := by
  intro ks
  induction ks with
  | nil => intro r e _ k hk; cases hk
  | cons x ks ih =>
    rintro r e ⟨h1, nx, h2, h3⟩ k hk
    rcases List.mem_cons.mp hk with rfl | h9
    · exact ⟨nx, h2⟩
    · exact ih nx e h3 k h9
theorem Tw.dom : ∀ (d : Nat) (N : List Nat) (a : Nat) (nx : Option Nat) (L : List Nd), Tw Zd K s d N a nx L → ∀ x ∈ N, x ∈ s.2.1 := by
  intro d
  induction d with
  | zero => intro N a nx L h; exact h.elim
  | succ d ih =>
    rintro N a nx L ⟨o, num, cs, ns, fst, ks, ⟨k, c, n, h1, -⟩, h2, h3, h4, h5, h6⟩ x hx
    rw [h5] at hx
    rcases List.mem_cons.mp hx with rfl | h9
    · exact h1.1
    · obtain ⟨M, hM, hxM⟩ := List.mem_flatten.mp h9
      obtain ⟨y, hy, rfl⟩ := List.mem_map.mp hM
      obtain ⟨nx2, h8⟩ := Cs.all ks fst none h2 y hy
      exact ih _ _ _ _ h8 x hxM
theorem Cs.dom {d : Nat} {ks : List Kd} {r e : Option Nat} (h : Cs (Tw Zd K s d) r ks e) : ∀ x ∈ kN ks, x ∈ s.2.1 := by
  intro x hx
  obtain ⟨M, hM, hxM⟩ := List.mem_flatten.mp hx
  obtain ⟨y, hy, rfl⟩ := List.mem_map.mp hM
  obtain ⟨nx2, h8⟩ := Cs.all ks r e h y hy
  exact Tw.dom d _ _ _ _ h8 x hxM
/-- a plain value -/
theorem leafVO {s19 : CS} {cv : Option (Option Nat × CS)} {nn : Nat} (hT : Tq I A ms) (h3 : I 3 = ms.1 3) (hnn : (I 3).toInt = nn) (hn : nn < 24) (hst : stp K s s19) (h91 : ¬ chr (A 0) (I 0) (I 1) = 91) (h123 : ¬ chr (A 0) (I 0) (I 1) = 123) (hp : plOut Zd K s19 q cw (upd I 3 (I 3 + 1)) A R Q ms cv (m_plain ms)) (d r : Nat) : VO Zd K s q cw I A R Q ms (d + 1) r nn cv := by
  have L := nums
  have N := n48
  obtain ⟨st1, I1, A1, ms1, o, p1, ⟨o0, o5⟩, p2, p3, p4, p5, p6, p7, p8, p9, p10⟩ := hp
  have hn24 : ¬ ms.1 3 = 24 := fun e => by rw [← h3] at e; rw [e] at hnn; omega
  have hm3 : ms1.1 3 = ms.1 3 := p7.1 3 (by decide) (by decide)
  have hnode := node_eq (ms := ms1) (nn := nn) (by rw [hm3, ← h3]; exact hnn) (by omega) o0 (by omega) (ms1.2.1 0) (ms1.2.1 1)
  have hb : m_begins ms = some (0, (upd ms1.1 3 (ms1.1 3 + 1), ms1.2.1, va_up (va_up ms1.2.2.1 1 (upd (ms1.2.2.1 1) (1920 + nn) o)) 2 (upd (ms1.2.2.1 2) (1920 + nn) 1), va_up (va_up ms1.2.2.2 0 (vp_updL (ms1.2.2.2 0) (1920 + nn) (ms1.2.1 0))) 1 (vp_updL (ms1.2.2.2 1) (1920 + nn) (ms1.2.1 1)))) := by
    simp only [m_begins, hn24, if_false, m_sees_q hT, h91, h123, Option.bind_some, if_true, p1, hnode]
  have k1 : (I 3 + 1).toInt = (I 3).toInt + 1 := by rw [i32add (by omega) (by omega)]; omega
  have hI3 : I1 3 = I 3 + 1 := p5 3 (by decide) (by decide) (by decide) (by decide)
  refine ⟨st1, I1, A1, 0, _, 0, 0, _, hb, Or.inl rfl, mrun.zero _ _, p2, hst.1.tr p3, p4, (kI3.v _ _).tr p5.k3, p6, (p7.low _).tr (lowM.node ms1 (1920 + nn) o (ms1.1 3 + 1) _ _), by rw [hst.2] at p8; omega, by rw [hst.2] at p9; omega, ?_⟩
  rcases p10 with ⟨a, num, cs, e1, e2, e3, e4, e5, e6⟩ | ⟨e1, e2⟩
  · left
    refine ⟨a, [a], [(o, 1, num, cs, [])], e1, e3.leaf e5 e4 o5 d, rfl, List.nodup_cons.mpr ⟨(by simp), List.nodup_nil⟩, fun x hx => by rw [List.mem_singleton] at hx; rw [hx, ← hst.2]; exact e2, (by show 0 + 1 ≤ 2 * 1; omega), by rw [hI3, k1, hnn]; rfl, by rw [hI3, k1, hnn]; omega, by rw [hst.2] at p8; show st1.1.1 + 2 ≤ s.1.1 + 5 * 1; omega, by rw [hst.2] at p9; show st1.1.2 + 14 ≤ s.1.2 + 34 * 1; omega, ?_⟩
    rcases e6 with ⟨e6, e7, e8⟩ | e6
    · left
      refine ⟨e6, rfl, ?_, p7.1 4 (by decide) (by decide), fun k _ => ?_, ?_, ?_, ?_⟩
      · show I1 3 = ms1.1 3 + 1
        rw [hI3, hm3, h3]
      · show ms1.2.2.1 3 k = _
        rw [p7.2.1]
      · rw [rowIs_iff]
        refine ⟨⟨?_, ?_, ?_, ?_⟩, rowF_nil _ _⟩
        · dsimp only
          rw [va_up_ne _ _ (by decide), va_up_self, upd_self]
        · dsimp only
          rw [va_up_self, upd_self]
          rfl
        · dsimp only
          rw [va_up_ne _ _ (by decide), va_up_self, updL_self, e7]
        · dsimp only
          rw [va_up_self, updL_self, e8]
      · show ms1.2.2.2 2 _ = _
        rw [p7.2.2]
      · show ms1.2.2.2 3 _ = _
        rw [p7.2.2]
    · exact Or.inr e6
  · right
    refine ⟨e1, e2, ?_, by rw [hI3, k1, hnn]; omega⟩
    rw [hI3, k1, hnn]
    omega
end VALUE
/-! the model's turns -/
def mNm (arr : Int32) (e51 : MS) : Option MS := if arr = (0 : Int32) then (if (0 : Int32) ≤ (e51.1 2) then (some e51) else ((m_memberName e51).bind fun st66 => some st66)) else ((m_named (0 : Int64) (0 : Int64) e51).bind fun st69 => some st69)
def mBg (e54 : MS) : Option (Int32 × MS) := if (0 : Int32) ≤ (e54.1 2) then (some ((0 : Int32), e54)) else ((m_begins e54).bind fun r62 => if r62.1 = (0 : Int32) then (some ((0 : Int32), r62.2)) else (some ((1 : Int32), r62.2)))
/-- a turn that begins a part -/
theorem mrun.part {b : Int32} {ms st32 e51 e54 : MS} {x34 cl arr : Int32} {y : Int32 × MS} (hb : ms.1 2 = -1) (hl : 0 < (ms.1 4).toInt) (h1 : m_blanks ms = some st32) (h2 : m_holder st32 = some x34) (h3 : (if x34 = (5 : Int32) then (some (1 : Int32)) else (some (0 : Int32))) = some arr) (h4 : (if arr = (0 : Int32) then (some (125 : Int32)) else (some (93 : Int32))) = some cl) (h5 : m_sees cl st32 = some 0) (h6 : (if b = (0 : Int32) then ((m_must (44 : Int32) st32).bind fun st72 => (m_blanks st72).bind fun st75 => some st75) else (some st32)) = some e51) (h7 : mNm arr e51 = some e54) (h8 : mBg e54 = some y) : mrun 1 b ms y.1 y.2 := by
  intro f t t0 t1
  have k1 : (t + 1).toInt = t.toInt + 1 := by rw [i32add (by have := nums; omega) (by have := nums; omega)]; have := nums; omega
  have e1 : ¬ (200 : Int32) ≤ t := fun e => by have := i32le.mp e; rw [show (200 : Int32).toInt = 200 from by decide] at this; omega
  have e2 : (0 : Int32) < ms.1 4 := i32lt.mpr (by have := nums; omega)
  refine ⟨t + 1, by rw [k1]; rfl, ?_⟩
  unfold mNm at h7
  unfold mBg at h8
  rw [m_readValue_l1_s]
  simp only [e1, if_false, hb, neg1, e2, if_true, h1, Option.bind_some, h2, h3, h4, h5, h6, h7, h8]
theorem mrun.ends {b : Int32} {ms st32 e : MS} {x34 cl arr : Int32} (hb : ms.1 2 = -1) (hl : 0 < (ms.1 4).toInt) (h1 : m_blanks ms = some st32) (h2 : m_holder st32 = some x34) (h3 : (if x34 = (5 : Int32) then (some (1 : Int32)) else (some (0 : Int32))) = some arr) (h4 : (if arr = (0 : Int32) then (some (125 : Int32)) else (some (93 : Int32))) = some cl) (h5 : m_sees cl st32 = some 1) (h6 : m_ends st32 = some e) : mrun 1 b ms 0 e := by
  intro f t t0 t1
  have k1 : (t + 1).toInt = t.toInt + 1 := by rw [i32add (by have := nums; omega) (by have := nums; omega)]; have := nums; omega
  have e1 : ¬ (200 : Int32) ≤ t := fun e => by have := i32le.mp e; rw [show (200 : Int32).toInt = 200 from by decide] at this; omega
  have e2 : (0 : Int32) < ms.1 4 := i32lt.mpr (by have := nums; omega)
  refine ⟨t + 1, by rw [k1]; rfl, ?_⟩
  rw [m_readValue_l1_s]
  simp only [e1, if_false, hb, neg1, e2, if_true, h1, Option.bind_some, h2, h3, h4, h5, show ¬ ((1 : Int32) = 0) from by decide, h6]
