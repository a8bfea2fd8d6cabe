/-! Trees with the cells that they own; chains of parts. -/
/-- a part: its cells, where it lies, its nodes -/
abbrev Kd : Type := List Nat × Nat × List Nd
def Cs (f : List Nat → Nat → Option Nat → List Nd → Prop) : Option Nat → List Kd → Option Nat → Prop
  | r, [], e => r = e
  | r, k :: ks, e => r = some k.2.1 ∧ ∃ nx, f k.1 k.2.1 nx k.2.2 ∧ Cs f nx ks e
def kL (ks : List Kd) : List (List Nd) := ks.map (fun k => k.2.2)
def kN (ks : List Kd) : List Nat := (ks.map (fun k => k.1)).flatten
theorem kL_app (xs ys : List Kd) : kL (xs ++ ys) = kL xs ++ kL ys := List.map_append
theorem kN_app (xs ys : List Kd) : kN (xs ++ ys) = kN xs ++ kN ys := by
  unfold kN
  rw [List.map_append, List.flatten_append]
theorem kN_cons (x : Kd) (ys : List Kd) : kN (x :: ys) = x.1 ++ kN ys := rfl
theorem kL_cons (x : Kd) (ys : List Kd) : kL (x :: ys) = x.2.2 :: kL ys := rfl
/-- what a cell of a value says -/
def Nv (Zd : Nat → Nat) (K : KE) (s : CS) (a : Nat) (o num : Int32) (cs ns : List Int32) (fst nx : Option Nat) : Prop := ∃ k c n, ob1 s a 11 [.ref k, .int num, .ref c, .ref n, va_rf fst, va_rf nx] ∧ ordK Zd k = some o ∧ strOf K s c = some cs ∧ strOf K s n = some ns
/-- a tree, and the cells that it owns -/
def Tw (Zd : Nat → Nat) (K : KE) (s : CS) : Nat → List Nat → Nat → Option Nat → List Nd → Prop
  | 0 => fun _ _ _ _ => False
  | d + 1 => fun N a nx L => ∃ (o num : Int32) (cs ns : List Int32) (fst : Option Nat) (ks : List Kd), Nv Zd K s a o num cs ns fst nx ∧ Cs (Tw Zd K s d) fst ks none ∧ (ks.length ≤ 64 ∧ (5 ≤ o.toInt → 0 < d)) ∧ okV o num cs ns (kL ks) ∧ N = a :: kN ks ∧ L = (o, 1 + (kL ks).flatten.length, num, cs, ns) :: (kL ks).flatten
theorem Cs.app {f : List Nat → Nat → Option Nat → List Nd → Prop} : ∀ (xs ys : List Kd) (r e : Option Nat), Cs f r (xs ++ ys) e ↔ ∃ m, Cs f r xs m ∧ Cs f m ys e := by
  intro xs
  induction xs with
  | nil =>
    intro ys r e
    constructor
    · intro h; exact ⟨r, rfl, h⟩
    · rintro ⟨m, h1, h2⟩
      have h1 : r = m := h1
      subst h1; exact h2
  | cons x xs ih =>
    intro ys r e
    constructor
    · rintro ⟨h1, nx, h2, h3⟩
      obtain ⟨m, h4, h5⟩ := (ih ys nx e).mp h3
      exact ⟨m, ⟨h1, nx, h2, h4⟩, h5⟩
    · rintro ⟨m, ⟨h1, nx, h2, h3⟩, h4⟩
      exact ⟨h1, nx, h2, (ih ys nx e).mpr ⟨m, h3, h4⟩⟩
theorem Cs.mono {f g : List Nat → Nat → Option Nat → List Nd → Prop} : ∀ (ks : List Kd) (r e : Option Nat), Cs f r ks e → (∀ k ∈ ks, ∀ nx, f k.1 k.2.1 nx k.2.2 → g k.1 k.2.1 nx k.2.2) → Cs g r ks e := by
  intro ks
  induction ks with
  | nil => intro r e h _; exact h
  | cons k ks ih =>
    rintro r e ⟨h1, nx, h2, h3⟩ hf
    exact ⟨h1, nx, hf k List.mem_cons_self nx h2, ih nx e h3 (fun x hx => hf x (List.mem_cons_of_mem _ hx))⟩
/-- the same cells, the same texts -/
def sm (K : KE) (s s1 : CS) (N : List Nat) : Prop := (∀ x ∈ N, x ∈ s.2.1 → x ∈ s1.2.1 ∧ s1.2.2 x = s.2.2 x) ∧ ∀ c cs, strOf K s c = some cs → strOf K s1 c = some cs
section TREE2
variable {Zd : Nat → Nat} {K : KE} {s s1 : CS}
theorem Nv.mono {a : Nat} {o num : Int32} {cs ns : List Int32} {fst nx : Option Nat} (h : Nv Zd K s a o num cs ns fst nx) {N : List Nat} (hs : sm K s s1 N) (ha : a ∈ N) : Nv Zd K s1 a o num cs ns fst nx := by
  obtain ⟨k, c, n, h1, h2, h3, h4⟩ := h
  obtain ⟨g1, g2⟩ := hs.1 a ha h1.1
  exact ⟨k, c, n, ⟨g1, by rw [g2]; exact h1.2⟩, h2, hs.2 c cs h3, hs.2 n ns h4⟩
theorem mem_kN {ks : List Kd} {k : Kd} (hk : k ∈ ks) {x : Nat} (hx : x ∈ k.1) : x ∈ kN ks := List.mem_flatten.mpr ⟨k.1, List.mem_map.mpr ⟨k, hk, rfl⟩, hx⟩
theorem Tw.mono : ∀ (d : Nat) (N : List Nat) (a : Nat) (nx : Option Nat) (L : List Nd), Tw Zd K s d N a nx L → sm K s s1 N → Tw Zd K s1 d N a nx L := by
  intro d
  induction d with
  | zero => intro N a nx L h; exact h.elim
  | succ d ih =>
    rintro N a nx L ⟨o, num, cs, ns, fst, ks, h1, h2, h3, h4, h5, h6⟩ hs
    refine ⟨o, num, cs, ns, fst, ks, h1.mono hs (by rw [h5]; exact List.mem_cons_self), Cs.mono ks fst none h2 (fun k hk nx h9 => ih _ _ _ _ h9 ⟨fun x hx => hs.1 x ?_, hs.2⟩), h3, h4, h5, h6⟩
    rw [h5]
    exact List.mem_cons_of_mem _ (mem_kN hk hx)
theorem Nv.q5 {a : Nat} {o num : Int32} {cs ns : List Int32} {fst nx : Option Nat} (h : Nv Zd K s a o num cs ns fst nx) : gQ K s a 11 5 = some nx := by
  obtain ⟨k, c, n, h1, -⟩ := h
  exact gQ_ob h1 rfl
theorem Nv.q4 {a : Nat} {o num : Int32} {cs ns : List Int32} {fst nx : Option Nat} (h : Nv Zd K s a o num cs ns fst nx) : gQ K s a 11 4 = some fst := by
  obtain ⟨k, c, n, h1, -⟩ := h
  exact gQ_ob h1 rfl
theorem Nv.i1 {a : Nat} {o num : Int32} {cs ns : List Int32} {fst nx : Option Nat} (h : Nv Zd K s a o num cs ns fst nx) : gI K s a 11 1 = some num := by
  obtain ⟨k, c, n, h1, -⟩ := h
  exact gI_ob h1 rfl
theorem Nv.is {a : Nat} {o num : Int32} {cs ns : List Int32} {fst nx : Option Nat} (h : Nv Zd K s a o num cs ns fst nx) : isO K s a 11 = some () := by
  obtain ⟨k, c, n, h1, -⟩ := h
  exact isO_ob h1
theorem Nv.q3 {a : Nat} {o num : Int32} {cs ns : List Int32} {fst nx : Option Nat} (h : Nv Zd K s a o num cs ns fst nx) : ∃ n, gQ K s a 11 3 = some (some n) ∧ strOf K s n = some ns := by
  obtain ⟨k, c, n, h1, -, -, h4⟩ := h
  exact ⟨n, gQ_ob (r := some n) h1 rfl, h4⟩
theorem Nv.q2 {a : Nat} {o num : Int32} {cs ns : List Int32} {fst nx : Option Nat} (h : Nv Zd K s a o num cs ns fst nx) : ∃ n, gQ K s a 11 2 = some (some n) ∧ strOf K s n = some cs := by
  obtain ⟨k, c, n, h1, -, h3, -⟩ := h
  exact ⟨c, gQ_ob (r := some c) h1 rfl, h3⟩
theorem Nv.q0 {a : Nat} {o num : Int32} {cs ns : List Int32} {fst nx : Option Nat} (h : Nv Zd K s a o num cs ns fst nx) : ∃ k, gQ K s a 11 0 = some (some k) ∧ ordK Zd k = some o := by
  obtain ⟨k, c, n, h1, h2, -⟩ := h
  exact ⟨k, gQ_ob (r := some k) h1 rfl, h2⟩
/-- what can be read of a part -/
def rdC (K : KE) (s : CS) (f : List Nat → Nat → Option Nat → List Nd → Prop) : Prop := ∀ N a nx L, f N a nx L → gQ K s a 11 5 = some nx ∧ ∃ n, gQ K s a 11 3 = some (some n) ∧ strOf K s n = some (nmL L) ∧ okS (nmL L)
theorem rdC_T (d : Nat) : rdC K s (Tw Zd K s d) := by
  intro N a nx L h
  cases d with
  | zero => exact h.elim
  | succ d =>
    obtain ⟨o, num, cs, ns, fst, ks, h1, h2, h3, h4, h5, h6⟩ := h
    obtain ⟨n, g1, g2⟩ := h1.q3
    subst h6
    exact ⟨h1.q5, n, g1, g2, h4.2.2.1⟩
theorem cs_kids {f : List Nat → Nat → Option Nat → List Nd → Prop} {g : Nat → Option (List Nd)} (hr : rdC K s f) (hg : ∀ N a nx L, f N a nx L → g a = some L) : ∀ (ks : List Kd) (n : Nat) (r : Option Nat), Cs f r ks none → ks.length ≤ n → kidsOf K s g n r = some (kL ks) := by
  intro ks
  induction ks with
  | nil =>
    intro n r h _
    have h : r = none := h
    subst h
    cases n <;> rfl
  | cons k ks ih =>
    rintro n r ⟨h1, nx, h2, h3⟩ hl
    subst h1
    obtain ⟨m, rfl⟩ : ∃ m, n = m + 1 := ⟨n - 1, by have : (k :: ks).length = ks.length + 1 := rfl; omega⟩
    show ((g k.2.1).bind fun x => (gQ K s k.2.1 11 5).bind fun r => (kidsOf K s g m r).bind fun xs => some (x :: xs)) = _
    rw [hg _ _ _ _ h2, Option.bind_some, (hr _ _ _ _ h2).1, Option.bind_some, ih m nx h3 (by have : (k :: ks).length = ks.length + 1 := rfl; omega), Option.bind_some]
    rfl
theorem Nv.tree {a : Nat} {o num : Int32} {cs ns : List Int32} {fst nx : Option Nat} (h : Nv Zd K s a o num cs ns fst nx) {d : Nat} {xs : List (List Nd)} (hk : kidsOf K s (treeOf Zd K s d) 64 fst = some xs) (ho : okV o num cs ns xs) (hdp : 5 ≤ o.toInt → 0 < d) : treeOf Zd K s (d + 1) a = some ((o, 1 + xs.flatten.length, num, cs, ns) :: xs.flatten) := by
  obtain ⟨k, c, n, h1, h2, h3, h4⟩ := h
  unfold treeOf
  rw [gQ_ob (k := 0) (r := some k) h1 rfl, Option.bind_some, Option.bind_some, h2, Option.bind_some, gI_ob (k := 1) (v := num) h1 rfl, Option.bind_some, gQ_ob (k := 2) (r := some c) h1 rfl, Option.bind_some, Option.bind_some, h3, Option.bind_some, gQ_ob (k := 3) (r := some n) h1 rfl, Option.bind_some, Option.bind_some, h4, Option.bind_some, gQ_ob (k := 4) (r := fst) h1 rfl, Option.bind_some, hk, Option.bind_some, if_pos ⟨ho, hdp⟩]
theorem Tw.tree : ∀ (d : Nat) (N : List Nat) (a : Nat) (nx : Option Nat) (L : List Nd), Tw Zd K s d N a nx L → treeOf Zd K s d a = some L := by
  intro d
  induction d with
  | zero => intro N a nx L h; exact h.elim
  | succ d ih =>
    rintro N a nx L ⟨o, num, cs, ns, fst, ks, h1, h2, h3, h4, h5, h6⟩
    rw [h6]
    exact h1.tree (cs_kids (rdC_T d) ih ks 64 fst h2 h3.1) h4 h3.2
/-- the parts of a document -/
def fT (Zd : Nat → Nat) (K : KE) (s : CS) (d : Nat) : List Nat → Nat → Option Nat → List Nd → Prop := fun _ a nx L => treeOf Zd K s d a = some L ∧ gQ K s a 11 5 = some nx
theorem kids_cs {g : Nat → Option (List Nd)} : ∀ (n : Nat) (r : Option Nat) (xs : List (List Nd)), kidsOf K s g n r = some xs → ∃ ks : List Kd, Cs (fun _ a nx L => g a = some L ∧ gQ K s a 11 5 = some nx) r ks none ∧ kL ks = xs ∧ ks.length ≤ n := by
  intro n
  induction n with
  | zero =>
    intro r xs hx
    cases r with
    | none => cases hx; exact ⟨[], rfl, rfl, Nat.le_refl _⟩
    | some a => cases hx
  | succ n ih =>
    intro r xs hx
    cases r with
    | none => cases hx; exact ⟨[], rfl, rfl, Nat.zero_le _⟩
    | some a =>
      have hx : ((g a).bind fun x => (gQ K s a 11 5).bind fun r => (kidsOf K s g n r).bind fun xs => some (x :: xs)) = some xs := hx
      obtain ⟨x, e1, hx⟩ := ob hx
      obtain ⟨r, e2, hx⟩ := ob hx
      obtain ⟨ys, e3, hx⟩ := ob hx
      cases hx
      obtain ⟨ks, h1, h2, h3⟩ := ih r ys e3
      exact ⟨([], a, x) :: ks, ⟨rfl, r, ⟨e1, e2⟩, h1⟩, by rw [kL_cons, h2], Nat.succ_le_succ h3⟩
/-- a document's node -/
theorem tree_node (hk : wk K) {d a : Nat} {L : List Nd} (h : treeOf Zd K s (d + 1) a = some L) : ∃ (o num : Int32) (cs ns : List Int32) (fst nx : Option Nat) (ks : List Kd), (∃ k c n fs, cA K s a = some (.inr (.inr (11, fs))) ∧ gQ K s a 11 0 = some (some k) ∧ gI K s a 11 1 = some num ∧ gQ K s a 11 2 = some (some c) ∧ gQ K s a 11 3 = some (some n) ∧ gQ K s a 11 4 = some fst ∧ ordK Zd k = some o ∧ strOf K s c = some cs ∧ strOf K s n = some ns) ∧ Cs (fT Zd K s d) fst ks none ∧ ks.length ≤ 64 ∧ okV o num cs ns (kL ks) ∧ L = (o, 1 + (kL ks).flatten.length, num, cs, ns) :: (kL ks).flatten := by
  unfold treeOf at h
  obtain ⟨kd, e1, hx⟩ := ob h
  obtain ⟨k, e2, hx⟩ := ob hx
  obtain ⟨o, e3, hx⟩ := ob hx
  obtain ⟨num, e4, hx⟩ := ob hx
  obtain ⟨ch, e5, hx⟩ := ob hx
  obtain ⟨c, e6, hx⟩ := ob hx
  obtain ⟨cs, e7, hx⟩ := ob hx
  obtain ⟨nm, e8, hx⟩ := ob hx
  obtain ⟨n, e9, hx⟩ := ob hx
  obtain ⟨ns, e10, hx⟩ := ob hx
  obtain ⟨fst, e11, hx⟩ := ob hx
  obtain ⟨xs, e12, hx⟩ := ob hx
  obtain ⟨ho, rfl⟩ := ite_of hx
  obtain ⟨ks, h1, h2, h3⟩ := kids_cs 64 fst xs e12
  obtain ⟨fs, f1, -⟩ := gF_some (gQ_some e1)
  subst e2 e6 e9 h2
  exact ⟨o, num, cs, ns, fst, none, ks, ⟨k, c, n, fs, f1, e1, e4, e5, e8, e11, e3, e7, e10⟩, h1, h3, ho.1, rfl⟩
theorem tree_nm {d a : Nat} {L : List Nd} (h : treeOf Zd K s d a = some L) : ∃ n, gQ K s a 11 3 = some (some n) ∧ strOf K s n = some (nmL L) ∧ okS (nmL L) := by
  cases d with
  | zero => cases h
  | succ d =>
    unfold treeOf at h
    obtain ⟨kd, e1, hx⟩ := ob h
    obtain ⟨k, e2, hx⟩ := ob hx
    obtain ⟨o, e3, hx⟩ := ob hx
    obtain ⟨num, e4, hx⟩ := ob hx
    obtain ⟨ch, e5, hx⟩ := ob hx
    obtain ⟨c, e6, hx⟩ := ob hx
    obtain ⟨cs, e7, hx⟩ := ob hx
    obtain ⟨nm, e8, hx⟩ := ob hx
    obtain ⟨n, e9, hx⟩ := ob hx
    obtain ⟨ns, e10, hx⟩ := ob hx
    obtain ⟨fst, e11, hx⟩ := ob hx
    obtain ⟨xs, e12, hx⟩ := ob hx
    obtain ⟨ho, rfl⟩ := ite_of hx
    subst e9
    exact ⟨n, e8, e10, ho.1.2.2.1⟩
theorem rdC_f (d : Nat) : rdC K s (fT Zd K s d) := fun _ _ _ _ h => ⟨h.2, tree_nm h.1⟩
/-! the class's walks along a chain -/
theorem count_l {f : List Nat → Nat → Option Nat → List Nd → Prop} (hr : rdC K s f) : ∀ (ks : List Kd) (fuel : Nat) (n : Int32) (r : Option Nat), Cs f r ks none → ks.length < fuel → 0 ≤ n.toInt → n.toInt + ks.length ≤ 1000 → ∃ m : Int32, c_Value_partCount_l1 K s fuel (n, r) = some (m, none) ∧ m.toInt = n.toInt + ks.length := by
  have L := nums
  intro ks
  induction ks with
  | nil =>
    intro fuel n r h hf h0 h1
    have h : r = none := h
    subst h
    obtain ⟨g, rfl⟩ : ∃ g, fuel = g + 1 := ⟨fuel - 1, by omega⟩
    exact ⟨n, rfl, by simp⟩
  | cons k ks ih =>
    rintro fuel n r ⟨h1, nx, h2, h3⟩ hf h0 h9
    subst h1
    obtain ⟨g, rfl⟩ : ∃ g, fuel = g + 1 := ⟨fuel - 1, by omega⟩
    have hl : (k :: ks).length = ks.length + 1 := rfl
    have k1 : (n + 1).toInt = n.toInt + 1 := by rw [i32add (by omega) (by omega)]; omega
    obtain ⟨m, i1, i2⟩ := ih g (n + 1) nx h3 (by omega) (by omega) (by omega)
    refine ⟨m, ?_, by omega⟩
    rw [c_Value_partCount_l1_s]
    show (some (n + 1)).bind (fun y18 => (gQ K s k.2.1 11 5).bind fun x19 => c_Value_partCount_l1 K s g (y18, x19)) = _
    rw [Option.bind_some, (hr _ _ _ _ h2).1, Option.bind_some, i1]
theorem member_l {f : List Nat → Nat → Option Nat → List Nd → Prop} (hr : rdC K s f) {b : Nat} {cs : List Int32} (hb : strOf K s b = some cs) (hl : cs.length ≤ 100) : ∀ (ks : List Kd) (fuel : Nat) (r : Option Nat), Cs f r ks none → ks.length < fuel → c_Value_member_l1 Zd K (some b) s fuel r = some (match ks.find? (fun k => decide (nmL k.2.2 = cs)) with | some k => .inl (some k.2.1) | none => .inr none) := by
  intro ks
  induction ks with
  | nil =>
    intro fuel r h hf
    have h : r = none := h
    subst h
    obtain ⟨g, rfl⟩ : ∃ g, fuel = g + 1 := ⟨fuel - 1, by omega⟩
    rfl
  | cons k ks ih =>
    rintro fuel r ⟨h1, nx, h2, h3⟩ hf
    subst h1
    obtain ⟨g, rfl⟩ : ∃ g, fuel = g + 1 := ⟨fuel - 1, by omega⟩
    obtain ⟨e5, n, e3, es, eo⟩ := hr _ _ _ _ h2
    have hl9 : (k :: ks).length = ks.length + 1 := rfl
    rw [c_Value_member_l1_s]
    show ((gQ K s k.2.1 11 3).bind fun x18 => x18.bind fun a19z => (isO K s a19z 12).bind fun _ => (c_String_equals Zd K a19z (some b) s).bind fun x20 => if x20 = (0 : Int32) then ((gQ K s k.2.1 11 5).bind fun x24 => c_Value_member_l1 Zd K (some b) s g x24) else (some (.inl (some k.2.1)))) = _
    rw [e3, Option.bind_some, Option.bind_some, str_isO es, Option.bind_some, str_eq es hb (by have := eo.1; omega) hl, Option.bind_some]
    by_cases e : nmL k.2.2 = cs
    · rw [if_pos e, if_neg (by decide), List.find?_cons_of_pos (by simpa using e)]
    · rw [if_neg e, if_pos rfl, e5, Option.bind_some, ih g nx h3 (by omega), List.find?_cons_of_neg (by simpa using e)]
theorem kd_14 (hc : kc Zd K) {k : Nat} {o : Int32} (h : ordK Zd k = some o) {i : Nat} (hi : i < 7) : (some k = some (Zd (8 + i))) = (o = ([0, 1, 2, 3, 4, 5, 6] : List Int32).getD i 0) := by
  apply propext
  constructor
  · intro e
    have e := Option.some.inj e
    rw [e, hc.ord hi] at h
    exact (Option.some.inj h).symm
  · intro e
    obtain ⟨j, hj, h1, h2⟩ := ordK_some h
    have hij : j = i := by
      rw [e] at h2
      rcases (show i = 0 ∨ i = 1 ∨ i = 2 ∨ i = 3 ∨ i = 4 ∨ i = 5 ∨ i = 6 by omega) with rfl | rfl | rfl | rfl | rfl | rfl | rfl <;> rcases (show j = 0 ∨ j = 1 ∨ j = 2 ∨ j = 3 ∨ j = 4 ∨ j = 5 ∨ j = 6 by omega) with rfl | rfl | rfl | rfl | rfl | rfl | rfl <;> first | rfl | exact absurd h2 (by decide)
    rw [h1, hij]
end TREE2
