/-! The model writes a row: whose part a node is, which values end behind it. -/
/-- the innermost value that goes on behind place j, among the first n -/
def hol (LL : List Nd) (j : Nat) : Nat → Option Nat
  | 0 => none
  | n + 1 => match LL[n]? with
    | some x => if j < n + x.2.1 then some n else hol LL j n
    | none => hol LL j n
/-- the brackets of those that end at e, among the first n, from the last on -/
def clo (LL : List Nd) (e : Nat) : Nat → List Int32
  | 0 => []
  | n + 1 => (match LL[n]? with
    | some x => if x.1 < 5 then [] else if n + x.2.1 = e then [if x.1 = 5 then 93 else 125] else []
    | none => []) ++ clo LL e n
theorem hol_s {LL : List Nd} {j n : Nat} {x : Nd} (h : LL[n]? = some x) : hol LL j (n + 1) = if j < n + x.2.1 then some n else hol LL j n := by
  show (match LL[n]? with | some x => if j < n + x.2.1 then some n else hol LL j n | none => hol LL j n) = _
  rw [h]
theorem clo_s {LL : List Nd} {e n : Nat} {x : Nd} (h : LL[n]? = some x) : clo LL e (n + 1) = (if x.1 < 5 then [] else if n + x.2.1 = e then [if x.1 = 5 then 93 else 125] else []) ++ clo LL e n := by
  show (match LL[n]? with | some x => if x.1 < 5 then [] else if n + x.2.1 = e then [if x.1 = 5 then (93 : Int32) else 125] else [] | none => []) ++ _ = _
  rw [h]
theorem hol_lt {LL : List Nd} {j h : Nat} : ∀ n, hol LL j n = some h → h < n := by
  intro n
  induction n with
  | zero => intro e; cases e
  | succ n ih =>
    intro e
    cases hx : LL[n]? with
    | none =>
      have e : (match LL[n]? with | some x => if j < n + x.2.1 then some n else hol LL j n | none => hol LL j n) = some h := e
      rw [hx] at e
      have := ih e; omega
    | some x =>
      rw [hol_s hx] at e
      by_cases c : j < n + x.2.1
      · rw [if_pos c] at e; cases e; omega
      · rw [if_neg c] at e; have := ih e; omega
/-- values that have ended don't count -/
theorem hol_skip {LL : List Nd} {j n : Nat} : ∀ m, (∀ i x, n ≤ i → i < n + m → LL[i]? = some x → i + x.2.1 ≤ j) → hol LL j (n + m) = hol LL j n := by
  intro m
  induction m with
  | zero => intro _; rfl
  | succ m ih =>
    intro h
    have h1 := ih (fun i x a b => h i x a (by omega))
    show (match LL[n + m]? with | some x => if j < n + m + x.2.1 then some (n + m) else hol LL j (n + m) | none => hol LL j (n + m)) = _
    cases hx : LL[n + m]? with
    | none => exact h1
    | some x =>
      have := h (n + m) x (by omega) (by omega) hx
      show (if j < n + m + x.2.1 then some (n + m) else hol LL j (n + m)) = _
      rw [if_neg (by omega)]
      exact h1
theorem clo_skip {LL : List Nd} {e n : Nat} : ∀ m, (∀ i x, n ≤ i → i < n + m → LL[i]? = some x → i + x.2.1 < e) → clo LL e (n + m) = clo LL e n := by
  intro m
  induction m with
  | zero => intro _; rfl
  | succ m ih =>
    intro h
    have h1 := ih (fun i x a b => h i x a (by omega))
    show (match LL[n + m]? with | some x => if x.1 < 5 then [] else if n + m + x.2.1 = e then [if x.1 = 5 then (93 : Int32) else 125] else [] | none => []) ++ clo LL e (n + m) = _
    cases hx : LL[n + m]? with
    | none => exact h1
    | some x =>
      have := h (n + m) x (by omega) (by omega) hx
      show (if x.1 < 5 then [] else if n + m + x.2.1 = e then [if x.1 = 5 then (93 : Int32) else 125] else []) ++ clo LL e (n + m) = _
      rw [if_neg (show ¬ n + m + x.2.1 = e by omega), ite_self]
      exact h1
def okE (L : List Nd) : Prop := ∀ n y, L[n]? = some y → n + y.2.1 ≤ L.length
theorem okE_flat : ∀ xs : List (List Nd), (∀ L ∈ xs, okE L) → okE xs.flatten := by
  intro xs
  induction xs with
  | nil => intro _ n y h; cases h
  | cons L xs ih =>
    intro h n y hy
    rw [List.flatten_cons] at hy
    rw [List.flatten_cons, List.length_append]
    by_cases c : n < L.length
    · rw [List.getElem?_append_left c] at hy
      have := h L List.mem_cons_self n y hy
      omega
    · rw [List.getElem?_append_right (by omega)] at hy
      have := ih (fun M hM => h M (List.mem_cons_of_mem _ hM)) _ y hy
      omega
theorem tree_end {Zd : Nat → Nat} {K : KE} {s : CS} (hk : wk K) : ∀ (d a : Nat) (L : List Nd), treeOf Zd K s d a = some L → okE L := by
  intro d
  induction d with
  | zero => intro a L h; cases h
  | succ d ih =>
    intro a L h
    obtain ⟨o, num, cs, ns, fst, nx, ks, -, hcs, -, -, rfl⟩ := tree_node hk h
    have hfl : okE (kL ks).flatten := okE_flat _ (fun M hM => by
      obtain ⟨k, hk9, rfl⟩ := List.mem_map.mp hM
      obtain ⟨nx, h9⟩ := Cs.all ks fst none hcs k hk9
      exact ih _ _ h9.1)
    intro n y hy
    cases n with
    | zero =>
      cases hy
      show 0 + (1 + _) ≤ _
      rw [List.length_cons]; omega
    | succ n =>
      have := hfl n y hy
      rw [List.length_cons]; omega
def tHd (x : Nd) : List Int32 := if x.1 = 0 then [110, 117, 108, 108] else if x.1 = 1 then [116, 114, 117, 101] else if x.1 = 2 then [102, 97, 108, 115, 101] else if x.1 = 3 then tNum x.2.2.1 else if x.1 = 4 then tStr x.2.2.2.1 else if x.1 = 5 then [91] else [123]
/-- what stands before a part: a comma, its name -/
def preT (LL : List Nd) (ns : List Int32) (j : Nat) : Option Nat → List Int32
  | none => []
  | some h => (if j ≤ h + 1 then [] else [44]) ++ (match LL[h]? with | some x => if x.1 = 6 then tStr ns ++ [58] else [] | none => [])
section EMIT
variable {LL : List Nd} {m0 m : MS} {a0 : Nat} {b : Int32} {T : List Int32}
/-- the row that is written -/
def RW (LL : List Nd) (m0 : MS) (a0 : Nat) (b : Int32) : Prop := b.toInt = a0 ∧ LL.length ≤ 24 ∧ a0 + 24 ≤ 2100 ∧ rowIs m0 a0 LL ∧ (∀ x ∈ LL, okN 24 x) ∧ ∀ x ∈ LL, okS x.2.2.2.1 ∧ okS x.2.2.2.2 ∧ -999999 ≤ x.2.2.1.toInt ∧ x.2.2.1.toInt ≤ 999999
theorem RW.at (h : RW LL m0 a0 b) (hm : MB m0 T m) {j : Nat} {x : Nd} (hx : LL[j]? = some x) {v : Int32} (hv : v.toInt = a0 + j) : rd (m.2.2.1 1) 2100 v = some x.1 ∧ rd (m.2.2.1 2) 2100 v = some (Int32.ofNat x.2.1) ∧ rd (m.2.2.2 0) 2100 v = some (payA x) ∧ rd (m.2.2.2 1) 2100 v = some (payB x) ∧ (0 < j → ∃ p q, rd (m.2.2.2 2) 2100 v = some p ∧ rd (m.2.2.2 3) 2100 v = some q ∧ (p, q) = enc x.2.2.2.2) := by
  obtain ⟨h1, h2, h3, h4, h5, h6⟩ := h
  obtain ⟨g1, g2, g3, g4, g5⟩ := h4 j x hx
  obtain ⟨-, -, m3, m4, -⟩ := hm
  have hj : j < LL.length := (List.getElem?_eq_some_iff.mp hx).1
  have hin : vp_in v 2100 := vp_of (by omega) (by omega)
  have tn : v.toNatClampNeg = a0 + j := by rw [tnn]; omega
  refine ⟨by rw [rd_in hin, m3 1 (by decide), tn, g1], by rw [rd_in hin, m3 2 (by decide), tn, g2], by rw [rd_in hin, m4, tn, g3], by rw [rd_in hin, m4, tn, g4], fun h0 => ⟨_, _, rd_in hin, rd_in hin, ?_⟩⟩
  rw [m4, tn]
  exact g5 h0
end EMIT
