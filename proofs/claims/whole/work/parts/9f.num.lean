/-! Writing: numbers. -/
/-- the class's tables: the kinds' numbers in a switch, the two digits of numbers below 100 -/
def kt (Zd : Nat → Nat) (K : KE) : Prop := (Zd 1 ∈ K.1 ∧ ∃ (n : Nat) (g : Nat → Int32), K.2 (Zd 1) = .inl (1, n, g) ∧ 7 ≤ n ∧ (∀ i, i < 6 → g i = Int32.ofNat (i + 1)) ∧ ∀ i, i < 6 → g 6 ≠ Int32.ofNat (i + 1)) ∧ (Zd 2 ∈ K.1 ∧ ∃ g : Nat → Int32, K.2 (Zd 2) = .inl (2, 100, g) ∧ ∀ i, i < 100 → g i = Int32.ofNat (48 + i % 10)) ∧ (Zd 3 ∈ K.1 ∧ ∃ g : Nat → Int32, K.2 (Zd 3) = .inl (2, 100, g) ∧ ∀ i, i < 100 → g i = Int32.ofNat (48 + i / 10))
def dgt (n j : Nat) : Int32 := Int32.ofNat (48 + n / 10 ^ j % 10)
def tMs : Nat → Nat → List Int32
  | 0, _ => []
  | k + 1, n => dgt n k :: tMs k n
theorem tMs_len : ∀ (k n : Nat), (tMs k n).length = k := by
  intro k
  induction k with
  | zero => intro n; rfl
  | succ k ih => intro n; show (tMs k n).length + 1 = _; rw [ih]
theorem tMs_get : ∀ (k n i : Nat), i < k → (tMs k n).getD i 0 = dgt n (k - 1 - i) := by
  intro k
  induction k with
  | zero => intro n i h; omega
  | succ k ih =>
    intro n i h
    cases i with
    | zero => rfl
    | succ i =>
      show (tMs k n).getD i 0 = _
      rw [ih n i (by omega)]
      congr 1
      omega
theorem dgt_i (n j : Nat) : (dgt n j).toInt = 48 + (n / 10 ^ j % 10 : Nat) := by
  unfold dgt
  rw [ofNat_i (by omega)]
  omega
theorem dgt_u8 (n j : Nat) : u8 (dgt n j) = dgt n j := u8_id (by rw [dgt_i]; omega) (by rw [dgt_i]; omega)
theorem dgt_100 (n j : Nat) : dgt (n / 100) j = dgt n (j + 2) := by
  unfold dgt
  rw [Nat.div_div_eq_div_mul, show 100 * 10 ^ j = 10 ^ (j + 2) by rw [Nat.pow_add]; omega]
def nDig (n : Nat) : Nat := if n < 10 then 1 else if n < 100 then 2 else if n < 1000 then 3 else if n < 10000 then 4 else if n < 100000 then 5 else 6
def tNum (num : Int32) : List Int32 := (if num.toInt < 0 then [45] else []) ++ tMs (nDig num.toInt.natAbs) num.toInt.natAbs
theorem nDig_6 (n : Nat) : 1 ≤ nDig n ∧ nDig n ≤ 6 := by
  unfold nDig
  repeat' split
  all_goals omega
theorem tNum_len (num : Int32) : (tNum num).length ≤ 7 := by
  unfold tNum
  rw [List.length_append, tMs_len]
  have := nDig_6 num.toInt.natAbs
  split
  · show 1 + _ ≤ 7; omega
  · show 0 + _ ≤ 7; omega
theorem div_i {x : Int32} {n : Nat} (hx : x.toInt = -n) (hn : n < 1000000) : (x / 100).toInt = -(n / 100 : Nat) := by
  rw [Int32.toInt_div_of_ne_right _ _ (by decide), hx, show (100 : Int32).toInt = 100 from by decide, Int.neg_tdiv]
  rfl
theorem mul100 {x : Int32} {n : Nat} (hx : x.toInt = -n) (hn : n < 10000) : (x * 100).toInt = -(100 * n : Nat) := by
  rw [Int32.toInt_mul, hx, show (100 : Int32).toInt = 100 from by decide]
  have : -(n : Int) * 100 = -(100 * n : Nat) := by omega
  rw [this]
  apply Int.bmod_eq_of_le
  · omega
  · omega
theorem rem_i {x y : Int32} {n : Nat} (hx : x.toInt = -n) (hy : y.toInt = -(100 * (n / 100) : Nat)) (hn : n < 1000000) : (y - x).toInt = (n % 100 : Nat) := by
  rw [i32sub (by omega) (by omega), hx, hy]
  omega
theorem dec_i {pos : Int32} {P : Nat} (hp : pos.toInt = P) (h1 : 1 ≤ P) (h2 : P < 100000) : (pos + -1).toInt = (P - 1 : Nat) := by
  have : (-1 : Int32).toInt = -1 := by decide
  rw [i32add (by omega) (by omega)]
  omega
theorem ss_ok {x d : Int32} {n : Nat} (hx : x.toInt = -n) (hn : n < 1000000) : c_Integer_stringSize_l1 x d 4096 (-10, 1) = some (.inl (Int32.ofNat (nDig n) + d)) := by
  have c10 : ∀ {p : Int32} {m : Nat}, p.toInt = -m → (x ≤ p ↔ m ≤ n) := fun hp => ⟨fun e => by have := i32le.mp e; omega, fun e => i32le.mpr (by omega)⟩
  unfold nDig
  rw [show (4096 : Nat) = 4090 + 1 + 1 + 1 + 1 + 1 + 1 from rfl]
  rw [c_Integer_stringSize_l1_s]
  have q1 := c10 (p := -10) (m := 10) (by decide)
  by_cases h1 : n < 10
  · rw [if_neg (by decide)]
    dsimp only
    rw [if_neg (fun e => by have := q1.mp e; omega), if_pos h1]
    rfl
  rw [if_neg (by decide)]
  dsimp only
  rw [if_pos (q1.mpr (by omega)), Option.bind_some, Option.bind_some, show (10 : Int32) * -10 = -100 from by decide, show (1 : Int32) + 1 = 2 from by decide, if_neg h1]
  rw [c_Integer_stringSize_l1_s]
  have q2 := c10 (p := -100) (m := 100) (by decide)
  by_cases h2 : n < 100
  · rw [if_neg (by decide)]
    dsimp only
    rw [if_neg (fun e => by have := q2.mp e; omega), if_pos h2]
    rfl
  rw [if_neg (by decide)]
  dsimp only
  rw [if_pos (q2.mpr (by omega)), Option.bind_some, Option.bind_some, show (10 : Int32) * -100 = -1000 from by decide, show (2 : Int32) + 1 = 3 from by decide, if_neg h2]
  rw [c_Integer_stringSize_l1_s]
  have q3 := c10 (p := -1000) (m := 1000) (by decide)
  by_cases h3 : n < 1000
  · rw [if_neg (by decide)]
    dsimp only
    rw [if_neg (fun e => by have := q3.mp e; omega), if_pos h3]
    rfl
  rw [if_neg (by decide)]
  dsimp only
  rw [if_pos (q3.mpr (by omega)), Option.bind_some, Option.bind_some, show (10 : Int32) * -1000 = -10000 from by decide, show (3 : Int32) + 1 = 4 from by decide, if_neg h3]
  rw [c_Integer_stringSize_l1_s]
  have q4 := c10 (p := -10000) (m := 10000) (by decide)
  by_cases h4 : n < 10000
  · rw [if_neg (by decide)]
    dsimp only
    rw [if_neg (fun e => by have := q4.mp e; omega), if_pos h4]
    rfl
  rw [if_neg (by decide)]
  dsimp only
  rw [if_pos (q4.mpr (by omega)), Option.bind_some, Option.bind_some, show (10 : Int32) * -10000 = -100000 from by decide, show (4 : Int32) + 1 = 5 from by decide, if_neg h4]
  rw [c_Integer_stringSize_l1_s]
  have q5 := c10 (p := -100000) (m := 100000) (by decide)
  by_cases h5 : n < 100000
  · rw [if_neg (by decide)]
    dsimp only
    rw [if_neg (fun e => by have := q5.mp e; omega), if_pos h5]
    rfl
  rw [if_neg (by decide)]
  dsimp only
  rw [if_pos (q5.mpr (by omega)), Option.bind_some, Option.bind_some, show (10 : Int32) * -100000 = -1000000 from by decide, show (5 : Int32) + 1 = 6 from by decide, if_neg h5]
  rw [c_Integer_stringSize_l1_s]
  have q6 := c10 (p := -1000000) (m := 1000000) (by decide)
  by_cases h6 : n < 1000000
  · rw [if_neg (by decide)]
    dsimp only
    rw [if_neg (fun e => by have := q6.mp e; omega)]
    rfl
  omega
/-- k digits of n, up to place P -/
def wrD (g : Nat → Int32) (P n k : Nat) : Nat → Int32 := fun p => if P ≤ p + k ∧ p < P then dgt n (P - 1 - p) else g p
section NUMW
variable {Zd : Nat → Nat} {K : KE} {s : CS} {v cap : Nat}
theorem tab2 (hk : kt Zd K) {st : CS} (hw : wf K st) {r : Int32} {m : Nat} (hr : r.toInt = m) (hm : m < 100) : rA K st (Zd 2) 2 r = some (dgt m 0) := by
  obtain ⟨-, ⟨h1, g, h2, h3⟩, -⟩ := hk
  rw [rA_cA (by rw [cA_k hw h1, h2]) (vp_of (by omega) (by omega)), tnn, h3 _ (by omega)]
  unfold dgt
  rw [hr]
  simp
theorem tab3 (hk : kt Zd K) {st : CS} (hw : wf K st) {r : Int32} {m : Nat} (hr : r.toInt = m) (hm : m < 100) : rA K st (Zd 3) 2 r = some (dgt m 1) := by
  obtain ⟨-, -, h1, g, h2, h3⟩ := hk
  rw [rA_cA (by rw [cA_k hw h1, h2]) (vp_of (by omega) (by omega)), tnn, h3 _ (by omega)]
  unfold dgt
  rw [hr]
  have : m / 10 ^ 1 % 10 = m / 10 := by rw [Nat.pow_one]; omega
  rw [this]
  rfl
theorem nar_d (n j : Nat) : vp_nar .byte (dgt n j) = dgt n j := nar_b (by rw [dgt_i]; omega) (by rw [dgt_i]; omega)
theorem wA_u {g : Nat → Int32} (hm : v ∈ s.2.1) {i x : Int32} {p : Nat} (hi : i.toInt = p) (hp : p < cap) : wA (uC s v (.inl (2, cap, g))) v 2 i x = some (uC s v (.inl (2, cap, upd g p x))) := by
  have h : ar1i (uC s v (.inl (2, cap, g))) v 2 cap g := ⟨hm, uC_self⟩
  rw [wA_ar h (vp_of (by omega) (by omega)), uC_uC, tnn, hi]
  rfl
theorem wrD_2 (g : Nat → Int32) (P n m : Nat) (hP : 2 ≤ P) (hm : m = n % 100) : upd (upd g (P - 1) (dgt m 0)) (P - 1 - 1) (dgt m 1) = wrD g P n 2 := by
  have d0 : dgt m 0 = dgt n 0 := by unfold dgt; rw [hm]; congr 2; simp
  have d1 : dgt m 1 = dgt n 1 := by unfold dgt; rw [hm]; congr 2; simp; omega
  funext p
  unfold wrD
  by_cases h2 : p = P - 1 - 1
  · rw [h2, upd_self, if_pos ⟨by omega, by omega⟩, d1, show P - 1 - (P - 1 - 1) = 1 by omega]
  · rw [upd_ne h2]
    by_cases h1 : p = P - 1
    · rw [h1, upd_self, if_pos ⟨by omega, by omega⟩, d0, show P - 1 - (P - 1) = 0 by omega]
    · rw [upd_ne h1, if_neg (by omega)]
theorem wrD_app (g : Nat → Int32) (P n k : Nat) (hP : 2 + k ≤ P) : wrD (wrD g P n 2) (P - 2) (n / 100) k = wrD g P n (2 + k) := by
  funext p
  unfold wrD
  by_cases h1 : P - 2 ≤ p + k ∧ p < P - 2
  · rw [if_pos h1, if_pos ⟨by omega, by omega⟩, dgt_100]
    congr 1
    omega
  · rw [if_neg h1]
    by_cases h2 : P ≤ p + 2 ∧ p < P
    · rw [if_pos h2, if_pos ⟨by omega, by omega⟩]
    · rw [if_neg h2, if_neg (by omega)]
/-- two digits at a time -/
theorem gc_l (hk : kt Zd K) (hw : wf K s) (hm : v ∈ s.2.1) : ∀ (t fuel n P : Nat) (x pos : Int32) (g : Nat → Int32), n < 100 ^ (t + 1) → (t = 0 ∨ 100 ^ t ≤ n) → n < 1000000 → 2 * t < P → P ≤ cap → cap < 100000 → t < fuel → x.toInt = -n → pos.toInt = P → ∃ x1 pos1, c_Integer_getChars_l1 Zd K (some v) fuel (x, pos, uC s v (.inl (2, cap, g))) = some (x1, pos1, uC s v (.inl (2, cap, wrD g P n (2 * t)))) ∧ x1.toInt = -(n / 100 ^ t : Nat) ∧ pos1.toInt = P - 2 * t := by
  have N := nums
  have N100 : (100 : Int32).toInt = 100 ∧ (-100 : Int32).toInt = -100 := by decide
  intro t
  induction t with
  | zero =>
    intro fuel n P x pos g h1 h2 h3 h4 h5 h6 h7 hx hp
    obtain ⟨f, rfl⟩ : ∃ f, fuel = f + 1 := ⟨fuel - 1, by omega⟩
    have h1 : n < 100 := h1
    have hgt : (-100 : Int32) < x := i32lt.mpr (by omega)
    have hwr : wrD g P n (2 * 0) = g := by
      funext p
      unfold wrD
      rw [if_neg (by omega)]
    refine ⟨x, pos, ?_, by rw [hx]; simp, by omega⟩
    rw [c_Integer_getChars_l1_s, if_pos hgt, hwr]
  | succ t ih =>
    intro fuel n P x pos g h1 h2 h3 h4 h5 h6 h7 hx hp
    obtain ⟨f, rfl⟩ : ∃ f, fuel = f + 1 := ⟨fuel - 1, by omega⟩
    have hpt : 0 < 100 ^ t := Nat.pow_pos (by decide)
    have h2 : 100 ^ (t + 1) ≤ n := by rcases h2 with h2 | h2; · cases h2
                                      · exact h2
    have hn100 : 100 ≤ n := by rw [Nat.pow_succ] at h2; omega
    have hng : ¬ (-100 : Int32) < x := fun e => by have := i32lt.mp e; omega
    have e1 := div_i hx h3
    have e2 : (x / 100 * 100).toInt = -(100 * (n / 100) : Nat) := mul100 e1 (by omega)
    have e3 : (x / 100 * 100 - x).toInt = (n % 100 : Nat) := rem_i hx e2 h3
    have e4 : (pos + -1).toInt = (P - 1 : Nat) := dec_i hp (by omega) (by omega)
    have e5 : (pos + -1 + -1).toInt = (P - 1 - 1 : Nat) := dec_i e4 (by omega) (by omega)
    have r2 := tab2 hk (st := uC s v (.inl (2, cap, g))) hw e3 (by omega)
    have w2 := wA_u (s := s) (v := v) (cap := cap) (g := g) hm (x := dgt (n % 100) 0) e4 (by omega)
    have r3 := tab3 hk (st := uC s v (.inl (2, cap, upd g (P - 1) (dgt (n % 100) 0)))) hw e3 (by omega)
    have w3 := wA_u (s := s) (v := v) (cap := cap) (g := upd g (P - 1) (dgt (n % 100) 0)) hm (x := dgt (n % 100) 1) e5 (by omega)
    rw [wrD_2 g P n (n % 100) (by omega) rfl] at w3
    obtain ⟨x1, pos1, i1, i2, i3⟩ := ih f (n / 100) (P - 2) (x / 100) (pos + -1 + -1) (wrD g P n 2) (by rw [Nat.pow_succ] at h1; omega) (Or.inr (by rw [Nat.pow_succ] at h2; omega)) (by omega) (by omega) (by omega) h6 (by omega) e1 (by rw [e5]; omega)
    refine ⟨x1, pos1, ?_, ?_, by rw [i3]; omega⟩
    · rw [c_Integer_getChars_l1_s, if_neg hng]
      simp only [Option.bind_some, r2, nar_d, w2, r3, w3, i1]
      rw [wrD_app g P n (2 * t) (by omega), show 2 + 2 * t = 2 * (t + 1) by omega]
    · rw [i2, Nat.div_div_eq_div_mul, Nat.pow_succ, Nat.mul_comm]
end NUMW
