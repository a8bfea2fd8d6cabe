/-! Packed texts as numbers. -/
def n64 (x : Int64) : Nat := x.toBitVec.toNat
theorem n64_add (x y : Int64) : n64 (x + y) = (n64 x + n64 y) % 18446744073709551616 := by
  unfold n64
  rw [Int64.toBitVec_add, BitVec.toNat_add]
theorem n64_or (x y : Int64) : n64 (x ||| y) = n64 x ||| n64 y := by
  unfold n64
  rw [Int64.toBitVec_or, BitVec.toNat_or]
theorem n64_and (x y : Int64) : n64 (x &&& y) = n64 x &&& n64 y := by
  unfold n64
  rw [Int64.toBitVec_and, BitVec.toNat_and]
theorem n64_inj {x y : Int64} (h : n64 x = n64 y) : x = y := Int64.toBitVec_inj.mp (BitVec.eq_of_toNat_eq h)
theorem n64_c {c : Int32} (h0 : 0 ≤ c.toInt) : n64 c.toInt64 = c.toInt.toNat := by
  have h1 := bv_of h0
  have hl : c.toInt.toNat < 2147483648 := by have := c.toInt_lt; omega
  unfold n64
  have h2 : c.toInt64.toInt = c.toInt := Int32.toInt_toInt64 c
  have h3 : c.toInt64.toInt = c.toInt64.toBitVec.toInt := rfl
  rw [h3, BitVec.toInt_eq_toNat_cond] at h2
  have hb := c.toInt64.toBitVec.isLt
  split at h2 <;> omega
theorem shl_8 (x : Int64) {n : Int32} (h : n = 0 ∨ n = 1 ∨ n = 2 ∨ n = 3 ∨ n = 4 ∨ n = 5 ∨ n = 6) : n64 (x <<< ((8 * n).toInt64 &&& 63)) = (n64 x * 2 ^ (8 * n.toInt.toNat)) % 18446744073709551616 := by
  unfold n64
  rcases h with rfl | rfl | rfl | rfl | rfl | rfl | rfl
  · show (x.toBitVec <<< (0 : Nat)).toNat = _
    rw [BitVec.toNat_shiftLeft, Nat.shiftLeft_eq]; rfl
  · show (x.toBitVec <<< (8 : Nat)).toNat = _
    rw [BitVec.toNat_shiftLeft, Nat.shiftLeft_eq]; rfl
  · show (x.toBitVec <<< (16 : Nat)).toNat = _
    rw [BitVec.toNat_shiftLeft, Nat.shiftLeft_eq]; rfl
  · show (x.toBitVec <<< (24 : Nat)).toNat = _
    rw [BitVec.toNat_shiftLeft, Nat.shiftLeft_eq]; rfl
  · show (x.toBitVec <<< (32 : Nat)).toNat = _
    rw [BitVec.toNat_shiftLeft, Nat.shiftLeft_eq]; rfl
  · show (x.toBitVec <<< (40 : Nat)).toNat = _
    rw [BitVec.toNat_shiftLeft, Nat.shiftLeft_eq]; rfl
  · show (x.toBitVec <<< (48 : Nat)).toNat = _
    rw [BitVec.toNat_shiftLeft, Nat.shiftLeft_eq]; rfl
theorem shr_56 {x : Int64} (h : n64 x < 9223372036854775808) : (x >>> ((56 : Int32).toInt64 &&& 63)).toInt32.toInt = (n64 x / 72057594037927936 : Nat) := by
  unfold n64 at *
  have e : (x >>> ((56 : Int32).toInt64 &&& 63)).toBitVec = x.toBitVec.sshiftRight 56 := rfl
  have h1 : (x >>> ((56 : Int32).toInt64 &&& 63)).toInt = (x.toBitVec.toNat / 72057594037927936 : Nat) := by
    show (x >>> ((56 : Int32).toInt64 &&& 63)).toBitVec.toInt = _
    rw [e, BitVec.toInt_sshiftRight, BitVec.toInt_eq_toNat_cond, if_pos (by omega), Int.shiftRight_eq_div_pow]
    rfl
  rw [Int64.toInt_toInt32, h1]
  apply Int.bmod_eq_of_le
  · omega
  · omega
/-- digits to base 256, the first the lowest -/
def lo : List Nat → Nat
  | [] => 0
  | c :: cs => c + 256 * lo cs
theorem lo_lt {cs : List Nat} (h : ∀ c ∈ cs, c < 256) : lo cs < 256 ^ cs.length := by
  induction cs with
  | nil => simp [lo]
  | cons c cs ih =>
    have h1 := ih (fun x hx => h x (List.mem_cons_of_mem _ hx))
    have h2 := h c List.mem_cons_self
    rw [List.length_cons, Nat.pow_succ]
    unfold lo
    omega
theorem lo_snoc {cs : List Nat} {c : Nat} : lo (cs ++ [c]) = lo cs + c * 256 ^ cs.length := by
  induction cs with
  | nil => simp [lo]
  | cons d cs ih =>
    rw [List.cons_append]
    show d + 256 * lo (cs ++ [c]) = d + 256 * lo cs + c * 256 ^ (cs.length + 1)
    rw [ih, Nat.pow_succ, Nat.mul_add]
    have : 256 * (c * 256 ^ cs.length) = c * (256 ^ cs.length * 256) := by
      rw [Nat.mul_comm 256, Nat.mul_assoc]
    omega
theorem or_add {a b k : Nat} (h : b < 2 ^ k) : a * 2 ^ k ||| b = a * 2 ^ k + b := by
  rw [Nat.mul_comm]
  exact (Nat.two_pow_add_eq_or_of_lt h a).symm
/-- a text's characters -/
def chN (cs : List Int32) : List Nat := cs.map (fun c => c.toInt.toNat)
def okC (cs : List Int32) : Prop := ∀ c ∈ cs, 0 ≤ c.toInt ∧ c.toInt < 256
theorem okC.n {cs : List Int32} (h : okC cs) : ∀ c ∈ chN cs, c < 256 := by
  intro c hc
  obtain ⟨x, hx, rfl⟩ := List.mem_map.mp hc
  have := h x hx
  omega
def encU (cs : List Int32) : Int64 × Int64 := cs.foldl addE (0, 0)
theorem encU_snoc (cs : List Int32) (c : Int32) : encU (cs ++ [c]) = addE (encU cs) c := by
  unfold encU
  rw [List.foldl_append]
  rfl
theorem pow256 (k : Nat) : 256 ^ k = 2 ^ (8 * k) := by
  rw [show (256 : Nat) = 2 ^ 8 from rfl, ← Nat.pow_mul]
/-- the numbers of a packed text -/
theorem enc_num : ∀ (n : Nat) (cs : List Int32), cs.length = n → n ≤ 10 → okC cs → n64 (encU cs).1 = lo ((chN cs).take 7) + n * 72057594037927936 ∧ n64 (encU cs).2 = lo ((chN cs).drop 7) := by
  intro n
  induction n with
  | zero =>
    intro cs hl _ _
    rw [List.length_eq_zero_iff] at hl
    subst hl
    exact ⟨rfl, rfl⟩
  | succ n ih =>
    intro cs hl hn hok
    obtain ⟨ds, c, rfl⟩ : ∃ ds c, cs = ds ++ [c] := ⟨cs.dropLast, cs.getLast (by intro e; rw [e] at hl; cases hl), (List.dropLast_concat_getLast _).symm⟩
    rw [List.length_append, List.length_singleton] at hl
    have hdl : ds.length = n := by omega
    have hds : okC ds := fun x hx => hok x (List.mem_append_left _ hx)
    obtain ⟨c0, c1⟩ := hok c (by simp)
    obtain ⟨h1, h2⟩ := ih ds hdl (by omega) hds
    have hcl : (chN ds).length = n := by unfold chN; rw [List.length_map]; exact hdl
    have hch : chN (ds ++ [c]) = chN ds ++ [c.toInt.toNat] := by unfold chN; rw [List.map_append]; rfl
    have hlo7 : lo ((chN ds).take 7) < 72057594037927936 := by
      have := lo_lt (cs := (chN ds).take 7) (fun x hx => hds.n x (List.mem_of_mem_take hx))
      have h9 : 256 ^ ((chN ds).take 7).length ≤ 256 ^ 7 := Nat.pow_le_pow_right (by decide) (by rw [List.length_take]; omega)
      have h8 : (256 : Nat) ^ 7 = 72057594037927936 := by decide
      omega
    have hlen : ((encU ds).1 >>> ((56 : Int32).toInt64 &&& 63)).toInt32.toInt = n := by
      rw [shr_56 (by rw [h1]; omega), h1]
      have : (lo ((chN ds).take 7) + n * 72057594037927936) / 72057594037927936 = n := by omega
      rw [this]
    rw [encU_snoc, hch]
    generalize hx : ((encU ds).1 >>> ((56 : Int32).toInt64 &&& 63)).toInt32 = x at *
    have h56 : n64 (72057594037927936 : Int64) = 72057594037927936 := by decide
    by_cases hn7 : n < 7
    · have hx7 : ¬ (7 : Int32) ≤ x := fun e => by have := i32le.mp e; have h9 : (7 : Int32).toInt = 7 := by decide
                                                  omega
      have hxc : x = 0 ∨ x = 1 ∨ x = 2 ∨ x = 3 ∨ x = 4 ∨ x = 5 ∨ x = 6 := by
        rcases (show x.toInt = 0 ∨ x.toInt = 1 ∨ x.toInt = 2 ∨ x.toInt = 3 ∨ x.toInt = 4 ∨ x.toInt = 5 ∨ x.toInt = 6 by omega) with e | e | e | e | e | e | e
        · exact Or.inl (i32eq (e.trans (by decide)))
        · exact Or.inr (Or.inl (i32eq (e.trans (by decide))))
        · exact Or.inr (Or.inr (Or.inl (i32eq (e.trans (by decide)))))
        · exact Or.inr (Or.inr (Or.inr (Or.inl (i32eq (e.trans (by decide))))))
        · exact Or.inr (Or.inr (Or.inr (Or.inr (Or.inl (i32eq (e.trans (by decide)))))))
        · exact Or.inr (Or.inr (Or.inr (Or.inr (Or.inr (Or.inl (i32eq (e.trans (by decide))))))))
        · exact Or.inr (Or.inr (Or.inr (Or.inr (Or.inr (Or.inr (i32eq (e.trans (by decide))))))))
      have ht : (chN ds).take 7 = chN ds := List.take_of_length_le (by omega)
      have ht2 : (chN ds ++ [c.toInt.toNat]).take 7 = chN ds ++ [c.toInt.toNat] := List.take_of_length_le (by rw [List.length_append, List.length_singleton]; omega)
      have hd : (chN ds).drop 7 = [] := List.drop_of_length_le (by omega)
      have hd2 : (chN ds ++ [c.toInt.toNat]).drop 7 = [] := List.drop_of_length_le (by rw [List.length_append, List.length_singleton]; omega)
      unfold addE
      rw [hx]
      dsimp only
      rw [if_neg hx7, if_neg hx7, n64_add, n64_or, shl_8 _ hxc, n64_c c0, h1, h2, h56, ht, ht2, hd, hd2, lo_snoc, hcl, show x.toInt.toNat = n by omega]
      have hlt := lo_lt (cs := chN ds) hds.n
      rw [hcl, pow256] at hlt
      rw [pow256]
      have hp : 2 ^ (8 * n) ≤ 2 ^ 48 := Nat.pow_le_pow_right (by decide) (by omega)
      have h48 : (2 : Nat) ^ 48 = 281474976710656 := by decide
      have hcp : c.toInt.toNat * 2 ^ (8 * n) ≤ 255 * 2 ^ 48 := Nat.mul_le_mul (by omega) hp
      have hcs : c.toInt.toNat * 2 ^ (8 * n) + lo (chN ds) < 72057594037927936 := by
        have : c.toInt.toNat * 2 ^ (8 * n) + 2 ^ (8 * n) ≤ 256 * 2 ^ 48 := by
          have : c.toInt.toNat * 2 ^ (8 * n) + 2 ^ (8 * n) = (c.toInt.toNat + 1) * 2 ^ (8 * n) := by rw [Nat.add_mul, Nat.one_mul]
          rw [this]
          exact Nat.mul_le_mul (by omega) hp
        omega
      rw [Nat.mod_eq_of_lt (show c.toInt.toNat * 2 ^ (8 * n) < 18446744073709551616 by omega)]
      have hor : lo (chN ds) + n * 72057594037927936 ||| c.toInt.toNat * 2 ^ (8 * n) = n * 72057594037927936 + (c.toInt.toNat * 2 ^ (8 * n) + lo (chN ds)) := by
        have e1 : lo (chN ds) + n * 72057594037927936 = n * 2 ^ 56 ||| lo (chN ds) := by
          rw [or_add (by omega)]
          omega
        rw [e1, Nat.or_assoc, Nat.or_comm (lo (chN ds)), or_add hlt, or_add (by omega)]
      rw [hor]
      refine ⟨?_, rfl⟩
      rw [Nat.mod_eq_of_lt (by omega)]
      omega
    · have hx7 : (7 : Int32) ≤ x := i32le.mpr (by have h9 : (7 : Int32).toInt = 7 := by decide
                                                  omega)
      have hx3 : x - 7 = 0 ∨ x - 7 = 1 ∨ x - 7 = 2 := by
        rcases (show x.toInt = 7 ∨ x.toInt = 8 ∨ x.toInt = 9 by omega) with e | e | e
        · left; rw [i32eq (e.trans (show (7 : Int) = (7 : Int32).toInt by decide))]; decide
        · right; left; rw [i32eq (e.trans (show (8 : Int) = (8 : Int32).toInt by decide))]; decide
        · right; right; rw [i32eq (e.trans (show (9 : Int) = (9 : Int32).toInt by decide))]; decide
      have hx37 : (x - 7).toInt.toNat = n - 7 := by
        rcases (show x.toInt = 7 ∨ x.toInt = 8 ∨ x.toInt = 9 by omega) with e | e | e
        · have hn9 : n = 7 := by omega
          rw [i32eq (e.trans (show (7 : Int) = (7 : Int32).toInt by decide)), hn9]; decide
        · have hn9 : n = 8 := by omega
          rw [i32eq (e.trans (show (8 : Int) = (8 : Int32).toInt by decide)), hn9]; decide
        · have hn9 : n = 9 := by omega
          rw [i32eq (e.trans (show (9 : Int) = (9 : Int32).toInt by decide)), hn9]; decide
      have ht2 : (chN ds ++ [c.toInt.toNat]).take 7 = (chN ds).take 7 := List.take_append_of_le_length (by omega)
      have hd2 : (chN ds ++ [c.toInt.toNat]).drop 7 = (chN ds).drop 7 ++ [c.toInt.toNat] := List.drop_append_of_le_length (by omega)
      have hdl2 : ((chN ds).drop 7).length = n - 7 := by rw [List.length_drop, hcl]
      unfold addE
      rw [hx]
      dsimp only
      rw [if_pos hx7, if_pos hx7, n64_add, n64_or, shl_8 _ (by rcases hx3 with e | e | e <;> simp [e]), n64_c c0, h1, h2, h56, ht2, hd2, lo_snoc, hdl2, hx37]
      have hlt := lo_lt (cs := (chN ds).drop 7) (fun x hx => hds.n x (List.mem_of_mem_drop hx))
      rw [hdl2, pow256] at hlt
      rw [pow256]
      have hp : 2 ^ (8 * (n - 7)) ≤ 2 ^ 16 := Nat.pow_le_pow_right (by decide) (by omega)
      have hcp : c.toInt.toNat * 2 ^ (8 * (n - 7)) ≤ 255 * 2 ^ 16 := Nat.mul_le_mul (by omega) hp
      rw [Nat.mod_eq_of_lt (by omega), Nat.mod_eq_of_lt (by omega), Nat.or_comm, or_add hlt]
      exact ⟨by omega, by omega⟩
