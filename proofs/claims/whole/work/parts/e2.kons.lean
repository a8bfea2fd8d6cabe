/-! The constants as they lie at the law's start. -/
/-- an array's numbers and length, read off a heap -/
def hEl (H : Heap) (a j : Nat) : Int32 := match H[a]? with
  | some c => match c.slots[j]? with
    | some (.int x) => x
    | _ => 0
  | none => 0
def hLn (H : Heap) (a : Nat) : Nat := match H[a]? with
  | some c => c.slots.size.toInt32.toNatClampNeg
  | none => 0
theorem hLn_of {ty : FieldType} {a N : Nat} {f : Nat → Value} {A : Nat → Prop} {U : State} {H : Heap} (h : va_T ty a N f A U H) (hN : N < 2147483648) : hLn H a = N := by
  obtain ⟨cell, h1, -, -, -, h5, -⟩ := h
  unfold hLn
  rw [h1]
  show cell.slots.size.toInt32.toNatClampNeg = N
  rw [h5]
  show (Int32.ofNat N).toInt.toNat = N
  rw [ofNat_i hN]
  omega
theorem hEl_of {ty : FieldType} {a N : Nat} {f : Nat → Int32} {A : Nat → Prop} {U : State} {H : Heap} (h : va_T ty a N (fun j => .int (f j)) A U H) {j : Nat} (hj : j < N) : hEl H a j = f j := by
  obtain ⟨cell, h1, -, -, -, -, h6, -⟩ := h
  unfold hEl
  rw [h1]
  show (match cell.slots[j]? with | some (.int x) => x | _ => 0) = f j
  rw [h6 j hj]
theorem vT_rd {ty : FieldType} {a N : Nat} {f : Nat → Int32} {A : Nat → Prop} {U : State} {H : Heap} (h : va_T ty a N (fun j => .int (f j)) A U H) (hN : N < 2147483648) : va_T ty a (hLn H a) (fun j => .int (hEl H a j)) A U H := by
  rw [hLn_of h hN]
  have h9 := h
  obtain ⟨cell, h1, h2, h3, h4, h5, h6, h7⟩ := h
  exact ⟨cell, h1, h2, h3, h4, h5, fun j hj => by rw [h6 j hj]; show some (Value.int (f j)) = some (Value.int (hEl H a j)); rw [hEl_of h9 hj], h7⟩
/-- what lies at a constant's address -/
def kC (H : Heap) (ad av : Nat → Nat) (t1 a : Nat) : CE := match (List.range 13).find? (fun i => ad i == a) with
  | some i => .inr (.inr (12, [.ref (av i), .int 0]))
  | none => if a = t1 then .inl (1, 7, hEl H a) else .inl (2, hLn H a, hEl H a)
theorem kC_s {H : Heap} {ad av : Nat → Nat} {t1 i : Nat} (hj : ∀ i j : Nat, i < 13 → j < 13 → ad i = ad j → i = j) (hi : i < 13) : kC H ad av t1 (ad i) = .inr (.inr (12, [.ref (av i), .int 0])) := by
  unfold kC
  cases h : (List.range 13).find? (fun k => ad k == ad i) with
  | none => exact absurd (List.find?_eq_none.mp h i (List.mem_range.mpr hi)) (by simp)
  | some k =>
    have h1 := List.find?_some h
    have h2 := List.mem_range.mp (List.mem_of_find?_eq_some h)
    have e : k = i := hj k i h2 hi (by simpa using h1)
    subst e
    rfl
theorem kC_a {H : Heap} {ad av : Nat → Nat} {t1 a : Nat} (hn : ∀ i, i < 13 → ad i ≠ a) : kC H ad av t1 a = if a = t1 then .inl (1, 7, hEl H a) else .inl (2, hLn H a, hEl H a) := by
  unfold kC
  cases h : (List.range 13).find? (fun k => ad k == a) with
  | none => rfl
  | some k => exact absurd (by simpa using List.find?_some h) (hn k (List.mem_range.mp (List.mem_of_find?_eq_some h)))
theorem vT_one {ty ty2 : FieldType} {a N N2 : Nat} {f f2 : Nat → Value} {A : Nat → Prop} {U : State} {H : Heap} (h : va_T ty a N f A U H) (h2 : va_T ty2 a N2 f2 A U H) : ty = ty2 := by
  obtain ⟨cell, h1, ⟨-, k, h4, comp, h5⟩, -⟩ := h
  obtain ⟨cell2, g1, ⟨-, k2, g4, comp2, g5⟩, -⟩ := h2
  rw [h1] at g1
  cases g1
  rw [h4] at g4
  cases g4
  rw [h5] at g5
  cases g5
  rfl
theorem vT_no {G : Gk} {ty : FieldType} {a N : Nat} {f : Nat → Value} {A : Nat → Prop} {U : State} {H : Heap} (hK : va_K G.1 vwCl (TY G.2) U) (h : va_T ty a N f A U H) (h2 : va_O "java/lang/String" a A U H) : False := by
  obtain ⟨cell, h1, ⟨-, k, h4, comp, h5⟩, -⟩ := h
  obtain ⟨cell2, g1, -, g3, -⟩ := h2
  obtain ⟨c1, kC, c2, c3⟩ := (hK.1 12 _ rfl).2
  have c1 : U.vm.findClass "java/lang/String" = some (G.1.1 12) := c1
  rw [h1] at g1
  cases g1
  rw [c1] at g3
  injection g3 with g3
  rw [g3, h4] at c2
  cases c2
  rw [h5] at c3
  cases c3
set_option maxRecDepth 100000 in
theorem sK_n : ∀ i, i < 13 → sLen.getD i 0 ≤ 7 ∧ (List.range (sLen.getD i 0)).map (fun j => (sByt.getD i []).getD j 0) = sByt.getD i [] ∧ ∀ j, j < sLen.getD i 0 → fits .byte (.int ((sByt.getD i []).getD j 0)) = true := by decide +kernel
theorem zMk_k {ad : Nat → Nat} {t1 t2 t3 f4 f5 n6 n7 : Nat} {kd : Nat → Nat} : ∀ i, i < 7 → zMk ad t1 t2 t3 f4 f5 n6 n7 kd (8 + i) = kd i := fun i hi => by
  rcases (show i = 0 ∨ i = 1 ∨ i = 2 ∨ i = 3 ∨ i = 4 ∨ i = 5 ∨ i = 6 by omega) with rfl | rfl | rfl | rfl | rfl | rfl | rfl <;> rfl
/-- the constants -/
def kKE (H : Heap) (ad av : Nat → Nat) (t1 t2 t3 : Nat) : KE := ((List.range 13).map ad ++ ((List.range 13).map av ++ [t1, t2, t3]), kC H ad av t1)
/-- of the texts among the constants -/
def kz (K : KE) : Prop := ∀ a ∈ K.1, ∀ (ci : Nat) (fs : List Value), K.2 a = .inr (.inr (ci, fs)) → ci = 12 ∧ ∀ (v : Nat) (gs : List Value), fs = .ref v :: gs → v ∈ K.1 ∧ ∃ (n : Nat) (g : Nat → Int32), K.2 v = .inl (2, n, g) ∧ n ≤ 65536 ∧ ∀ i, i < n → fits .byte (.int (g i)) = true
set_option maxHeartbeats 4000000 in
set_option maxRecDepth 100000 in
theorem law_k {G : Gk} {s : State} {A : Nat → Prop} {ad av kd : Nat → Nat} {t1 t2 t3 f4 f5 n6 n7 : Nat} (hK : va_K G.1 vwCl (TY G.2) s) (hS : vk_S 13 sLen sByt ad av A s s.heap) (T1 : va_T .int t1 7 (fun j => .int (sMap.getD j 0)) A s s.heap) (T2 : va_T .byte t2 100 (fun j => .int (dOne j)) A s s.heap) (T3 : va_T .byte t3 100 (fun j => .int (dTen j)) A s s.heap) (hkd : ∀ i j, i < 7 → j < 7 → kd i = kd j → i = j) : ∃ K : KE, rH G K A s s.heap ∧ kc (zMk ad t1 t2 t3 f4 f5 n6 n7 kd) K ∧ kt (zMk ad t1 t2 t3 f4 f5 n6 n7 kd) K ∧ kz K ∧ ∀ a ∈ K.1, a < s.heap.size ∧ ¬ A a := by
  have hna : ∀ {ty : FieldType} {a N : Nat} {f : Nat → Value}, va_T ty a N f A s s.heap → ∀ i, i < 13 → ad i ≠ a := fun h i hi e => vT_no hK h (by rw [← e]; exact (hS.1 i hi).1)
  have hav : ∀ i, i < 13 → va_T .byte (av i) (sLen.getD i 0) (fun j => .int ((sByt.getD i []).getD j 0)) A s s.heap := fun i hi => (hS.1 i hi).2.2.2
  have hby : ∀ {a N : Nat} {f : Nat → Int32}, N < 2147483648 → va_T .byte a N (fun j => .int (f j)) A s s.heap → kC s.heap ad av t1 a = .inl (2, hLn s.heap a, hEl s.heap a) := fun hN h => by
    rw [kC_a (hna h), if_neg (fun e => by subst e; cases vT_one h T1)]
  have hst : ∀ i, i < 13 → kC s.heap ad av t1 (ad i) = .inr (.inr (12, [.ref (av i), .int 0])) := fun i hi => kC_s hS.2 hi
  have h1 : kC s.heap ad av t1 t1 = .inl (1, 7, hEl s.heap t1) := by rw [kC_a (hna T1), if_pos rfl]
  have hl7 : ∀ i, i < 13 → sLen.getD i 0 < 2147483648 := fun i hi => by have := (sK_n i hi).1; omega
  have hin : ∀ a, a ∈ (kKE s.heap ad av t1 t2 t3).1 → (∃ i, i < 13 ∧ ad i = a) ∨ (∃ i, i < 13 ∧ av i = a) ∨ t1 = a ∨ t2 = a ∨ t3 = a := by
    intro a ha
    rcases List.mem_append.mp ha with ha | ha
    · obtain ⟨i, hi, e⟩ := List.mem_map.mp ha
      exact Or.inl ⟨i, List.mem_range.mp hi, e⟩
    · rcases List.mem_append.mp ha with ha | ha
      · obtain ⟨i, hi, e⟩ := List.mem_map.mp ha
        exact Or.inr (Or.inl ⟨i, List.mem_range.mp hi, e⟩)
      · right; right
        simpa [eq_comm] using ha
  have mad : ∀ i, i < 13 → ad i ∈ (kKE s.heap ad av t1 t2 t3).1 := fun i hi => List.mem_append_left _ (List.mem_map.mpr ⟨i, List.mem_range.mpr hi, rfl⟩)
  have mav : ∀ i, i < 13 → av i ∈ (kKE s.heap ad av t1 t2 t3).1 := fun i hi => List.mem_append_right _ (List.mem_append_left _ (List.mem_map.mpr ⟨i, List.mem_range.mpr hi, rfl⟩))
  have mt : t1 ∈ (kKE s.heap ad av t1 t2 t3).1 ∧ t2 ∈ (kKE s.heap ad av t1 t2 t3).1 ∧ t3 ∈ (kKE s.heap ad av t1 t2 t3).1 := ⟨List.mem_append_right _ (List.mem_append_right _ (by simp)), List.mem_append_right _ (List.mem_append_right _ (by simp)), List.mem_append_right _ (List.mem_append_right _ (by simp))⟩
  have hbk : ∀ {a N : Nat} {f : Nat → Int32}, N < 2147483648 → va_T .byte a N (fun j => .int (f j)) A s s.heap → kAt G a A s s.heap (kC s.heap ad av t1 a) := fun hN h => by
    rw [hby hN h]
    exact ⟨.byte, rfl, vT_rd h hN⟩
  have hT : ∀ {ty : FieldType} {a N : Nat} {f : Nat → Value}, va_T ty a N f A s s.heap → a < s.heap.size ∧ ¬ A a := fun h => by
    obtain ⟨cell, q1, -, -, -, -, -, q7⟩ := h
    exact ⟨(Array.getElem?_eq_some_iff.mp q1).1, q7⟩
  have hstr : ∀ i, i < 13 → strK (kKE s.heap ad av t1 t2 t3) (ad i) (sByt.getD i []) := by
    intro i hi
    refine ⟨mad i hi, av i, sLen.getD i 0, [], hEl s.heap (av i), hst i hi, mav i hi, ?_, ?_⟩
    · show kC s.heap ad av t1 (av i) = _
      rw [hby (hl7 i hi) (hav i hi), hLn_of (hav i hi) (hl7 i hi)]
    · rw [← (sK_n i hi).2.1]
      refine List.map_congr_left (fun j hj => ?_)
      exact hEl_of (hav i hi) (List.mem_range.mp hj)
  refine ⟨kKE s.heap ad av t1 t2 t3, ?_, ⟨?_, ?_, ?_⟩, ⟨⟨mt.1, 7, hEl s.heap t1, h1, Nat.le_refl 7, ?_, ?_⟩, ⟨mt.2.1, hEl s.heap t2, ?_, ?_⟩, ⟨mt.2.2, hEl s.heap t3, ?_, ?_⟩⟩, ?_, ?_⟩
  · intro a ha
    show kAt G a A s s.heap (kC s.heap ad av t1 a)
    rcases hin a ha with ⟨i, hi, rfl⟩ | ⟨i, hi, rfl⟩ | rfl | rfl | rfl
    · rw [hst i hi]
      obtain ⟨g1, g2, g3, -⟩ := hS.1 i hi
      refine ⟨_, rfl, g1, fun k v hk => ?_⟩
      rcases k with _ | _ | k
      · cases hk; exact g3
      · cases hk; exact g2
      · cases hk
    · exact hbk (hl7 i hi) (hav i hi)
    · rw [h1]
      have h9 := vT_rd T1 (by decide)
      rw [hLn_of T1 (by decide)] at h9
      exact ⟨.int, rfl, h9⟩
    · exact hbk (by decide) T2
    · exact hbk (by decide) T3
  · intro i j i0 i1 j0 j1 e
    obtain ⟨i, rfl⟩ : ∃ x, i = 8 + x := ⟨i - 8, by omega⟩
    obtain ⟨j, rfl⟩ : ∃ x, j = 8 + x := ⟨j - 8, by omega⟩
    rw [zMk_k i (by omega), zMk_k j (by omega)] at e
    rw [hkd i j (by omega) (by omega) e]
  · intro p hp
    have hp : p = (0, []) ∨ p = (20, [110, 117, 108, 108]) ∨ p = (21, [116, 114, 117, 101]) ∨ p = (22, [102, 97, 108, 115, 101]) ∨ p = (23, [111, 112]) ∨ p = (24, [112, 97, 116, 104]) ∨ p = (25, [97, 100, 100]) ∨ p = (26, [114, 101, 112, 108, 97, 99, 101]) ∨ p = (27, [118, 97, 108, 117, 101]) ∨ p = (28, [99, 111, 112, 121]) ∨ p = (29, [102, 114, 111, 109]) ∨ p = (30, [114, 101, 109, 111, 118, 101]) ∨ p = (31, [45]) := by simpa [KS] using hp
    rcases hp with rfl | rfl | rfl | rfl | rfl | rfl | rfl | rfl | rfl | rfl | rfl | rfl | rfl
    · exact hstr 0 (by decide)
    · exact hstr 1 (by decide)
    · exact hstr 2 (by decide)
    · exact hstr 3 (by decide)
    · exact hstr 4 (by decide)
    · exact hstr 5 (by decide)
    · exact hstr 6 (by decide)
    · exact hstr 7 (by decide)
    · exact hstr 8 (by decide)
    · exact hstr 9 (by decide)
    · exact hstr 10 (by decide)
    · exact hstr 11 (by decide)
    · exact hstr 12 (by decide)
  · intro a ha fs e
    change kC s.heap ad av t1 a = .inr (.inr (11, fs)) at e
    rcases hin a ha with ⟨i, hi, rfl⟩ | ⟨i, hi, rfl⟩ | rfl | rfl | rfl
    · rw [hst i hi] at e; cases e
    · rw [hby (hl7 i hi) (hav i hi)] at e; cases e
    · rw [h1] at e; cases e
    · rw [hby (by decide) T2] at e; cases e
    · rw [hby (by decide) T3] at e; cases e
  · intro i hi
    rw [hEl_of T1 (by omega)]
    rcases (show i = 0 ∨ i = 1 ∨ i = 2 ∨ i = 3 ∨ i = 4 ∨ i = 5 by omega) with rfl | rfl | rfl | rfl | rfl | rfl <;> rfl
  · intro i hi
    rw [hEl_of T1 (by omega)]
    rcases (show i = 0 ∨ i = 1 ∨ i = 2 ∨ i = 3 ∨ i = 4 ∨ i = 5 by omega) with rfl | rfl | rfl | rfl | rfl | rfl <;> decide
  · show kC s.heap ad av t1 t2 = _
    rw [hby (by decide) T2, hLn_of T2 (by decide)]
  · intro i hi
    rw [hEl_of T2 hi]
    rfl
  · show kC s.heap ad av t1 t3 = _
    rw [hby (by decide) T3, hLn_of T3 (by decide)]
  · intro i hi
    rw [hEl_of T3 hi]
    rfl
  · intro a ha ci fs e
    change kC s.heap ad av t1 a = .inr (.inr (ci, fs)) at e
    rcases hin a ha with ⟨i, hi, rfl⟩ | ⟨i, hi, rfl⟩ | rfl | rfl | rfl
    · rw [hst i hi] at e
      cases e
      refine ⟨rfl, fun v gs e => ?_⟩
      cases e
      refine ⟨mav i hi, sLen.getD i 0, hEl s.heap (av i), ?_, by have := (sK_n i hi).1; omega, fun j hj => ?_⟩
      · show kC s.heap ad av t1 (av i) = _
        rw [hby (hl7 i hi) (hav i hi), hLn_of (hav i hi) (hl7 i hi)]
      · rw [hEl_of (hav i hi) hj]
        exact (sK_n i hi).2.2 j hj
    · rw [hby (hl7 i hi) (hav i hi)] at e; cases e
    · rw [h1] at e; cases e
    · rw [hby (by decide) T2] at e; cases e
    · rw [hby (by decide) T3] at e; cases e
  · intro a ha
    rcases hin a ha with ⟨i, hi, rfl⟩ | ⟨i, hi, rfl⟩ | rfl | rfl | rfl
    · obtain ⟨cell, q1, -, -, q4⟩ := (hS.1 i hi).1
      exact ⟨(Array.getElem?_eq_some_iff.mp q1).1, q4⟩
    · exact hT (hav i hi)
    · exact hT T1
    · exact hT T2
    · exact hT T3
