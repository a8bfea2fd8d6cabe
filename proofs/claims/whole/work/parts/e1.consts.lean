/-! The constants at the law's start: Kind's objects, tables, texts. -/
def flA : Jvm.Cond → List Jvm.Cond → List Jvm.Cond
  | .and a b, acc => flA a (flA b acc)
  | c, acc => c :: acc
theorem flA_of {args : Array Value} {s : State} (T : Jvm.Cond) : ∀ acc : List Jvm.Cond, T.before args s = true → (∀ c ∈ acc, c.before args s = true) → ∀ c ∈ flA T acc, c.before args s = true := by
  induction T with
  | and a b iha ihb =>
    intro acc h ha
    rw [Cond.before_and, Bool.and_eq_true] at h
    exact iha _ h.1 (ihb _ h.2 ha)
  | _ =>
    intro acc h ha c hc
    rcases List.mem_cons.mp hc with e | e
    · rw [e]; exact h
    · exact ha c e
def nfl : List Jvm.Cond := flA narrow_1 []
def sOwn : List (String × Nat) := [("PagedValues$Selector", 7), ("PagedValues$ValueParser", 58), ("PagedValues$ValueParser", 67), ("PagedValues$ValueParser", 72), ("PagedValues$Patcher", 60), ("PagedValues$Patcher", 66), ("PagedValues$Patcher", 72), ("PagedValues$Patcher", 80), ("PagedValues$Patcher", 82), ("PagedValues$Patcher", 88), ("PagedValues$Patcher", 90), ("PagedValues$Patcher", 92), ("PagedValues$Patcher", 161)]
def sTm (i : Nat) : Term := Term.string (sOwn.getD i ("", 0)).1 (sOwn.getD i ("", 0)).2
def sLen : List Nat := KS.map (fun p => p.2.length)
def sByt : List (List Int32) := KS.map (fun p => p.2)
def dOne (j : Nat) : Int32 := Int32.ofNat (48 + j % 10)
def dTen (j : Nat) : Int32 := Int32.ofNat (48 + j / 10)
def sMap : List Int32 := [1, 2, 3, 4, 5, 6, 0]
theorem nbf {args : Array Value} {s : State} {x : Bool} {c d : Jvm.Cond} (h : (bif x then c else d).before args s = true) : c.before args s = true ∨ d.before args s = true := by cases x; exact Or.inr h; exact Or.inl h
theorem nm {k : Nat} {c : Jvm.Cond} (h : nfl[k]? = some c) : c ∈ nfl := List.mem_of_getElem? h
set_option maxRecDepth 100000 in
theorem n_ex : ∀ i, i < 13 → nfl[([273, 295, 307, 320, 335, 348, 377, 394, 416, 437, 458, 480, 505] : List Nat).getD i 0]? = some (Cond.exactly (sTm i) "java/lang/String") := by decide +kernel
set_option maxRecDepth 100000 in
theorem n_co : ∀ i, i < 13 → nfl[([274, 296, 308, 321, 336, 349, 378, 395, 417, 438, 459, 481, 506] : List Nat).getD i 0]? = some (Cond.eq (.field (sTm i) "java/lang/String" "coder" "B") (.int 0)) := by decide +kernel
set_option maxRecDepth 100000 in
theorem n_ar : ∀ i, i < 13 → nfl[([275, 297, 309, 322, 337, 350, 379, 396, 418, 439, 460, 482, 507] : List Nat).getD i 0]? = some (Cond.arrayOf (.field (sTm i) "java/lang/String" "value" "[B") .byte) := by decide +kernel
set_option maxRecDepth 100000 in
theorem n_le : ∀ i, i < 13 → nfl[([276, 298, 310, 323, 338, 351, 380, 397, 419, 440, 461, 483, 508] : List Nat).getD i 0]? = some (Cond.eq (.length (.field (sTm i) "java/lang/String" "value" "[B")) (.int (Int32.ofNat (sLen.getD i 0)))) := by decide +kernel
def pEl : List (List Nat) := [[], [299, 300, 301, 302], [311, 312, 313, 314], [324, 325, 326, 327, 328], [339, 340], [352, 353, 354, 355], [381, 382, 383], [398, 399, 400, 401, 402, 403, 404], [420, 421, 422, 423, 424], [441, 442, 443, 444], [462, 463, 464, 465], [484, 485, 486, 487, 488, 489], [509]]
set_option maxRecDepth 100000 in
theorem n_el : ∀ i, i < 13 → ∀ j, j < sLen.getD i 0 → nfl[(pEl.getD i []).getD j 0]? = some (Cond.eq (.elem (.field (sTm i) "java/lang/String" "value" "[B") (.int (Int32.ofNat j))) (.int ((sByt.getD i []).getD j 0))) := by decide +kernel
def pNe : List (Nat × Bool) := [(0, true), (303, true), (315, true), (329, true), (341, true), (356, true), (384, true), (405, true), (425, true), (445, true), (466, true), (490, true), (510, true), (303, false), (0, true), (319, true), (333, true), (345, true), (360, true), (388, true), (409, true), (429, true), (449, true), (470, true), (494, true), (514, true), (315, false), (319, false), (0, true), (334, true), (346, true), (361, true), (389, true), (410, true), (430, true), (450, true), (471, true), (495, true), (515, true), (329, false), (333, false), (334, false), (0, true), (347, true), (362, true), (390, true), (411, true), (431, true), (451, true), (472, true), (496, true), (516, true), (341, false), (345, false), (346, false), (347, false), (0, true), (363, true), (391, true), (412, true), (432, true), (452, true), (473, true), (497, true), (517, true), (356, false), (360, false), (361, false), (362, false), (363, false), (0, true), (392, true), (413, true), (433, true), (453, true), (474, true), (498, true), (518, true), (384, false), (388, false), (389, false), (390, false), (391, false), (392, false), (0, true), (415, true), (435, true), (455, true), (476, true), (500, true), (520, true), (405, false), (409, false), (410, false), (411, false), (412, false), (413, false), (415, false), (0, true), (436, true), (456, true), (477, true), (501, true), (521, true), (425, false), (429, false), (430, false), (431, false), (432, false), (433, false), (435, false), (436, false), (0, true), (457, true), (478, true), (502, true), (522, true), (445, false), (449, false), (450, false), (451, false), (452, false), (453, false), (455, false), (456, false), (457, false), (0, true), (479, true), (503, true), (523, true), (466, false), (470, false), (471, false), (472, false), (473, false), (474, false), (476, false), (477, false), (478, false), (479, false), (0, true), (504, true), (524, true), (490, false), (494, false), (495, false), (496, false), (497, false), (498, false), (500, false), (501, false), (502, false), (503, false), (504, false), (0, true), (525, true), (510, false), (514, false), (515, false), (516, false), (517, false), (518, false), (520, false), (521, false), (522, false), (523, false), (524, false), (525, false), (0, true)]
set_option maxRecDepth 100000 in
theorem n_ne : ∀ i, i < 13 → ∀ j, j < 13 → i ≠ j → nfl[(pNe.getD (13 * i + j) (0, true)).1]? = some (bif (pNe.getD (13 * i + j) (0, true)).2 then Cond.not (Cond.eq (sTm i) (sTm j)) else Cond.not (Cond.eq (sTm j) (sTm i))) := by decide +kernel
set_option maxRecDepth 100000 in
theorem n_k1 : ∀ i, i < 7 → nfl[([16, 21, 27, 34, 12, 3, 9] : List Nat).getD i 0]? = some (Cond.exactly (.static "PagedValues$Kind" (KN.getD i "") "LPagedValues$Kind;") "PagedValues$Kind") := by decide +kernel
set_option maxRecDepth 100000 in
theorem n_k3 : ∀ i, i < 7 → nfl[([17, 22, 28, 35, 13, 4, 10] : List Nat).getD i 0]? = some (Cond.eq (.field (.static "PagedValues$Kind" (KN.getD i "") "LPagedValues$Kind;") "java/lang/Enum" "ordinal" "I") (.int (([0, 1, 2, 3, 4, 5, 6] : List Int32).getD i 0))) := by decide +kernel
def pKe : List (Nat × Bool) := [(0, true), (26, true), (32, true), (39, true), (20, false), (18, false), (19, false), (26, false), (0, true), (33, true), (40, true), (25, false), (23, false), (24, false), (32, false), (33, false), (0, true), (41, true), (31, false), (29, false), (30, false), (39, false), (40, false), (41, false), (0, true), (38, false), (36, false), (37, false), (20, true), (25, true), (31, true), (38, true), (0, true), (14, false), (15, false), (18, true), (23, true), (29, true), (36, true), (14, true), (0, true), (11, true), (19, true), (24, true), (30, true), (37, true), (15, true), (11, false), (0, true)]
set_option maxRecDepth 100000 in
theorem n_k2 : ∀ i, i < 7 → ∀ j, j < 7 → i ≠ j → nfl[(pKe.getD (7 * i + j) (0, true)).1]? = some (bif (pKe.getD (7 * i + j) (0, true)).2 then Cond.not (.eq (.static "PagedValues$Kind" (KN.getD i "") "LPagedValues$Kind;") (.static "PagedValues$Kind" (KN.getD j "") "LPagedValues$Kind;")) else Cond.not (.eq (.static "PagedValues$Kind" (KN.getD j "") "LPagedValues$Kind;") (.static "PagedValues$Kind" (KN.getD i "") "LPagedValues$Kind;"))) := by decide +kernel
set_option maxRecDepth 100000 in
theorem n_t1 : ∀ j, j < 7 → nfl[45 + j]? = some (Cond.eq (.elem (.static "PagedValues$1" "$SwitchMap$PagedValues$Kind" "[I") (.int (Int32.ofNat j))) (.int (sMap.getD j 0))) := by decide +kernel
set_option maxRecDepth 100000 in
theorem n_t2 : ∀ j, j < 100 → nfl[55 + j]? = some (Cond.eq (.elem (.static "java/lang/Integer" "DigitOnes" "[B") (.int (Int32.ofNat j))) (.int (dOne j))) := by decide +kernel
set_option maxRecDepth 100000 in
theorem n_t3 : ∀ j, j < 100 → nfl[158 + j]? = some (Cond.eq (.elem (.static "java/lang/Integer" "DigitTens" "[B") (.int (Int32.ofNat j))) (.int (dTen j))) := by decide +kernel
set_option maxRecDepth 100000 in
theorem n_ta : nfl[43]? = some (Cond.arrayOf (.static "PagedValues$1" "$SwitchMap$PagedValues$Kind" "[I") .int) ∧ nfl[44]? = some (Cond.eq (.length (.static "PagedValues$1" "$SwitchMap$PagedValues$Kind" "[I")) (.int (Int32.ofNat 7))) ∧ nfl[53]? = some (Cond.arrayOf (.static "java/lang/Integer" "DigitOnes" "[B") .byte) ∧ nfl[54]? = some (Cond.eq (.length (.static "java/lang/Integer" "DigitOnes" "[B")) (.int (Int32.ofNat 100))) ∧ nfl[156]? = some (Cond.arrayOf (.static "java/lang/Integer" "DigitTens" "[B") .byte) ∧ nfl[157]? = some (Cond.eq (.length (.static "java/lang/Integer" "DigitTens" "[B")) (.int (Int32.ofNat 100))) ∧ nfl[5]? = some (Cond.isRef (.static "jdk/internal/util/Preconditions" "SIOOBE_FORMATTER" "Ljava/util/function/BiFunction;")) := by decide +kernel
set_option maxRecDepth 100000 in
theorem n_tw : nfl[281]? = some (Cond.eq (Term.string "PagedValues$Selector" 7) (Term.string "PagedValues$ValueParser" 82)) ∧ nfl[286]? = some (Cond.eq (Term.string "PagedValues$Selector" 7) (Term.string "PagedValues$Value" 9)) ∧ nfl[292]? = some (Cond.eq (Term.string "PagedValues$Selector" 7) (Term.string "PagedValues$Text" 68)) ∧ nfl[368]? = some (Cond.eq (Term.string "PagedValues$Selector" 7) (Term.string "PagedValues$Patcher" 97)) ∧ nfl[538]? = some (Cond.eq (Term.string "PagedValues$ValueParser" 58) (Term.string "PagedValues$Value" 90)) ∧ nfl[564]? = some (Cond.eq (Term.string "PagedValues$ValueParser" 67) (Term.string "PagedValues$Value" 98)) ∧ nfl[592]? = some (Cond.eq (Term.string "PagedValues$ValueParser" 72) (Term.string "PagedValues$Value" 100)) := by decide +kernel
/-- the numbers by which the constants are known -/
def zMk (ad : Nat → Nat) (t1 t2 t3 f4 f5 n6 n7 : Nat) (kd : Nat → Nat) : Nat → Nat := fun k => if k = 0 then ad 0 else if k = 1 then t1 else if k = 2 then t2 else if k = 3 then t3 else if k = 4 then f4 else if k = 5 then f5 else if k = 6 then n6 else if k = 7 then n7 else if k < 15 then kd (k - 8) else ad (k - 19)
set_option maxRecDepth 100000 in
set_option maxHeartbeats 4000000 in
/-- what the start says of them -/
theorem law_c {p : Program} {s : State} {m : MethodId} {meth : Method} {c : Code} {b L : Nat} {xs : Nat → Int32} (C0 : lw_At p s m meth c b L xs) (n6 n7 : Nat) {Zo : Nat → Nat} {A : Nat → Prop} (hA : ∀ a : Nat, a < s.heap.size → ¬ A a) (hZo : zz Zo A s s.heap) : ∃ (ad av kd : Nat → Nat) (t1 t2 t3 f4 f5 : Nat), zy (zMk ad t1 t2 t3 f4 f5 n6 n7 kd) A s s.heap ∧ vk_S 13 sLen sByt ad av A s s.heap ∧ va_T .int t1 7 (fun j => .int (sMap.getD j 0)) A s s.heap ∧ va_T .byte t2 100 (fun j => .int (dOne j)) A s s.heap ∧ va_T .byte t3 100 (fun j => .int (dTen j)) A s s.heap ∧ ∀ i j, i < 7 → j < 7 → kd i = kd j → i = j := by
  obtain ⟨hx, hb, hr, hml, hown, hts, hX, hbl, hlk, hgv⟩ := C0
  have hfl : ∀ c ∈ nfl, c.before #[Value.ref b] s = true := by
    rw [Cond.before_and, Bool.and_eq_true] at hgv
    exact flA_of narrow_1 [] hgv.2 (fun c hc => by cases hc)
  obtain ⟨ad, av, hS, hev⟩ := vk_Sof (args := #[Value.ref b]) (s := s) (N := 13) (tm := sTm) (len := sLen) (byt := sByt) (A := A) (by decide) (fun i hi => hfl _ (nm (n_ex i hi))) (fun i hi => hfl _ (nm (n_co i hi))) (fun i hi => hfl _ (nm (n_ar i hi))) (fun i hi => hfl _ (nm (n_le i hi))) (fun i hi j hj => hfl _ (nm (n_el i hi j hj))) (fun i j hi hj hij => nbf (hfl _ (nm (n_ne i hi j hj hij)))) hA
  obtain ⟨a1, a2, a3, a4, a5, a6, a7⟩ := n_ta
  obtain ⟨t1, e1, T1⟩ := va_Tof (f := fun j => .int (sMap.getD j 0)) (A := A) (by decide) (hfl _ (nm a1)) (va_eqt (hfl _ (nm a2))) (fun j hj => va_eqt (hfl _ (nm (n_t1 j hj)))) hA
  obtain ⟨t2, e2, T2⟩ := va_Tof (f := fun j => .int (dOne j)) (A := A) (by decide) (hfl _ (nm a3)) (va_eqt (hfl _ (nm a4))) (fun j hj => va_eqt (hfl _ (nm (n_t2 j hj)))) hA
  obtain ⟨t3, e3, T3⟩ := va_Tof (f := fun j => .int (dTen j)) (A := A) (by decide) (hfl _ (nm a5)) (va_eqt (hfl _ (nm a6))) (fun j hj => va_eqt (hfl _ (nm (n_t3 j hj)))) hA
  have hlay : ∀ i, i < KN.length → (Cond.laysStatic "PagedValues$Kind" (KN.getD i "") "LPagedValues$Kind;").before #[Value.ref b] s = true := by
    intro i hi
    have hi : i < 7 := hi
    rcases (show i = 0 ∨ i = 1 ∨ i = 2 ∨ i = 3 ∨ i = 4 ∨ i = 5 ∨ i = 6 by omega) with rfl | rfl | rfl | rfl | rfl | rfl | rfl
    · exact (hts _ (tp_3 (List.mem_of_getElem? (i := 140) rfl)))
    · exact (hts _ (tp_3 (List.mem_of_getElem? (i := 170) rfl)))
    · exact (hts _ (tp_3 (List.mem_of_getElem? (i := 173) rfl)))
    · exact (hts _ (tp_3 (List.mem_of_getElem? (i := 186) rfl)))
    · exact (hts _ (tp_3 (List.mem_of_getElem? (i := 137) rfl)))
    · exact (hts _ (tp_2 (List.mem_of_getElem? (i := 96) rfl)))
    · exact (hts _ (tp_3 (List.mem_of_getElem? (i := 106) rfl)))
  obtain ⟨kd, hE⟩ := va_Enof (args := #[Value.ref b]) (s := s) (E := "PagedValues$Kind") (d := "LPagedValues$Kind;") (nm := KN) (F := KO) (A := A) hlay (hts _ (tp_1 (List.mem_of_getElem? (i := 17) rfl))) (fun i hi => hfl _ (nm (n_k1 i hi))) (fun q hq i hi => by
    have hq : q = ("java/lang/Enum", "ordinal", "I", [0, 1, 2, 3, 4, 5, 6]) := List.mem_singleton.mp hq
    subst hq
    exact hfl _ (nm (n_k3 i hi))) (fun i j hi hj hij => nbf (hfl _ (nm (n_k2 i hi j hj hij)))) hA
  have hE2 : ∀ f4 f5 : Nat, va_En "PagedValues$Kind" "LPagedValues$Kind;" KN KO (fun i => zMk ad t1 t2 t3 f4 f5 n6 n7 kd (8 + i)) A s s.heap := by
    intro f4 f5
    have hk : ∀ i, i < 7 → zMk ad t1 t2 t3 f4 f5 n6 n7 kd (8 + i) = kd i := fun i hi => by
      rcases (show i = 0 ∨ i = 1 ∨ i = 2 ∨ i = 3 ∨ i = 4 ∨ i = 5 ∨ i = 6 by omega) with rfl | rfl | rfl | rfl | rfl | rfl | rfl <;> rfl
    refine ⟨fun i hi => ?_, fun i j hi hj h => ?_⟩
    · have h := hE.1 i hi
      rw [← hk i hi] at h
      exact h
    · exact hE.2 i j hi hj (by rw [← hk i hi, ← hk j hj]; exact h)
  have z1 := va_Zref (A := A) (hts _ (tp_5 (List.mem_of_getElem? (i := 44) rfl))) (hts _ (tp_1 (List.mem_of_getElem? (i := 25) rfl))) e1 hA
  have z2 := va_Zref (A := A) (hts _ (tp_5 (List.mem_of_getElem? (i := 107) rfl))) (hts _ (tp_1 (List.mem_of_getElem? (i := 26) rfl))) e2 hA
  have z3 := va_Zref (A := A) (hts _ (tp_5 (List.mem_of_getElem? (i := 109) rfl))) (hts _ (tp_1 (List.mem_of_getElem? (i := 26) rfl))) e3 hA
  have z4 := va_Zqof (A := A) (hts _ (tp_3 (List.mem_of_getElem? (i := 30) rfl))) (hts _ (tp_1 (List.mem_of_getElem? (i := 24) rfl))) (hfl _ (nm a7)) hA
  obtain ⟨f4, f5, z5⟩ : ∃ f4 f5 : Nat, va_Z "jdk/internal/util/Preconditions" "SIOOBE_FORMATTER" "Ljava/util/function/BiFunction;" (va_rf (if f4 = 0 then none else some f5)) A s s.heap := by
    rcases z4 with h | ⟨t, h⟩
    · exact ⟨0, 0, h⟩
    · exact ⟨1, t, h⟩
  obtain ⟨w0, w1, w2, w3, w4, w5, w6⟩ := n_tw
  refine ⟨ad, av, kd, t1, t2, t3, f4, f5, ⟨⟨hZo.1, hZo.2.1, ?_, hZo.2.2.2⟩, ⟨hE2 f4 f5, z1, z2, z3, z5⟩, ?_, ?_⟩, hS, T1, T2, T3, hE.2⟩
  · exact vk_R.of (hts _ (tp_1 (List.mem_of_getElem? (i := 143) rfl))) (hev 0 (by decide))
  · intro q hq
    have hq : q = ("PagedValues$Selector", 7, "", 0) ∨ q = ("PagedValues$ValueParser", 82, "", 0) ∨ q = ("PagedValues$Value", 9, "", 0) ∨ q = ("PagedValues$Text", 68, "", 0) ∨ q = ("PagedValues$Patcher", 97, "", 0) ∨ q = ("PagedValues$ValueParser", 58, "null", 20) ∨ q = ("PagedValues$ValueParser", 67, "true", 21) ∨ q = ("PagedValues$ValueParser", 72, "false", 22) ∨ q = ("PagedValues$Value", 90, "null", 20) ∨ q = ("PagedValues$Value", 98, "true", 21) ∨ q = ("PagedValues$Value", 100, "false", 22) ∨ q = ("PagedValues$Patcher", 60, "op", 23) ∨ q = ("PagedValues$Patcher", 66, "path", 24) ∨ q = ("PagedValues$Patcher", 72, "add", 25) ∨ q = ("PagedValues$Patcher", 80, "replace", 26) ∨ q = ("PagedValues$Patcher", 82, "value", 27) ∨ q = ("PagedValues$Patcher", 88, "copy", 28) ∨ q = ("PagedValues$Patcher", 90, "from", 29) ∨ q = ("PagedValues$Patcher", 92, "remove", 30) ∨ q = ("PagedValues$Patcher", 161, "-", 31) := by simpa [STR] using hq
    rcases hq with rfl | rfl | rfl | rfl | rfl | rfl | rfl | rfl | rfl | rfl | rfl | rfl | rfl | rfl | rfl | rfl | rfl | rfl | rfl | rfl
    · exact vk_R.of (hts _ (tp_1 (List.mem_of_getElem? (i := 143) rfl))) (hev 0 (by decide))
    · exact vk_R.of (hts _ (tp_2 (List.mem_of_getElem? (i := 103) rfl))) (va_eqR (hfl _ (nm w0)) (hev 0 (by decide)))
    · exact vk_R.of (hts _ (tp_2 (List.mem_of_getElem? (i := 108) rfl))) (va_eqR (hfl _ (nm w1)) (hev 0 (by decide)))
    · exact vk_R.of (hts _ (tp_2 (List.mem_of_getElem? (i := 216) rfl))) (va_eqR (hfl _ (nm w2)) (hev 0 (by decide)))
    · exact vk_R.of (hts _ (tp_4 (List.mem_of_getElem? (i := 48) rfl))) (va_eqR (hfl _ (nm w3)) (hev 0 (by decide)))
    · exact vk_R.of (hts _ (tp_3 (List.mem_of_getElem? (i := 138) rfl))) (hev 1 (by decide))
    · exact vk_R.of (hts _ (tp_3 (List.mem_of_getElem? (i := 168) rfl))) (hev 2 (by decide))
    · exact vk_R.of (hts _ (tp_3 (List.mem_of_getElem? (i := 171) rfl))) (hev 3 (by decide))
    · exact vk_R.of (hts _ (tp_5 (List.mem_of_getElem? (i := 51) rfl))) (va_eqR (hfl _ (nm w4)) (hev 1 (by decide)))
    · exact vk_R.of (hts _ (tp_5 (List.mem_of_getElem? (i := 91) rfl))) (va_eqR (hfl _ (nm w5)) (hev 2 (by decide)))
    · exact vk_R.of (hts _ (tp_5 (List.mem_of_getElem? (i := 92) rfl))) (va_eqR (hfl _ (nm w6)) (hev 3 (by decide)))
    · exact vk_R.of (hts _ (tp_4 (List.mem_of_getElem? (i := 38) rfl))) (hev 4 (by decide))
    · exact vk_R.of (hts _ (tp_4 (List.mem_of_getElem? (i := 44) rfl))) (hev 5 (by decide))
    · exact vk_R.of (hts _ (tp_4 (List.mem_of_getElem? (i := 49) rfl))) (hev 6 (by decide))
    · exact vk_R.of (hts _ (tp_4 (List.mem_of_getElem? (i := 51) rfl))) (hev 7 (by decide))
    · exact vk_R.of (hts _ (tp_4 (List.mem_of_getElem? (i := 52) rfl))) (hev 8 (by decide))
    · exact vk_R.of (hts _ (tp_4 (List.mem_of_getElem? (i := 53) rfl))) (hev 9 (by decide))
    · exact vk_R.of (hts _ (tp_4 (List.mem_of_getElem? (i := 54) rfl))) (hev 10 (by decide))
    · exact vk_R.of (hts _ (tp_4 (List.mem_of_getElem? (i := 55) rfl))) (hev 11 (by decide))
    · exact vk_R.of (hts _ (tp_4 (List.mem_of_getElem? (i := 139) rfl))) (hev 12 (by decide))
  · intro y hy
    have hy : y = ⟨"java/lang/AbstractStringBuilder", "ensureCapacityInternal", "(I)V"⟩ ∨ y = ⟨"java/lang/AbstractStringBuilder", "newCapacity", "(I)I"⟩ ∨ y = ⟨"java/lang/AbstractStringBuilder", "putStringAt", "(ILjava/lang/String;)V"⟩ ∨ y = ⟨"java/lang/AbstractStringBuilder", "inflateIfNeededFor", "(Ljava/lang/String;)V"⟩ := by simpa [PRV] using hy
    rcases hy with rfl | rfl | rfl | rfl
    · exact (hts _ (tp_2 (List.mem_of_getElem? (i := 163) rfl)))
    · exact (hts _ (tp_2 (List.mem_of_getElem? (i := 167) rfl)))
    · exact (hts _ (tp_5 (List.mem_of_getElem? (i := 77) rfl)))
    · exact (hts _ (tp_5 (List.mem_of_getElem? (i := 81) rfl)))
