/-! Texts read and compared. -/
/-- a constant text -/
def strK (K : KE) (a : Nat) (cs : List Int32) : Prop := a ∈ K.1 ∧ ∃ (v n : Nat) (fs : List Value) (g : Nat → Int32), K.2 a = .inr (.inr (12, .ref v :: .int 0 :: fs)) ∧ v ∈ K.1 ∧ K.2 v = .inl (2, n, g) ∧ (List.range n).map g = cs
/-- the constant texts and where they lie -/
def KS : List (Nat × List Int32) := [(0, []), (20, [110, 117, 108, 108]), (21, [116, 114, 117, 101]), (22, [102, 97, 108, 115, 101]), (23, [111, 112]), (24, [112, 97, 116, 104]), (25, [97, 100, 100]), (26, [114, 101, 112, 108, 97, 99, 101]), (27, [118, 97, 108, 117, 101]), (28, [99, 111, 112, 121]), (29, [102, 114, 111, 109]), (30, [114, 101, 109, 111, 118, 101]), (31, [45])]
/-- the constants -/
def kc (Zd : Nat → Nat) (K : KE) : Prop := (∀ i j, 8 ≤ i → i ≤ 14 → 8 ≤ j → j ≤ 14 → Zd i = Zd j → i = j) ∧ (∀ p ∈ KS, strK K (Zd p.1) p.2) ∧ wk K
theorem kc.str {Zd : Nat → Nat} {K : KE} {st : CS} (h : kc Zd K) (hw : wf K st) {i : Nat} {p : Nat × List Int32} (hi : KS[i]? = some p) : strOf K st (Zd p.1) = some p.2 := by
  obtain ⟨h1, v, n, fs, g, h2, h3, h4, h5⟩ := h.2.1 p (List.mem_of_getElem? hi)
  rw [← h5]
  exact strOf_of (by rw [cA_k hw h1, h2]) (by rw [cA_k hw h3, h4])
theorem kc.ord {Zd : Nat → Nat} {K : KE} (h : kc Zd K) {i : Nat} (hi : i < 7) : ordK Zd (Zd (8 + i)) = some (([0, 1, 2, 3, 4, 5, 6] : List Int32).getD i 0) := by
  have hne : ∀ j, j < 7 → j ≠ i → ¬ Zd (8 + i) = Zd (8 + j) := fun j hj hji e => hji (by have := h.1 (8 + i) (8 + j) (by omega) (by omega) (by omega) (by omega) e; omega)
  unfold ordK
  match i, hi with
  | 0, _ => rw [if_pos rfl]; rfl
  | 1, _ => rw [if_neg (hne 0 (by decide) (by decide)), if_pos rfl]; rfl
  | 2, _ => rw [if_neg (hne 0 (by decide) (by decide)), if_neg (hne 1 (by decide) (by decide)), if_pos rfl]; rfl
  | 3, _ => rw [if_neg (hne 0 (by decide) (by decide)), if_neg (hne 1 (by decide) (by decide)), if_neg (hne 2 (by decide) (by decide)), if_pos rfl]; rfl
  | 4, _ => rw [if_neg (hne 0 (by decide) (by decide)), if_neg (hne 1 (by decide) (by decide)), if_neg (hne 2 (by decide) (by decide)), if_neg (hne 3 (by decide) (by decide)), if_pos rfl]; rfl
  | 5, _ => rw [if_neg (hne 0 (by decide) (by decide)), if_neg (hne 1 (by decide) (by decide)), if_neg (hne 2 (by decide) (by decide)), if_neg (hne 3 (by decide) (by decide)), if_neg (hne 4 (by decide) (by decide)), if_pos rfl]; rfl
  | 6, _ => rw [if_neg (hne 0 (by decide) (by decide)), if_neg (hne 1 (by decide) (by decide)), if_neg (hne 2 (by decide) (by decide)), if_neg (hne 3 (by decide) (by decide)), if_neg (hne 4 (by decide) (by decide)), if_neg (hne 5 (by decide) (by decide)), if_pos rfl]; rfl
  | n + 7, hi => omega
theorem lA_cA {K : KE} {st : CS} {a t n : Nat} {g : Nat → Int32} (h : cA K st a = some (.inl (t, n, g))) : lA K st a t = some n := by
  unfold lA
  rw [h]
  simp
theorem isO_cA {K : KE} {st : CS} {a ci : Nat} {fs : List Value} (h : cA K st a = some (.inr (.inr (ci, fs)))) : isO K st a ci = some () := by
  unfold isO
  rw [h]
  simp
theorem str_isO {K : KE} {st : CS} {a : Nat} {cs : List Int32} (h : strOf K st a = some cs) : isO K st a 12 = some () := by
  obtain ⟨v, n, fs, g, h1, h2, h3⟩ := strOf_some h
  exact isO_cA h1
theorem str_len {Zd : Nat → Nat} {K : KE} {st : CS} {a : Nat} {cs : List Int32} (h : strOf K st a = some cs) : c_String_length Zd K a st = some (Int32.ofNat cs.length) := by
  obtain ⟨v, n, fs, g, h1, h2, h3⟩ := strOf_some h
  have hn : nrB 0 = some () := rfl
  have hl : cs.length = n := by rw [h3, List.length_map, List.length_range]
  simp only [c_String_length, gQ_cA (k := 0) (r := some v) h1 rfl, Option.bind_some, lA_cA h2, isO_cA h1, c_String_coder, gI_cA (k := 1) (v := 0) h1 rfl, hn, shr0, hl]
theorem u8_r2 (c : Int32) : 0 ≤ (u8 c).toInt ∧ (u8 c).toInt ≤ 255 := by
  obtain ⟨h1, h2⟩ := u8_r c
  omega
theorem str_char {Zd : Nat → Nat} {K : KE} {st : CS} {a : Nat} {cs : List Int32} (h : strOf K st a = some cs) (hl : cs.length ≤ 65536) {i : Int32} (i0 : 0 ≤ i.toInt) (i1 : i.toInt < cs.length) : c_String_charAt Zd K a i st = some (u8 (cs.getD i.toInt.toNat 0)) := by
  have L := nums
  obtain ⟨v, n, fs, g, h1, h2, h3⟩ := strOf_some h
  have hln : cs.length = n := by rw [h3, List.length_map, List.length_range]
  have e0 : ¬ i < 0 := fun e => by have := i32lt.mp e; omega
  have e1 : i < Int32.ofNat n := i32lt.mpr (by rw [ofNat_i (by omega)]; omega)
  obtain ⟨u1, u2⟩ := u8_r2 (g i.toNatClampNeg)
  have hg : cs.getD i.toInt.toNat 0 = g i.toNatClampNeg := by
    rw [h3, List.getD_eq_getElem?_getD, List.getElem?_map, List.getElem?_range (by omega)]
    rfl
  have hu : g i.toNatClampNeg &&& 255 = u8 (g i.toNatClampNeg) := rfl
  have hcr : nrC (u8 (g i.toNatClampNeg)) = some () := nrC_in u1 (by omega)
  have hb1 : bz 1 = some () := rfl
  have h10 : ¬ ((1 : Int32) = 0) := by decide
  simp only [c_String_charAt, isO_cA h1, Option.bind_some, c_String_isLatin1, gI_cA (k := 1) (v := 0) h1 rfl, if_true, hb1, h10, if_false, gQ_cA (k := 0) (r := some v) h1 rfl, c_StringLatin1_charAt, lA_cA h2, c_String_checkIndex, c_Preconditions_checkIndex, e0, e1, rA_cA h2 (vp_of i0 (by omega)), hu, c16 u1 (show (u8 (g i.toNatClampNeg)).toInt < 65536 by omega), hcr, hg]
theorem eq_l {K : KE} {st : CS} {v w n : Nat} {g h : Nat → Int32} (hv : cA K st v = some (.inl (2, n, g))) (hw : cA K st w = some (.inl (2, n, h))) (hn : n ≤ 65536) : ∀ (m fuel : Nat) (i : Int32), i.toInt + m = n → 0 ≤ i.toInt → m < fuel → ((∀ j, i.toInt.toNat ≤ j → j < n → g j = h j) → ∃ e, c_StringLatin1_equals_l1 K st v w fuel i = some (.inr e)) ∧ (¬ (∀ j, i.toInt.toNat ≤ j → j < n → g j = h j) → c_StringLatin1_equals_l1 K st v w fuel i = some (.inl 0)) := by
  have L := nums
  intro m
  induction m with
  | zero =>
    intro fuel i h1 h2 h3
    obtain ⟨f, rfl⟩ : ∃ f, fuel = f + 1 := ⟨fuel - 1, by omega⟩
    have hle : Int32.ofNat n ≤ i := i32le.mpr (by rw [ofNat_i (by omega)]; omega)
    refine ⟨fun _ => ⟨i, ?_⟩, fun h9 => absurd (fun j hj hj2 => by omega) h9⟩
    rw [c_StringLatin1_equals_l1_s]
    simp only [lA_cA hv, Option.bind_some, hle, if_true]
  | succ m ih =>
    intro fuel i h1 h2 h3
    obtain ⟨f, rfl⟩ : ∃ f, fuel = f + 1 := ⟨fuel - 1, by omega⟩
    have hle : ¬ Int32.ofNat n ≤ i := fun e => by have := i32le.mp e; rw [ofNat_i (by omega)] at this; omega
    have k1 : (i + 1).toInt = i.toInt + 1 := by rw [i32add (by omega) (by omega)]; omega
    obtain ⟨a1, a2⟩ := ih f (i + 1) (by omega) (by omega) (by omega)
    have ti : i.toNatClampNeg = i.toInt.toNat := rfl
    have hin : vp_in i n := vp_of h2 (by omega)
    by_cases e : g i.toNatClampNeg = h i.toNatClampNeg
    · have hst : c_StringLatin1_equals_l1 K st v w (f + 1) i = c_StringLatin1_equals_l1 K st v w f (i + 1) := by
        rw [c_StringLatin1_equals_l1_s]
        simp only [lA_cA hv, Option.bind_some, hle, if_false, rA_cA hv hin, rA_cA hw hin, e, if_true]
      have hiff : (∀ j, i.toInt.toNat ≤ j → j < n → g j = h j) ↔ ∀ j, (i + 1).toInt.toNat ≤ j → j < n → g j = h j := by
        constructor
        · intro h9 j hj hj2
          exact h9 j (by omega) hj2
        · intro h9 j hj hj2
          by_cases e9 : j = i.toInt.toNat
          · rw [e9, ← ti]; exact e
          · exact h9 j (by omega) hj2
      rw [hst, hiff]
      exact ⟨a1, a2⟩
    · refine ⟨fun h9 => absurd (h9 i.toInt.toNat (Nat.le_refl _) (by omega)) (by rw [← ti]; exact e), fun _ => ?_⟩
      rw [c_StringLatin1_equals_l1_s]
      simp only [lA_cA hv, Option.bind_some, hle, if_false, rA_cA hv hin, rA_cA hw hin, e]
theorem map_range {n : Nat} {g h : Nat → Int32} : (List.range n).map g = (List.range n).map h ↔ ∀ j, j < n → g j = h j := by
  constructor
  · intro e j hj
    have h9 : ((List.range n).map g)[j]? = ((List.range n).map h)[j]? := by rw [e]
    rw [List.getElem?_map, List.getElem?_map, List.getElem?_range hj] at h9
    exact Option.some.inj h9
  · intro e
    apply List.map_congr_left
    intro j hj
    exact e j (List.mem_range.mp hj)
theorem str_eq {Zd : Nat → Nat} {K : KE} {st : CS} {a b : Nat} {cs ds : List Int32} (ha : strOf K st a = some cs) (hb : strOf K st b = some ds) (hla : cs.length ≤ 100) (hlb : ds.length ≤ 100) : c_String_equals Zd K a (some b) st = some (if cs = ds then 1 else 0) := by
  by_cases hab : a = b
  · subst hab
    rw [ha] at hb
    cases hb
    simp only [c_String_equals, if_true]
  · obtain ⟨v, n, fs, g, a1, a2, a3⟩ := strOf_some ha
    obtain ⟨w, n2, fs2, g2, b1, b2, b3⟩ := strOf_some hb
    have hl1 : cs.length = n := by rw [a3, List.length_map, List.length_range]
    have hl2 : ds.length = n2 := by rw [b3, List.length_map, List.length_range]
    have hab2 : ¬ (some a = some b) := fun e => hab (Option.some.inj e)
    by_cases hn : n = n2
    · subst hn
      obtain ⟨q1, q2⟩ := eq_l a2 b2 (by omega) n 4096 0 (by have := nums; omega) (by decide) (by omega)
      have hiff : (∀ j, (0 : Int32).toInt.toNat ≤ j → j < n → g j = g2 j) ↔ cs = ds := by
        rw [a3, b3, map_range]
        exact ⟨fun h9 j hj => h9 j (Nat.zero_le _) hj, fun h9 j _ hj => h9 j hj⟩
      rw [hiff] at q1 q2
      by_cases e : cs = ds
      · obtain ⟨e9, he⟩ := q1 e
        simp only [c_String_equals, hab2, if_false, Option.bind_some, isO_cA b1, gI_cA (k := 1) (v := 0) a1 rfl, gI_cA (k := 1) (v := 0) b1 rfl, if_true, gQ_cA (k := 0) (r := some v) a1 rfl, gQ_cA (k := 0) (r := some w) b1 rfl, c_StringLatin1_equals, lA_cA a2, lA_cA b2, he, show ¬ ((1 : Int32) = 0) from by decide, bz, e]
        rfl
      · have he := q2 e
        simp only [c_String_equals, hab2, if_false, Option.bind_some, isO_cA b1, gI_cA (k := 1) (v := 0) a1 rfl, gI_cA (k := 1) (v := 0) b1 rfl, if_true, gQ_cA (k := 0) (r := some v) a1 rfl, gQ_cA (k := 0) (r := some w) b1 rfl, c_StringLatin1_equals, lA_cA a2, lA_cA b2, he, bz, e]
        rfl
    · have hne : ¬ Int32.ofNat n = Int32.ofNat n2 := fun e => by
        have h9 : (Int32.ofNat n).toInt = (Int32.ofNat n2).toInt := by rw [e]
        rw [ofNat_i (by omega), ofNat_i (by omega)] at h9
        omega
      have e : ¬ cs = ds := fun e => hn (by rw [← hl1, ← hl2, e])
      simp only [c_String_equals, hab2, if_false, Option.bind_some, isO_cA b1, gI_cA (k := 1) (v := 0) a1 rfl, gI_cA (k := 1) (v := 0) b1 rfl, if_true, gQ_cA (k := 0) (r := some v) a1 rfl, gQ_cA (k := 0) (r := some w) b1 rfl, c_StringLatin1_equals, lA_cA a2, lA_cA b2, hne, bz, e]
      rfl
/-! packed texts are alike only if the texts are -/
theorem lo_inj : ∀ (cs ds : List Nat), cs.length = ds.length → (∀ c ∈ cs, c < 256) → (∀ c ∈ ds, c < 256) → lo cs = lo ds → cs = ds := by
  intro cs
  induction cs with
  | nil =>
    intro ds h1 _ _ _
    cases ds with
    | nil => rfl
    | cons d ds => cases h1
  | cons c cs ih =>
    intro ds h1 h2 h3 h4
    cases ds with
    | nil => cases h1
    | cons d ds =>
      have c1 := h2 c List.mem_cons_self
      have d1 := h3 d List.mem_cons_self
      have h4 : c + 256 * lo cs = d + 256 * lo ds := h4
      have hcd : c = d := by omega
      have hlo : lo cs = lo ds := by omega
      rw [hcd, ih ds (by simpa using h1) (fun x hx => h2 x (List.mem_cons_of_mem _ hx)) (fun x hx => h3 x (List.mem_cons_of_mem _ hx)) hlo]
theorem okS_u8 (cs : List Int32) : okC (cs.map u8) := by
  intro c hc
  obtain ⟨x, -, rfl⟩ := List.mem_map.mp hc
  obtain ⟨h1, h2⟩ := u8_r2 x
  omega
theorem i2b_u8 {b : Int32} (h0 : -128 ≤ b.toInt) (h1 : b.toInt ≤ 127) : i2b (u8 b) = b := by
  have hu : (u8 b).toBitVec.toNat = b.toBitVec.toNat &&& 255 := by
    unfold u8
    rw [Int32.toBitVec_and, BitVec.toNat_and]
    rfl
  have hm : b.toBitVec.toNat &&& 255 = b.toBitVec.toNat % 256 := Nat.and_two_pow_sub_one_eq_mod _ 8
  have hbt : b.toInt = b.toBitVec.toInt := rfl
  rw [BitVec.toInt_eq_toNat_cond] at hbt
  have hlt := b.toBitVec.isLt
  have hui : (u8 b).toInt = (b.toBitVec.toNat % 256 : Nat) := int_of (hu.trans hm) (by omega)
  apply i32eq
  unfold i2b
  rw [Int8.toInt_toInt32, Int32.toInt_toInt8, hui, Int.bmod_def]
  split at hbt <;> split <;> omega
theorem chN_inj {cs ds : List Int32} (h1 : okC cs) (h2 : okC ds) (h : chN cs = chN ds) : cs = ds := by
  have hl : cs.length = ds.length := by
    have h9 : (chN cs).length = (chN ds).length := by rw [h]
    unfold chN at h9
    rwa [List.length_map, List.length_map] at h9
  apply List.ext_getElem hl
  intro i hi hj
  have h9 : (chN cs)[i]? = (chN ds)[i]? := by rw [h]
  unfold chN at h9
  rw [List.getElem?_map, List.getElem?_map, List.getElem?_eq_getElem hi, List.getElem?_eq_getElem hj] at h9
  have h8 : (cs[i]).toInt.toNat = (ds[i]).toInt.toNat := Option.some.inj h9
  have c1 := h1 cs[i] (List.getElem_mem hi)
  have c2 := h2 ds[i] (List.getElem_mem hj)
  exact i32eq (by omega)
theorem encU_inj {cs ds : List Int32} (h1 : okC cs) (h2 : okC ds) (l1 : cs.length ≤ 10) (l2 : ds.length ≤ 10) (h : encU cs = encU ds) : cs = ds := by
  obtain ⟨a1, a2⟩ := enc_num cs.length cs rfl l1 h1
  obtain ⟨b1, b2⟩ := enc_num ds.length ds rfl l2 h2
  rw [h, b1] at a1
  rw [h, b2] at a2
  have hlt : ∀ {x : List Int32}, okC x → lo ((chN x).take 7) < 72057594037927936 := by
    intro x hx
    have := lo_lt (cs := (chN x).take 7) (fun y hy => hx.n y (List.mem_of_mem_take hy))
    have h9 : 256 ^ ((chN x).take 7).length ≤ 256 ^ 7 := Nat.pow_le_pow_right (by decide) (by rw [List.length_take]; omega)
    have h8 : (256 : Nat) ^ 7 = 72057594037927936 := by decide
    omega
  have c1 := hlt h1
  have c2 := hlt h2
  have hlen : cs.length = ds.length := by omega
  have hcl : (chN cs).length = (chN ds).length := by unfold chN; rw [List.length_map, List.length_map, hlen]
  have e1 : (chN cs).take 7 = (chN ds).take 7 := lo_inj _ _ (by rw [List.length_take, List.length_take, hcl]) (fun y hy => h1.n y (List.mem_of_mem_take hy)) (fun y hy => h2.n y (List.mem_of_mem_take hy)) (by omega)
  have e2 : (chN cs).drop 7 = (chN ds).drop 7 := lo_inj _ _ (by rw [List.length_drop, List.length_drop, hcl]) (fun y hy => h1.n y (List.mem_of_mem_drop hy)) (fun y hy => h2.n y (List.mem_of_mem_drop hy)) a2.symm
  apply chN_inj h1 h2
  rw [← List.take_append_drop 7 (chN cs), ← List.take_append_drop 7 (chN ds), e1, e2]
theorem enc_u (cs : List Int32) : enc cs = encU (cs.map u8) := rfl
theorem enc_inj {cs ds : List Int32} (h1 : okS cs) (h2 : okS ds) (h : enc cs = enc ds) : cs = ds := by
  have h9 := encU_inj (okS_u8 cs) (okS_u8 ds) (by rw [List.length_map]; exact h1.1) (by rw [List.length_map]; exact h2.1) h
  have e : ∀ {x : List Int32}, okS x → (x.map u8).map i2b = x := by
    intro x hx
    rw [List.map_map]
    conv => rhs; rw [← List.map_id x]
    apply List.map_congr_left
    intro c hc
    exact i2b_u8 (hx.2 c hc).1 (hx.2 c hc).2
  rw [← e h1, ← e h2, h9]
/-- what was read: bytes and packed text -/
theorem enc_i2b {cs : List Int32} (h : okC cs) : enc (cs.map i2b) = encU cs := by
  rw [enc_u, List.map_map]
  congr 1
  conv => rhs; rw [← List.map_id cs]
  apply List.map_congr_left
  intro c hc
  exact u8_i2b (h c hc).1 (h c hc).2
theorem okS_i2b {cs : List Int32} (hl : cs.length ≤ 10) : okS (cs.map i2b) := ⟨by rw [List.length_map]; exact hl, fun c hc => by
  obtain ⟨x, -, rfl⟩ := List.mem_map.mp hc
  exact i2b_r x⟩
