/-! Operations as they are written: members, texts, well-formed or not. -/
/-- a member's text -/
def opS (L : List Nd) (t cs : List Int32) : Prop := ∃ (z : Nat) (x y : Nd), L[0]? = some y ∧ y.1 = 6 ∧ kidAt L 0 t = some z ∧ L[z]? = some x ∧ x.1 = 4 ∧ x.2.2.2.1 = cs
/-- an operation -/
def OPD (L : List Nd) : Prop := ∃ os ps, opS L [111, 112] os ∧ opS L [112, 97, 116, 104] ps ∧ (((os = [97, 100, 100] ∨ os = [114, 101, 112, 108, 97, 99, 101]) ∧ ∃ z, kidAt L 0 [118, 97, 108, 117, 101] = some z) ∨ (os = [99, 111, 112, 121] ∧ ∃ fs, opS L [102, 114, 111, 109] fs) ∨ os = [114, 101, 109, 111, 118, 101])
theorem encs : enc [111, 112] = (144115188075884655, 0) ∧ enc [112, 97, 116, 104] = (288230377904169328, 0) ∧ enc [102, 114, 111, 109] = (288230377987732070, 0) ∧ enc [118, 97, 108, 117, 101] = (360288405951373686, 0) ∧ enc [97, 100, 100] = (216172782120363105, 0) ∧ enc [114, 101, 109, 111, 118, 101] = (432457123577554290, 0) ∧ enc [114, 101, 112, 108, 97, 99, 101] = (532941400995554674, 0) ∧ enc [99, 111, 112, 121] = (288230378189123427, 0) := by decide +kernel
theorem kS_ok : ∀ p ∈ KS, okS p.2 ∧ p.2.map u8 = p.2 := by decide
section FORM
variable {Zd : Nat → Nat} {K : KE} {s : CS} {ms : MS} {d op c : Nat} {L : List Nd}
/-- a node of a row, and its kind -/
theorem hd_lock (hc : kc Zd K) (hL : treeOf Zd K s (d + 1) op = some L) (hr : rowIs ms c L) (hl : L.length ≤ 24) (hc2 : c + 24 ≤ 2100) {v : Int32} (hv : v.toInt = c) : ∃ kd o y, gQ K s op 11 0 = some (some kd) ∧ ordK Zd kd = some o ∧ isO K s op 11 = some () ∧ rd (ms.2.2.1 1) 2100 v = some o ∧ L[0]? = some y ∧ y.1 = o := by
  obtain ⟨o, num, cs, ns, fst, nx, ks, ⟨k, c9, n, fs, u1, u2, u3, u4, u5, u6, u7, u8, u9⟩, hcs, hlen, hok, rfl⟩ := tree_node hc.2.2 hL
  have h0 := hr 0 _ rfl
  refine ⟨k, o, _, u2, u7, isO_cA u1, ?_, rfl, rfl⟩
  rw [rd_in (vp_of (by omega) (by omega)), show v.toNatClampNeg = c + 0 by rw [tnn]; omega, h0.1]
/-- a member by a constant name -/
theorem mem_lock (hc : kc Zd K) (hwf : wf K s) (hL : treeOf Zd K s (d + 1) op = some L) (hr : rowIs ms c L) (hl : L.length ≤ 24) (hc2 : c + 24 ≤ 2100) {v : Int32} (hv : v.toInt = c) {y : Nd} (hy : L[0]? = some y) (hy6 : y.1 = 6) {i : Nat} {pr : Nat × List Int32} (hi : KS[i]? = some pr) {X : Int64} (hX : enc pr.2 = (X, 0)) :
    (kidAt L 0 pr.2 = none ∧ c_Value_member Zd K op (some (Zd pr.1)) s = some none ∧ m_operand v X ms = some (-1)) ∨ ∃ (z a9 : Nat) (L9 A B : List Nd), kidAt L 0 pr.2 = some z ∧ c_Value_member Zd K op (some (Zd pr.1)) s = some (some a9) ∧ m_operand v X ms = some (Int32.ofNat (c + z)) ∧ treeOf Zd K s d a9 = some L9 ∧ L = A ++ L9 ++ B ∧ A.length = z ∧ 0 < z := by
  obtain ⟨o, num, cs, ns, fst, nx, ks, ⟨k, c9, n, fs, u1, u2, u3, u4, u5, u6, u7, u8, u9⟩, hcs, hlen, hok, hLe⟩ := tree_node hc.2.2 hL
  subst hLe
  cases hy
  have o6 : o = 6 := hy6
  subst o6
  have hk6 : some k = some (Zd 14) := (kd_14 hc u7 (i := 6) (by decide)).mpr rfl
  obtain ⟨hks1, hks2⟩ := kS_ok pr (List.mem_of_getElem? hi)
  have hstr := hc.str hwf hi
  have hoks : ∀ X ∈ kL ks, okL X := by
    intro X hX
    obtain ⟨k9, hk9, rfl⟩ := List.mem_map.mp hX
    obtain ⟨nx9, h9⟩ := Cs.all ks fst none hcs k9 hk9
    exact tree_ok d _ _ h9.1
  have hnames : ∀ X ∈ kL ks, okS (nmL X) := by
    intro X hX
    obtain ⟨k9, hk9, rfl⟩ := List.mem_map.mp hX
    obtain ⟨nx9, h9⟩ := Cs.all ks fst none hcs k9 hk9
    obtain ⟨n9, -, -, h8⟩ := tree_nm h9.1
    exact h8
  have hlk : (kL ks).length = ks.length := by unfold kL; rw [List.length_map]
  have hkid : kidAt (((6 : Int32), 1 + (kL ks).flatten.length, num, cs, ns) :: (kL ks).flatten) 0 pr.2 = fnd pr.2 (0 + 1) (kL ks) := by
    have := kidAt_eq (A := []) (B := []) (x := ((6 : Int32), 1 + (kL ks).flatten.length, num, cs, ns)) (t := pr.2) (i := 0) rfl rfl hoks (by rw [hlk]; exact hlen)
    rw [List.nil_append, List.append_nil, if_pos rfl] at this
    exact this
  have hml := member_l (Zd := Zd) (rdC_f d) hstr (show pr.2.length ≤ 100 by have := hks1.1; omega) ks 4096 fst hcs (by omega)
  have hcm : ∀ r, c_Value_member_l1 Zd K (some (Zd pr.1)) s 4096 fst = some r → c_Value_member Zd K op (some (Zd pr.1)) s = (match r with | .inl o9 => some o9 | .inr e8 => some none) := by
    intro r hr9
    simp only [c_Value_member, u2, Option.bind_some, hk6, if_true, u6, hr9]
    cases r <;> rfl
  rw [List.length_cons] at hl
  have h0 := hr 0 _ rfl
  rw [Nat.add_zero] at h0
  have hrF : rowF ms (c + 1) (kL ks).flatten := (rowIs_iff.mp hr).2
  have hsp2 : (ms.2.2.1 2 c).toInt = 1 + (kL ks).flatten.length := by
    have e9 : ms.2.2.1 2 c = Int32.ofNat (1 + (kL ks).flatten.length) := h0.2.1
    rw [e9, ofNat_i (by omega)]; omega
  have hmm : m_operand v X ms = some (match fnd pr.2 (0 + 1) (kL ks) with | some z => Int32.ofNat (c + z) | none => -1) := by
    have hXY : (X, (0 : Int64)) = encU pr.2 := by rw [← hX, enc_u, hks2]
    have h9 := member_ok (base := c) (Ls := kL ks) hv hsp2 (by omega) hrF hoks (by rw [hlk]; omega) X 0
    simp only [m_operand, h9, Option.bind_some]
    rw [hXY, fdR_fnd (by have := okS_u8 pr.2; rw [hks2] at this; exact this) hks1.1 (kL ks) _ _ hnames (hok.2.2.2.2 rfl), show c + 1 = c + (0 + 1) by omega, fnd_sh]
    cases fnd pr.2 (0 + 1) (kL ks) <;> rfl
  rw [hkid, hmm, hcm _ hml]
  cases hf : fnd pr.2 (0 + 1) (kL ks) with
  | none =>
    left
    have hno := fnd_none ks _ hf
    have : ks.find? (fun k => decide (nmL k.2.2 = pr.2)) = none := List.find?_eq_none.mpr (fun y hy => by
      have h9 := hno y hy
      intro e9
      exact h9 (by rw [of_decide_eq_true e9, hks2]))
    rw [this]
    exact ⟨rfl, rfl, rfl⟩
  | some z =>
    right
    obtain ⟨pre, k9, post, e1, e2, e3, e4⟩ := fnd_some ks _ hf
    have hkm : k9 ∈ ks := by rw [e1]; simp
    have : ks.find? (fun k => decide (nmL k.2.2 = pr.2)) = some k9 := by
      rw [e1]
      refine find_mid (fun y hy => ?_) ?_
      · apply decide_eq_false
        intro e9
        exact e4 y hy (by rw [e9, hks2])
      · apply decide_eq_true
        exact u8_inj (hnames _ (List.mem_map.mpr ⟨k9, hkm, rfl⟩)) hks1 (by rw [e3, hks2])
    rw [this]
    obtain ⟨nx9, h9⟩ := Cs.all ks fst none hcs k9 hkm
    refine ⟨z, k9.2.1, k9.2.2, ((6 : Int32), 1 + (kL ks).flatten.length, num, cs, ns) :: (kL pre).flatten, (kL post).flatten, rfl, rfl, rfl, h9.1, ?_, by rw [List.length_cons, e2]; omega, by omega⟩
    have : (kL ks).flatten = (kL pre).flatten ++ (k9.2.2 ++ (kL post).flatten) := by rw [e1, kL_app, kL_cons, List.flatten_append, List.flatten_cons]
    rw [List.cons_append, List.cons_append, List.append_assoc, ← this]
/-- a member that is a text -/
theorem txt_lock (hc : kc Zd K) (hwf : wf K s) (hL : treeOf Zd K s (d + 1) op = some L) (hr : rowIs ms c L) (hl : L.length ≤ 24) (hc2 : c + 24 ≤ 2100) {v : Int32} (hv : v.toInt = c) {y : Nd} (hy : L[0]? = some y) (hy6 : y.1 = 6) {i : Nat} {pr : Nat × List Int32} (hi : KS[i]? = some pr) {X : Int64} (hX : enc pr.2 = (X, 0)) :
    (c_Patcher_hasString Zd K (some op) (some (Zd pr.1)) s = some 0 ∧ ∃ x9, m_operand v X ms = some x9 ∧ m_isString x9 ms = some 0 ∧ ∀ cs, ¬ opS L pr.2 cs) ∨
    ∃ (sb : Nat) (cs : List Int32) (x9 : Int32), c_Patcher_hasString Zd K (some op) (some (Zd pr.1)) s = some 1 ∧ c_Patcher_stringOf Zd K (some op) (some (Zd pr.1)) s = some (some sb) ∧ strOf K s sb = some cs ∧ okS cs ∧ m_operand v X ms = some x9 ∧ m_isString x9 ms = some 1 ∧ rd (ms.2.2.2 0) 2100 x9 = some (enc cs).1 ∧ rd (ms.2.2.2 1) 2100 x9 = some (enc cs).2 ∧ opS L pr.2 cs := by
  obtain ⟨kd, o, y2, n1, n2, n3, n4, n5, n6⟩ := hd_lock hc hL hr hl hc2 hv
  rcases mem_lock hc hwf hL hr hl hc2 hv hy hy6 hi hX with ⟨m1, m2, m3⟩ | ⟨z, a9, L9, A, B, m1, m2, m3, m4, m5, m6, m7⟩
  · left
    refine ⟨?_, -1, m3, ?_, fun cs h9 => ?_⟩
    · simp only [c_Patcher_hasString, Option.bind_some, n3, m2, nl, bz]
      rfl
    · simp only [m_isString, show ((-1) : Int32) < 0 from by decide, if_true, Option.bind_some, bz]
      rfl
    · obtain ⟨z, x, y9, -, -, h8, -⟩ := h9
      rw [m1] at h8; cases h8
  · cases d with
    | zero => cases m4
    | succ d =>
      obtain ⟨o9, num, cs, ns, fst, nx, ks, ⟨k9, c9, n9, fs, u1, u2, u3, u4, u5, u6, u7, u8, u9⟩, hcs, hlen, hok, hLe⟩ := tree_node hc.2.2 m4
      have hLz : L[z]? = some (o9, 1 + (kL ks).flatten.length, num, cs, ns) := by
        rw [m5, hLe, List.append_assoc, List.getElem?_append_right (by omega), show z - A.length = 0 by omega]
        rfl
      have hzl : z < L.length := (List.getElem?_eq_some_iff.mp hLz).1
      have hrz := hr z _ hLz
      have hxi : (Int32.ofNat (c + z)).toInt = (c + z : Nat) := ofNat_i (by omega)
      have hin : vp_in (Int32.ofNat (c + z)) 2100 := vp_of (by omega) (by omega)
      have hcn : (Int32.ofNat (c + z)).toNatClampNeg = c + z := by rw [tnn]; omega
      have hx0 : ¬ Int32.ofNat (c + z) < 0 := fun e9 => by have := i32lt.mp e9; have := nums; omega
      have hkd : rd (ms.2.2.1 1) 2100 (Int32.ofNat (c + z)) = some o9 := by rw [rd_in hin, hcn, hrz.1]
      by_cases o4 : o9 = 4
      · right
        have hk4 : some k9 = some (Zd 12) := (kd_14 hc u7 (i := 4) (by decide)).mpr o4
        have hpa : payA (o9, 1 + (kL ks).flatten.length, num, cs, ns) = (enc cs).1 := by
          unfold payA
          rw [if_neg (show ¬ o9 = 3 by rw [o4]; decide), if_pos o4]
        have hpb : payB (o9, 1 + (kL ks).flatten.length, num, cs, ns) = (enc cs).2 := by
          unfold payB
          rw [if_pos o4]
        refine ⟨c9, cs, Int32.ofNat (c + z), ?_, ?_, u8, hok.2.1, m3, ?_, ?_, ?_, z, _, y, hy, hy6, m1, hLz, o4, rfl⟩
        · simp only [c_Patcher_hasString, Option.bind_some, n3, m2, nl, u2, hk4, if_true, bz]
          rfl
        · simp only [c_Patcher_stringOf, Option.bind_some, n3, m2, nl, u4]
        · simp only [m_isString, hx0, if_false, hkd, Option.bind_some, o4, if_true, bz]
          rfl
        · rw [rd_in hin, hcn, hrz.2.2.1, hpa]
        · rw [rd_in hin, hcn, hrz.2.2.2.1, hpb]
      · left
        have hk4 : ¬ some k9 = some (Zd 12) := fun e9 => o4 ((kd_14 hc u7 (i := 4) (by decide)).mp e9)
        refine ⟨?_, Int32.ofNat (c + z), m3, ?_, fun cs9 h9 => ?_⟩
        · simp only [c_Patcher_hasString, Option.bind_some, n3, m2, nl, u2, hk4, if_false, bz]
          rfl
        · simp only [m_isString, hx0, if_false, hkd, Option.bind_some, o4, bz]
          rfl
        · obtain ⟨z9, x, y9, -, -, h8, h7, h6, -⟩ := h9
          rw [m1] at h8
          cases h8
          rw [hLz] at h7
          cases h7
          exact o4 h6
/-- a short text is known by its first number -/
theorem enc_1 {cs ds : List Int32} (h1 : okS cs) (h2 : okS ds) (hd : ds.length ≤ 7) (h : (enc cs).1 = (enc ds).1) : cs = ds := by
  have l1 := enc_len (okS_u8 cs) (by rw [List.length_map]; exact h1.1)
  have l2 := enc_len (okS_u8 ds) (by rw [List.length_map]; exact h2.1)
  rw [enc_u, enc_u] at h
  rw [h, l2] at l1
  have hl : cs.length = ds.length := by
    have e1 := congrArg Int32.toInt (Option.some.inj l1)
    rw [List.length_map, List.length_map, ofNat_i (by have := h2.1; omega), ofNat_i (by have := h1.1; omega)] at e1
    omega
  have hz : ∀ xs : List Int32, okS xs → xs.length ≤ 7 → n64 (encU (xs.map u8)).2 = 0 := by
    intro xs hx hx7
    have := (enc_num (xs.map u8).length (xs.map u8) rfl (by rw [List.length_map]; exact hx.1) (okS_u8 xs)).2
    rw [this, List.drop_eq_nil_of_le (by unfold chN; rw [List.length_map, List.length_map]; exact hx7)]
    rfl
  refine enc_inj h1 h2 ?_
  rw [enc_u, enc_u]
  exact Prod.ext h (n64_inj (by rw [hz cs h1 (by omega), hz ds h2 hd]))
theorem kS_7 : ∀ p ∈ KS, p.2.length ≤ 7 := by decide
/-- a text is a constant: class and model -/
theorem is_lock (hc : kc Zd K) (hwf : wf K s) {sb : Nat} {cs : List Int32} (hs : strOf K s sb = some cs) (hcs : okS cs) {i : Nat} {pr : Nat × List Int32} (hi : KS[i]? = some pr) {X : Int64} (hX : enc pr.2 = (X, 0)) : c_String_equals Zd K sb (some (Zd pr.1)) s = some (if cs = pr.2 then 1 else 0) ∧ ((lg_cmp (enc cs).1 X = 0) = (cs = pr.2)) := by
  obtain ⟨hks1, hks2⟩ := kS_ok pr (List.mem_of_getElem? hi)
  have hstr := hc.str hwf hi
  refine ⟨str_eq hs hstr (by have := hcs.1; omega) (by have := hks1.1; omega), ?_⟩
  rw [lg0]
  apply propext
  constructor
  · intro h
    exact enc_1 hcs hks1 (kS_7 pr (List.mem_of_getElem? hi)) (by rw [hX]; exact h)
  · intro h
    rw [h, hX]
end FORM
