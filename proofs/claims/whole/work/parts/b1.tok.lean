/-! A token of a path: the pointer's builder; class and model. -/
/-- the characters of the token read so far -/
def Sp (I : Nat → Int32) (A : Nat → Nat → Int32) (ms : MS) (cs : List Int32) : Prop := (I 17).toInt = cs.length ∧ okC cs ∧ cs.length ≤ 10 ∧ (∀ i, i < cs.length → A 8 i = i2b (cs.getD i 0)) ∧ (ms.2.1 0, ms.2.1 1) = encU cs ∧ ∀ i, fits .byte (.int (A 8 i)) = true
/-- the pointer's builder is in order -/
def Wp (I : Nat → Int32) (A : Nat → Nat → Int32) : Prop := 0 ≤ (I 17).toInt ∧ (I 17).toInt ≤ 16 ∧ ∀ i, fits .byte (.int (A 8 i)) = true
def pI (I I1 : Nat → Int32) : Prop := ∀ k, k ≠ 16 → k ≠ 17 → I1 k = I k
def pA (A A1 : Nat → Nat → Int32) : Prop := ∀ k, k ≠ 8 → A1 k = A k
theorem pI.tr {I I1 I2 : Nat → Int32} (h : pI I I1) (h1 : pI I1 I2) : pI I I2 := fun k a b => (h1 k a b).trans (h k a b)
theorem pA.tr {A A1 A2 : Nat → Nat → Int32} (h : pA A A1) (h1 : pA A1 A2) : pA A A2 := fun k a => (h1 k a).trans (h k a)
theorem pI.rf (I : Nat → Int32) : pI I I := fun _ _ _ => rfl
theorem pA.rf (A : Nat → Nat → Int32) : pA A A := fun _ _ => rfl
theorem Sp.wp {I : Nat → Int32} {A : Nat → Nat → Int32} {ms : MS} {cs : List Int32} (h : Sp I A ms cs) : Wp I A := ⟨by have := h.1; omega, by have := h.1; have := h.2.2.1; omega, h.2.2.2.2.2⟩
/-- the characters of a path from i up to e, escapes taken away -/
def dec : Nat → List Int32 → List Int32
  | 0, _ => []
  | _ + 1, [] => []
  | f + 1, c :: cs => if c = 126 then (match cs with
    | [] => []
    | d :: ds => (if d = 48 then 126 else 47) :: dec f ds) else c :: dec f cs
/-- the first slash from k on, or the end -/
def nxt (us : List Int32) : Nat → Nat → Nat
  | 0, k => k
  | f + 1, k => if k < us.length then (if us.getD k 0 = 47 then k else nxt us f (k + 1)) else k
def tkn (us : List Int32) (i e : Nat) : List Int32 := dec 16 ((us.take e).drop i)
section TOK
variable {Zd : Nat → Nat} {K : KE} {st : CS} {ms : MS} {q : Nat → Nat} {cw : Nat} {I : Nat → Int32} {A : Nat → Nat → Int32} {R : Nat → Option Nat} {Q : Nat → Nat → Option Nat} {b : Nat} {us : List Int32}
theorem pw_sbd (h : Fx st q cw I A R Q) : sbd st (q 24) (q 25) (I 16) (I 17) 16 (A 8) := ⟨⟨(h.fl (i := 24) rfl).1, (h.fl (i := 24) rfl).2⟩, (h.fl (i := 25) rfl).1, (h.fl (i := 25) rfl).2⟩
theorem pw_set0 (h : Cx K st q cw I A R Q) (h0 : 0 ≤ (I 17).toInt) : ∃ m1 st1, c_StringBuilder_setLength Zd K (q 24) 0 st = some st1 ∧ Cx K st1 q cw (upd (upd I 16 m1) 17 0) A R Q ∧ stp K st st1 := by
  obtain ⟨hF, hw, hz⟩ := h
  obtain ⟨m1, e1⟩ := sb_set0 (Zd := Zd) (K := K) (pw_sbd hF) (by decide) h0
  refine ⟨m1, _, e1, ⟨?_, hw, nb_Rz hz (hF.fl (i := 24) rfl).1 (hF.fl (i := 24) rfl).2 rfl rfl⟩, nb_le hz (hF.fl (i := 24) rfl).1 (hF.fl (i := 24) rfl).2 rfl, rfl⟩
  exact hF.put (i := 24) rfl rfl (fun j hj => ⟨rfl, rfl, rfl⟩) (fun j hj => ⟨rfl, rfl, (upd_ne (by omega)).trans (upd_ne (by omega)), (upd_ne (by omega)).trans (upd_ne (by omega)), (upd_ne (by omega)).trans (upd_ne (by omega)), (upd_ne (by omega)).trans (upd_ne (by omega))⟩)
theorem pw_app (h : Cx K st q cw I A R Q) (h0 : 0 ≤ (I 17).toInt) (h1 : (I 17).toInt < 16) {c : Int32} (c1 : c.toInt ≤ 255) : ∃ st1, c_StringBuilder_append_C Zd K (q 24) c st = some (some (q 24), st1) ∧ Cx K st1 q cw (upd I 17 (I 17 + 1)) (va_up A 8 (upd (A 8) (I 17).toNatClampNeg c.toInt8.toInt32)) R Q ∧ stp K st st1 := by
  obtain ⟨hF, hw, hz⟩ := h
  have e1 := sb_app (Zd := Zd) (K := K) (pw_sbd hF) (by decide) h0 (by omega) c1
  have hF1 : Fx (uC st (q 24) (.inr (.inr (2, [.ref (q 25), .int 0, .int (I 16), .int (I 17 + 1)])))) q cw (upd I 17 (I 17 + 1)) A R Q := hF.put (i := 24) rfl rfl (fun j hj => ⟨rfl, rfl, rfl⟩) (fun j hj => ⟨rfl, rfl, upd_ne (by omega), upd_ne (by omega), upd_ne (by omega), upd_ne (by omega)⟩)
  have l1 := nb_le (e := .inr (.inr (2, [.ref (q 25), .int 0, .int (I 16), .int (I 17 + 1)]))) hz (hF.fl (i := 24) rfl).1 (hF.fl (i := 24) rfl).2 rfl
  have z1 := nb_Rz (e := .inr (.inr (2, [.ref (q 25), .int 0, .int (I 16), .int (I 17 + 1)]))) hz (hF.fl (i := 24) rfl).1 (hF.fl (i := 24) rfl).2 rfl rfl
  refine ⟨_, e1, ⟨?_, hw, by_Rz z1 (Or.inr (Or.inr rfl)) (hF1.fl (i := 25) rfl).1 (fun fs e => by cases e)⟩, l1.tr (by_le z1 (Or.inr (Or.inr rfl)) (hF1.fl (i := 25) rfl).1 (hF1.fl (i := 25) rfl).2), rfl⟩
  exact hF1.put (i := 25) rfl rfl (fun j hj => ⟨rfl, rfl, va_up_ne _ _ (by omega)⟩) (fun j hj => ⟨rfl, rfl, rfl, rfl, rfl, rfl⟩)
theorem pw_str (h : Cx K st q cw I A R Q) (h0 : 0 ≤ (I 17).toInt) (h1 : (I 17).toInt < 16) (hfit : ∀ i, fits .byte (.int (A 8 i)) = true) (z6 : st.1.1 + 2 ≤ Zd 6) (z7 : st.1.2 + 4 + (I 17).toInt.toNat ≤ Zd 7) : ∃ st1, c_StringBuilder_toString Zd K (q 24) st = some (some st.1.1, st1) ∧ st1.1 = (st.1.1 + 2, st.1.2 + 4 + (I 17).toInt.toNat) ∧ Cx K st1 q cw I A R Q ∧ le K st st1 ∧ strOf K st1 st.1.1 = some ((List.range (I 17).toInt.toNat).map (A 8)) := by
  obtain ⟨st1, g1, e1, e2, e3, e4, e5, e6, e7⟩ := sb_str (Zd := Zd) (K := K) h.2.1 (pw_sbd h.1) (by decide) h0 (by omega) hfit z6 z7
  obtain ⟨c1, c2, c3⟩ := h.new rfl rfl (by rw [e2]) e3 e4 e5 e6 (by omega) (fun i hi => by rw [e7 i hi]; exact hfit i)
  refine ⟨st1, e1, e2, c1, c2, ?_⟩
  rw [c3]
  congr 1
  apply List.map_congr_left
  intro i hi
  exact e7 i (List.mem_range.mp hi)
/-- a character more -/
theorem Sp.add {cs : List Int32} (h : Sp I A ms cs) (hl : cs.length < 10) {c : Int32} (c0 : 0 ≤ c.toInt) (c1 : c.toInt < 256) : Sp (upd I 17 (I 17 + 1)) (va_up A 8 (upd (A 8) (I 17).toNatClampNeg c.toInt8.toInt32)) (ms.1, vp_updL (vp_updL ms.2.1 1 (addE (ms.2.1 0, ms.2.1 1) c).2) 0 (addE (ms.2.1 0, ms.2.1 1) c).1, ms.2.2.1, ms.2.2.2) (cs ++ [c]) := by
  have L := nums
  obtain ⟨h1, h2, h3, h4, h5, h6⟩ := h
  have k1 : (I 17 + 1).toInt = (I 17).toInt + 1 := by rw [i32add (by omega) (by omega)]; omega
  have hk : (I 17).toNatClampNeg = cs.length := by rw [tnn]; omega
  refine ⟨?_, ?_, by rw [List.length_append, List.length_singleton]; omega, ?_, ?_, ?_⟩
  · show (I 17 + 1).toInt = _
    rw [k1, h1, List.length_append, List.length_singleton]
    omega
  · intro x hx
    rcases List.mem_append.mp hx with h9 | h9
    · exact h2 x h9
    · rw [List.mem_singleton] at h9
      rw [h9]; exact ⟨c0, c1⟩
  · intro i hi
    rw [List.length_append, List.length_singleton] at hi
    rw [va_up_self, hk]
    by_cases e : i = cs.length
    · subst e
      rw [upd_self]
      simp [i2b]
    · rw [upd_ne e, h4 i (by omega), List.getD_eq_getElem?_getD, List.getD_eq_getElem?_getD, List.getElem?_append_left (by omega)]
  · dsimp only
    rw [updL_self, updL_ne (by decide), updL_self, encU_snoc, h5]
  · intro i
    rw [va_up_self]
    by_cases e : i = (I 17).toNatClampNeg
    · rw [e, upd_self]
      obtain ⟨b1, b2⟩ := i2b_r c
      exact fits_b b1 b2
    · rw [upd_ne e]; exact h6 i
/-- a character more, on both sides -/
theorem papp (h : Cx K st q cw I A R Q) {cs : List Int32} (hS : Sp I A ms cs) (hl : cs.length < 10) {c : Int32} (c0 : 0 ≤ c.toInt) (c1 : c.toInt ≤ 255) : ∃ s1 ms1 I1 A1, c_StringBuilder_append_C Zd K (q 24) c st = some (some (q 24), s1) ∧ m_add c ms = some ms1 ∧ Cx K s1 q cw I1 A1 R Q ∧ stp K st s1 ∧ Sp I1 A1 ms1 (cs ++ [c]) ∧ pI I I1 ∧ pA A A1 ∧ ms1.1 = ms.1 ∧ ms1.2.2 = ms.2.2 := by
  have h17 := hS.1
  obtain ⟨s1, e1, e2, e3⟩ := pw_app (Zd := Zd) h (c := c) (by omega) (by omega) c1
  exact ⟨s1, _, _, _, e1, m_add_eq c ms, e2, e3, hS.add hl c0 (by omega), fun k _ k2 => upd_ne k2, fun k k1 => va_up_ne _ _ k1, rfl, rfl⟩
theorem drop_get {us : List Int32} {i e : Nat} (h : i < e) (he : e ≤ us.length) : (us.take e).drop i = us.getD i 0 :: (us.take e).drop (i + 1) := by
  have hl : i < (us.take e).length := by rw [List.length_take]; omega
  rw [List.drop_eq_getElem_cons hl]
  congr 1
  rw [List.getElem_take, List.getD_eq_getElem?_getD, List.getElem?_eq_getElem (by omega)]
  rfl
theorem drop_end {us : List Int32} {e : Nat} (he : e ≤ us.length) : (us.take e).drop e = [] := by
  apply List.drop_eq_nil_of_le
  rw [List.length_take]; omega
/-- an escape: two steps of the class, one of the model -/
theorem tok_s2 {sk s1 : CS} {Ik : Nat → Int32} {Ak : Nat → Nat → Int32} {mk ms1 : MS} (h : Pt K sk b us) {i f1 f2 : Nat} {i1 a2 c : Int32} (hC : Cx K sk q cw Ik Ak R Q) (hi1 : i1.toInt = i) (hlt : i + 1 < us.length) (hza : ¬ a2 ≤ i1) (hza1 : ¬ a2 ≤ i1 + 1) (h126 : us.getD i 0 = 126) (hc1 : (if us.getD (i + 1) 0 = (48 : Int32) then (some (126 : Int32)) else (some (47 : Int32))) = some c) (e1 : c_StringBuilder_append_C Zd K (q 24) c sk = some (some (q 24), s1)) (e2 : m_add c mk = some ms1) :
    c_Pointer_token_l1 Zd K (q 10) (some b) a2 (f1 + 2) (0, i1, sk) = c_Pointer_token_l1 Zd K (q 10) (some b) a2 f1 (0, i1 + 1 + 1, s1) ∧ m_token_l1 (encU us).1 (encU us).2 (f2 + 1) (i1, mk) = m_token_l1 (encU us).1 (encU us).2 f2 (i1 + 2, ms1) := by
  have N := nums
  have h10 : ¬ ((1 : Int32) = 0) := by decide
  have h1247 : ¬ ((126 : Int32) = 47) := by decide
  obtain ⟨hok, hle⟩ := h.ok
  have hml := enc_len hok hle
  have hni := ofNat_i (n := us.length) (by omega)
  have k1 : (i1 + 1).toInt = ((i + 1 : Nat) : Int) := by rw [i32add (by omega) (by omega)]; omega
  have hz : ¬ Int32.ofNat us.length ≤ i1 := fun e9 => by have := i32le.mp e9; omega
  have hch := h.chr (Zd := Zd) (i := i1) (by omega) (by omega)
  rw [show i1.toInt.toNat = i by omega, h126] at hch
  have hch1 := h.chr (Zd := Zd) (i := i1 + 1) (by omega) (by omega)
  rw [show (i1 + 1).toInt.toNat = i + 1 by omega] at hch1
  have hmc := enc_chr hok hle hi1 (show i < us.length by omega)
  rw [h126] at hmc
  have hmc1 := enc_chr hok hle k1 hlt
  have hg := fg_10_0 (K := K) hC.1
  have ho := fo_24 (K := K) hC.1
  generalize us.getD (i + 1) 0 = c1 at hch1 hmc1 hc1
  constructor
  · rw [show f1 + 2 = f1 + 1 + 1 from rfl, c_Pointer_token_l1_s]
    simp only [hza, if_false, Option.bind_some, h.is, hch, if_true]
    rw [c_Pointer_token_l1_s]
    simp only [hza1, if_false, Option.bind_some, h.is, hch1, h10, hg, hc1, ho, e1]
  · rw [m_token_l1_s]
    simp only [hml, Option.bind_some, hz, if_false, hmc, h1247, if_true, h10, hmc1, hc1, e2]
theorem tok_s1c {sk s1 : CS} {Ik : Nat → Int32} {Ak : Nat → Nat → Int32} (h : Pt K sk b us) {i f1 : Nat} {i1 a2 c : Int32} (hC : Cx K sk q cw Ik Ak R Q) (hi1 : i1.toInt = i) (hlt : i < us.length) (hza : ¬ a2 ≤ i1) (hc : us.getD i 0 = c) (h126 : ¬ c = 126) (e1 : c_StringBuilder_append_C Zd K (q 24) c sk = some (some (q 24), s1)) :
    c_Pointer_token_l1 Zd K (q 10) (some b) a2 (f1 + 1) (0, i1, sk) = c_Pointer_token_l1 Zd K (q 10) (some b) a2 f1 (0, i1 + 1, s1) := by
  have hch := h.chr (Zd := Zd) (i := i1) (by omega) (by omega)
  rw [show i1.toInt.toNat = i by omega, hc] at hch
  have hg := fg_10_0 (K := K) hC.1
  have ho := fo_24 (K := K) hC.1
  rw [c_Pointer_token_l1_s]
  simp only [hza, if_false, Option.bind_some, h.is, hch, h126, if_true, hg, ho, e1]
theorem tok_s1m {mk ms1 : MS} (hok : okC us) (hle : us.length ≤ 10) {i f2 : Nat} {i1 c : Int32} (hi1 : i1.toInt = i) (hlt : i < us.length) (hc : us.getD i 0 = c) (h126 : ¬ c = 126) (h47 : ¬ c = 47) (e2 : m_add c mk = some ms1) : m_token_l1 (encU us).1 (encU us).2 (f2 + 1) (i1, mk) = m_token_l1 (encU us).1 (encU us).2 f2 (i1 + 1, ms1) := by
  have N := nums
  have hml := enc_len hok hle
  have hni := ofNat_i (n := us.length) (by omega)
  have hz : ¬ Int32.ofNat us.length ≤ i1 := fun e9 => by have := i32le.mp e9; omega
  have hmc := enc_chr hok hle hi1 hlt
  rw [hc] at hmc
  generalize (encU us).1 = X at *
  generalize (encU us).2 = Y at *
  rw [m_token_l1_s]
  dsimp only
  rw [hml, Option.bind_some, if_neg hz, hmc, Option.bind_some, if_neg h47, Option.bind_some, if_neg h126, Option.bind_some, if_pos rfl, Option.bind_some, if_pos rfl, Option.bind_some, e2, Option.bind_some, if_pos rfl, Option.bind_some, Option.bind_some]
theorem tok_s1 {sk s1 : CS} {Ik : Nat → Int32} {Ak : Nat → Nat → Int32} {mk ms1 : MS} (h : Pt K sk b us) {i f1 f2 : Nat} {i1 a2 c : Int32} (hC : Cx K sk q cw Ik Ak R Q) (hi1 : i1.toInt = i) (hlt : i < us.length) (hza : ¬ a2 ≤ i1) (hc : us.getD i 0 = c) (h126 : ¬ c = 126) (h47 : ¬ c = 47) (e1 : c_StringBuilder_append_C Zd K (q 24) c sk = some (some (q 24), s1)) (e2 : m_add c mk = some ms1) :
    c_Pointer_token_l1 Zd K (q 10) (some b) a2 (f1 + 1) (0, i1, sk) = c_Pointer_token_l1 Zd K (q 10) (some b) a2 f1 (0, i1 + 1, s1) ∧ m_token_l1 (encU us).1 (encU us).2 (f2 + 1) (i1, mk) = m_token_l1 (encU us).1 (encU us).2 f2 (i1 + 1, ms1) := ⟨tok_s1c h hC hi1 hlt hza hc h126 e1, tok_s1m h.ok.1 h.ok.2 hi1 hlt hc h126 h47 e2⟩
/-- the token's loop: class and model -/
theorem tok_l (h : Pt K st b us) (hp : ptr us) {e : Nat} (he : e ≤ us.length) (hee : e = us.length ∨ us.getD e 0 = 47) {a2 : Int32} (ha2 : a2.toInt = e) : ∀ (m i f1 f2 f : Nat) (i1 : Int32) (sk : CS) (Ik : Nat → Int32) (Ak : Nat → Nat → Int32) (mk : MS) (cs : List Int32), i + m = e → 0 < i → i1.toInt = i → m < f1 → m < f2 → m ≤ f → (∀ j, i ≤ j → j < e → ¬ us.getD j 0 = 47) → cs.length + m ≤ 10 → le K st sk → Cx K sk q cw Ik Ak R Q → Sp Ik Ak mk cs →
    ∃ e1 s1 I1 A1 ms1, c_Pointer_token_l1 Zd K (q 10) (some b) a2 f1 (0, i1, sk) = some (0, e1, s1) ∧ m_token_l1 (encU us).1 (encU us).2 f2 (i1, mk) = some (a2, ms1) ∧ Cx K s1 q cw I1 A1 R Q ∧ stp K sk s1 ∧ Sp I1 A1 ms1 (cs ++ dec f ((us.take e).drop i)) ∧ pI Ik I1 ∧ pA Ak A1 ∧ ms1.1 = mk.1 ∧ ms1.2.2 = mk.2.2 := by
  have N := nums
  have h10 : ¬ ((1 : Int32) = 0) := by decide
  obtain ⟨hok, hle⟩ := h.ok
  have hml := enc_len hok hle
  have hni := ofNat_i (n := us.length) (by omega)
  intro m
  induction m using Nat.strongRecOn with
  | _ m ih =>
  intro i f1 f2 f i1 sk Ik Ak mk cs him h0 hi1 hf1 hf2 hf hns hcs hl hC hS
  obtain ⟨f1, rfl⟩ : ∃ g, f1 = g + 1 := ⟨f1 - 1, by omega⟩
  obtain ⟨f2, rfl⟩ : ∃ g, f2 = g + 1 := ⟨f2 - 1, by omega⟩
  by_cases hm : m = 0
  · subst hm
    have hie : i = e := by omega
    subst hie
    have hia : i1 = a2 := i32eq (by rw [hi1, ha2])
    subst hia
    refine ⟨i1, sk, Ik, Ak, mk, ?_, ?_, hC, ⟨le.rf K sk, rfl⟩, ?_, pI.rf _, pA.rf _, rfl, rfl⟩
    · rw [c_Pointer_token_l1_s, if_pos (i32le.mpr (Int.le_refl _))]
    · rw [m_token_l1_s]
      simp only [hml, Option.bind_some]
      by_cases hz : Int32.ofNat us.length ≤ i1
      · simp only [hz, if_true]
      · have hlt : i < us.length := by have : ¬ (Int32.ofNat us.length).toInt ≤ i1.toInt := fun e9 => hz (i32le.mpr e9); omega
        have h47 : us.getD i 0 = 47 := by
          rcases hee with e9 | e9
          · omega
          · exact e9
        simp only [hz, if_false, enc_chr hok hle hi1 hlt, Option.bind_some, h47, if_true]
    · rw [drop_end he]
      have : dec f [] = [] := by cases f <;> rfl
      rw [this, List.append_nil]; exact hS
  · have hie : i < e := by omega
    have hlt : i < us.length := by omega
    have hz : ¬ Int32.ofNat us.length ≤ i1 := fun e9 => by have := i32le.mp e9; omega
    have hza : ¬ a2 ≤ i1 := fun e9 => by have := i32le.mp e9; omega
    have k1 : (i1 + 1).toInt = ((i + 1 : Nat) : Int) := by rw [i32add (by omega) (by omega)]; omega
    have h47 := hns i (Nat.le_refl _) hie
    obtain ⟨f, rfl⟩ : ∃ g, f = g + 1 := ⟨f - 1, by omega⟩
    rw [drop_get hie he]
    have hcr : 0 ≤ (us.getD i 0).toInt ∧ (us.getD i 0).toInt < 256 := by
      have := hok (us.getD i 0) (by rw [List.getD_eq_getElem?_getD, List.getElem?_eq_getElem hlt]; exact List.getElem_mem hlt)
      exact this
    by_cases h126 : us.getD i 0 = 126
    · -- an escape
      obtain ⟨hp1, hp2⟩ : i + 1 < us.length ∧ (us.getD (i + 1) 0 = 48 ∨ us.getD (i + 1) 0 = 49) := by
        rcases hp with e9 | e9
        · rw [e9] at hlt; exact absurd hlt (by simp)
        · exact e9.2 i hlt h126
      have hie1 : i + 1 < e := by
        rcases Nat.lt_or_ge (i + 1) e with e9 | e9
        · exact e9
        · have : e = i + 1 := by omega
          rcases hee with e8 | e8
          · omega
          · rw [this] at e8
            rcases hp2 with e7 | e7 <;> rw [e7] at e8 <;> exact absurd e8 (by decide)
      have k2 : (i1 + 1 + 1).toInt = ((i + 2 : Nat) : Int) := by rw [i32add (by omega) (by omega)]; omega
      have k22 : i1 + 2 = i1 + 1 + 1 := i32eq (by rw [k2, i32add (by omega) (by omega)]; omega)
      have hza1 : ¬ a2 ≤ i1 + 1 := fun e9 => by have := i32le.mp e9; omega
      obtain ⟨f1, rfl⟩ : ∃ g, f1 = g + 1 := ⟨f1 - 1, by omega⟩
      obtain ⟨c, hc1, hc2, hc3⟩ : ∃ c : Int32, (if us.getD (i + 1) 0 = (48 : Int32) then (some (126 : Int32)) else (some (47 : Int32))) = some c ∧ 0 ≤ c.toInt ∧ c.toInt ≤ 255 ∧ c = (if us.getD (i + 1) 0 = 48 then 126 else 47) := by
        by_cases e9 : us.getD (i + 1) 0 = 48
        · exact ⟨126, by rw [if_pos e9], by decide, by decide, by rw [if_pos e9]⟩
        · exact ⟨47, by rw [if_neg e9], by decide, by decide, by rw [if_neg e9]⟩
      obtain ⟨s1, ms1, I1, A1, e1, e2, e3, e4, e5, e6, e7, e8, e9⟩ := papp (Zd := Zd) hC hS (c := c) (by omega) hc2 hc3.1
      obtain ⟨x1, s2, I2, A2, ms2, g1, g2, g3, g4, g5, g6, g7, g8, g9⟩ := ih (m - 2) (by omega) (i + 2) f1 f2 f (i1 + 1 + 1) s1 I1 A1 ms1 (cs ++ [c]) (by omega) (by omega) k2 (by omega) (by omega) (by omega) (fun j x1 x2 => hns j (by omega) x2) (by rw [List.length_append, List.length_singleton]; omega) (hl.tr e4.1) e3 e5
      obtain ⟨w1, w2⟩ := tok_s2 (Zd := Zd) (f1 := f1) (f2 := f2) (h.le hl) hC hi1 hp1 hza hza1 h126 hc1 e1 e2
      refine ⟨x1, s2, I2, A2, ms2, w1.trans g1, by rw [w2, k22]; exact g2, g3, e4.tr g4, ?_, e6.tr g6, e7.tr g7, g8.trans e8, g9.trans e9⟩
      · rw [drop_get hie1 he]
        have : dec (f + 1) (us.getD i 0 :: us.getD (i + 1) 0 :: (us.take e).drop (i + 1 + 1)) = c :: dec f ((us.take e).drop (i + 2)) := by
          simp only [dec, h126, if_true, hc3.2]
        rw [this]
        rw [List.append_assoc] at g5
        exact g5
    · obtain ⟨s1, ms1, I1, A1, e1, e2, e3, e4, e5, e6, e7, e8, e9⟩ := papp (Zd := Zd) hC hS (c := us.getD i 0) (by omega) hcr.1 (by omega)
      obtain ⟨x1, s2, I2, A2, ms2, g1, g2, g3, g4, g5, g6, g7, g8, g9⟩ := ih (m - 1) (by omega) (i + 1) f1 f2 f (i1 + 1) s1 I1 A1 ms1 (cs ++ [us.getD i 0]) (by omega) (by omega) k1 (by omega) (by omega) (by omega) (fun j x1 x2 => hns j (by omega) x2) (by rw [List.length_append, List.length_singleton]; omega) (hl.tr e4.1) e3 e5
      obtain ⟨w1, w2⟩ := tok_s1 (Zd := Zd) (f1 := f1) (f2 := f2) (h.le hl) hC hi1 hlt hza rfl h126 h47 e1 e2
      refine ⟨x1, s2, I2, A2, ms2, w1.trans g1, w2.trans g2, g3, e4.tr g4, ?_, e6.tr g6, e7.tr g7, g8.trans e8, g9.trans e9⟩
      · have : dec (f + 1) (us.getD i 0 :: (us.take e).drop (i + 1)) = us.getD i 0 :: dec f ((us.take e).drop (i + 1)) := by
          simp only [dec, h126, if_false]
        rw [this]
        rw [List.append_assoc] at g5
        exact g5
/-- a token: where the text lies, what it says -/
theorem tok_lock (h : Pt K st b us) (hp : ptr us) (hC : Cx K st q cw I A R Q) (hW : Wp I A) {i e : Nat} (he : e ≤ us.length) (hee : e = us.length ∨ us.getD e 0 = 47) (h0 : 0 < i) (hie : i ≤ e) (hns : ∀ j, i ≤ j → j < e → ¬ us.getD j 0 = 47) {a1 a2 : Int32} (ha1 : a1.toInt = i) (ha2 : a2.toInt = e) (z6 : st.1.1 + 2 ≤ Zd 6) (z7 : st.1.2 + 14 ≤ Zd 7) :
    ∃ s1 I1 A1 ms1 t, c_Pointer_token Zd K (q 10) (some b) a1 a2 st = some (some t, s1) ∧ (∀ y, y + 1 = a1 → m_token (encU us).1 (encU us).2 y ms = some (a2, ms1)) ∧ Cx K s1 q cw I1 A1 R Q ∧ le K st s1 ∧ s1.1.1 = st.1.1 + 2 ∧ s1.1.2 ≤ st.1.2 + 14 ∧ Pt K s1 t (tkn us i e) ∧ (ms1.2.1 0, ms1.2.1 1) = encU (tkn us i e) ∧ (tkn us i e).length ≤ 9 ∧ Wp I1 A1 ∧ pI I I1 ∧ pA A A1 ∧ ms1.1 = ms.1 ∧ ms1.2.2 = ms.2.2 := by
  have N := nums
  obtain ⟨hok, hle⟩ := h.ok
  obtain ⟨m1, s0, g1, g2, g3⟩ := pw_set0 (Zd := Zd) hC hW.1
  have hS : Sp (upd (upd I 16 m1) 17 0) A (ms.1, vp_updL (vp_updL ms.2.1 0 0) 1 0, ms.2.2.1, ms.2.2.2) [] := ⟨rfl, (fun c hc => by cases hc), (by decide), (fun i hi => absurd hi (by simp)), rfl, hW.2.2⟩
  obtain ⟨e1, s1, I1, A1, ms1, f1, f2, f3, f4, f5, f6, f7, f8, f9⟩ := tok_l (Zd := Zd) h hp he hee ha2 (e - i) i 4096 4096 16 a1 s0 _ A _ [] (by omega) h0 ha1 (by omega) (by omega) (by omega) hns (by simp; omega) g3.1 g2 hS
  rw [List.nil_append] at f5
  have hlen : ∀ (f : Nat) (cs : List Int32), (dec f cs).length ≤ cs.length := by
    intro f
    induction f with
    | zero => intro cs; exact Nat.zero_le _
    | succ f ih =>
      intro cs
      cases cs with
      | nil => exact Nat.le_refl _
      | cons c cs =>
        by_cases e9 : c = 126
        · cases cs with
          | nil => simp [dec, e9]
          | cons d ds =>
            have := ih ds
            simp only [dec, e9, if_true, List.length_cons]
            omega
        · have := ih cs
          simp only [dec, e9, if_false, List.length_cons]
          omega
  have ht9 : (tkn us i e).length ≤ 9 := by
    have := hlen 16 ((us.take e).drop i)
    rw [List.length_drop, List.length_take] at this
    unfold tkn
    omega
  have f5 : Sp I1 A1 ms1 (tkn us i e) := f5
  obtain ⟨w1, w2, w3, w4, w5, w6⟩ := f5
  have hs01 : s1.1 = st.1 := f4.2.trans g3.2
  obtain ⟨s2, j1, j2, j3, j4, j5⟩ := pw_str (Zd := Zd) f3 (by omega) (by omega) w6 (by rw [hs01]; exact z6) (by rw [hs01]; omega)
  refine ⟨s2, I1, A1, ms1, s1.1.1, ?_, ?_, j3, (g3.1.tr f4.1).tr j4, by rw [j2, hs01], by rw [j2, hs01]; omega, ?_, w5, ht9, ⟨by omega, by omega, w6⟩, ?_, f7, f8, f9⟩
  · simp only [c_Pointer_token, fg_10_0 hC.1, Option.bind_some, fo_24 hC.1, g1, f1, fg_10_0 f3.1, fo_24 f3.1, j1]
  · intro y hy
    simp only [m_token, m_clear, Option.bind_some, hy, f2]
  · have e9 : strOf K s2 s1.1.1 = some ((tkn us i e).map i2b) := by
      rw [j5, show (I1 17).toInt.toNat = (tkn us i e).length by omega, map_i2b w4]
    refine ⟨(tkn us i e).map i2b, e9, okS_i2b w3, ?_⟩
    rw [List.map_map]
    have : ∀ c ∈ tkn us i e, (u8 ∘ i2b) c = c := fun c hc => u8_i2b (w2 c hc).1 (w2 c hc).2
    rw [List.map_congr_left this, List.map_id']
  · intro k k1 k2
    rw [f6 k k1 k2, upd_ne k2, upd_ne k1]
end TOK
