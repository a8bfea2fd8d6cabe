/-! A token as a number: class and model. -/
def tvn (cs : List Int32) : Nat := cs.foldl (fun v c => 10 * v + (c.toInt - 48).toNat) 0
def dgs (cs : List Int32) : Bool := cs.all (fun c => decide (48 ≤ c.toInt ∧ c.toInt ≤ 57))
def tnum (t : List Int32) : Option Nat := if t.length = 0 then none else if dgs t = false then none else if 1 < t.length ∧ t.getD 0 0 = 48 then none else some (tvn t)
theorem tv_snoc (cs : List Int32) (c : Int32) : tvn (cs ++ [c]) = 10 * tvn cs + (c.toInt - 48).toNat := by
  unfold tvn
  rw [List.foldl_append]
  rfl
theorem dgs_app (xs ys : List Int32) : dgs (xs ++ ys) = (dgs xs && dgs ys) := by
  unfold dgs
  rw [List.all_append]
theorem dgs_1 {c : Int32} : dgs [c] = true ↔ isDg c := by
  unfold dgs isDg
  simp
theorem tv_lt : ∀ (n : Nat) (cs : List Int32), cs.length = n → dgs cs = true → tvn cs < 10 ^ n := by
  intro n
  induction n with
  | zero =>
    intro cs h _
    rw [List.length_eq_zero_iff.mp h]
    decide
  | succ n ih =>
    intro cs h hd
    rcases List.eq_nil_or_concat cs with e | ⟨ds, c, e⟩
    · rw [e] at h; simp at h
    · rw [List.concat_eq_append] at e
      subst e
      rw [List.length_append, List.length_singleton] at h
      rw [dgs_app, Bool.and_eq_true] at hd
      have h1 := ih ds (by omega) hd.1
      have h2 := dgs_1.mp hd.2
      unfold isDg at h2
      rw [tv_snoc, Nat.pow_succ]
      omega
theorem pow9 {n : Nat} (h : n ≤ 9) : 10 ^ n ≤ 1000000000 := by
  have : ∀ n, n ≤ 9 → 10 ^ n ≤ 1000000000 := by decide
  exact this n h
section IDX
variable {Zd : Nat → Nat} {K : KE} {st : CS} {ms : MS} {b : Nat} {t : List Int32}
theorem idx_l2 (a : Nat) (x : Int32) : ∀ f e, c_Pointer_index_l2 Zd K st a x f e = c_Pointer_index_l1 Zd K st a x f e := by
  intro f
  induction f with
  | zero => intro e; rfl
  | succ f ih => intro e; rw [c_Pointer_index_l1_s, c_Pointer_index_l2_s]; simp only [ih]
theorem snoc_get {ds rs : List Int32} {c : Int32} : (ds ++ c :: rs).getD ds.length 0 = c := by
  rw [List.getD_eq_getElem?_getD, List.getElem?_append_right (Nat.le_refl _), Nat.sub_self]
  rfl
theorem idx_c (h : Pt K st b t) (ht : t.length ≤ 9) : ∀ (rs ds : List Int32) (fuel : Nat) (v i : Int32), t = ds ++ rs → i.toInt = ds.length → v.toInt = tvn ds → dgs ds = true → rs.length < fuel → (dgs rs = true → ∃ v1 e, c_Pointer_index_l1 Zd K st b (Int32.ofNat t.length) fuel (v, i) = some (.inr (v1, e)) ∧ v1.toInt = tvn t) ∧ (dgs rs = false → c_Pointer_index_l1 Zd K st b (Int32.ofNat t.length) fuel (v, i) = some (.inl (-1))) := by
  have N := nums
  have n48 : (48 : Int32).toInt = 48 := by decide
  have n10 : (10 : Int32).toInt = 10 := by decide
  have h10 : ¬ ((1 : Int32) = 0) := by decide
  have hni := ofNat_i (n := t.length) (by omega)
  intro rs
  induction rs with
  | nil =>
    intro ds fuel v i e hi hv hd hf
    obtain ⟨f, rfl⟩ : ∃ f, fuel = f + 1 := ⟨fuel - 1, by have : 0 < fuel := hf; omega⟩
    rw [List.append_nil] at e
    subst e
    refine ⟨fun _ => ⟨v, i, ?_, hv⟩, fun e => by cases e⟩
    have hle : Int32.ofNat t.length ≤ i := i32le.mpr (by omega)
    rw [c_Pointer_index_l1_s, if_pos hle]
  | cons c rs ih =>
    intro ds fuel v i e hi hv hd hf
    obtain ⟨f, rfl⟩ : ∃ f, fuel = f + 1 := ⟨fuel - 1, by have : rs.length + 1 < fuel := hf; omega⟩
    have hf : rs.length < f := Nat.lt_of_succ_lt_succ hf
    have hlen : t.length = ds.length + (rs.length + 1) := by rw [e, List.length_append, List.length_cons]
    have hz : ¬ Int32.ofNat t.length ≤ i := fun e9 => by have := i32le.mp e9; omega
    have hch := h.chr (Zd := Zd) (i := i) (by omega) (by omega)
    rw [show i.toInt.toNat = ds.length by omega] at hch
    have hc : t.getD ds.length 0 = c := by rw [e]; exact snoc_get
    rw [hc] at hch
    by_cases hdc : isDg c
    · have hdc2 := hdc
      unfold isDg at hdc2
      have hlt := tv_lt ds.length ds rfl hd
      have h9 := pow9 (n := ds.length) (by omega)
      have hds8 : ds.length ≤ 8 := by omega
      have h8 : 10 ^ ds.length ≤ 100000000 := by
        have : ∀ n, n ≤ 8 → 10 ^ n ≤ 100000000 := by decide
        exact this _ hds8
      have k1 : (i + 1).toInt = ((ds ++ [c]).length : Int) := by rw [i32add (by omega) (by omega), List.length_append, List.length_singleton]; omega
      have k2 : (v * 10).toInt = v.toInt * 10 := by rw [i32mul (by rw [n10]; omega) (by rw [n10]; omega), n10]
      have k3 : (c - 48).toInt = c.toInt - 48 := by rw [i32sub (by omega) (by omega), n48]
      have k4 : (v * 10 + (c - 48)).toInt = (tvn (ds ++ [c]) : Nat) := by
        rw [i32add (by rw [k2, k3]; omega) (by rw [k2, k3]; omega), k2, k3, tv_snoc]
        omega
      obtain ⟨i1, i2⟩ := ih (ds ++ [c]) f (v * 10 + (c - 48)) (i + 1) (by rw [e, List.append_assoc]; rfl) k1 k4 (by rw [dgs_app, hd, dgs_1.mpr hdc]; rfl) hf
      have hstep : c_Pointer_index_l1 Zd K st b (Int32.ofNat t.length) (f + 1) (v, i) = c_Pointer_index_l1 Zd K st b (Int32.ofNat t.length) f (v * 10 + (c - 48), i + 1) := by
        rw [c_Pointer_index_l1_s]
        simp only [hz, if_false, h.is, Option.bind_some, hch, c_dig1 hdc, h10]
      have hdd : dgs (c :: rs) = dgs rs := by
        have : dgs (c :: rs) = (dgs [c] && dgs rs) := dgs_app [c] rs
        rw [this, dgs_1.mpr hdc]; rfl
      rw [hstep, hdd]
      exact ⟨i1, i2⟩
    · have hdd : dgs (c :: rs) = false := by
        have e1 : dgs (c :: rs) = (dgs [c] && dgs rs) := dgs_app [c] rs
        have e2 : dgs [c] = false := by
          cases e3 : dgs [c] with
          | false => rfl
          | true => exact absurd (dgs_1.mp e3) hdc
        rw [e1, e2]; rfl
      rw [hdd]
      refine ⟨fun e9 => (by cases e9), fun _ => ?_⟩
      rw [c_Pointer_index_l1_s]
      simp only [hz, if_false, h.is, Option.bind_some, hch, c_dig0 hdc, if_true]
theorem idx_m (hok : okC t) (ht : t.length ≤ 9) (hm : (ms.2.1 0, ms.2.1 1) = encU t) (hz0 : ¬ (1 < t.length ∧ t.getD 0 0 = 48)) : ∀ (rs ds : List Int32) (fuel : Nat) (v i : Int32), t = ds ++ rs → i.toInt = ds.length → v.toInt = (min (tvn ds) 999 : Nat) → dgs ds = true → rs.length < fuel → (dgs rs = true → ∃ v1 e, m_tokenNumber_l1 ms (Int32.ofNat t.length) fuel (v, i) = some (.inr (v1, e)) ∧ v1.toInt = (min (tvn t) 999 : Nat)) ∧ (dgs rs = false → m_tokenNumber_l1 ms (Int32.ofNat t.length) fuel (v, i) = some (.inl (-1))) := by
  have N := nums
  have n48 : (48 : Int32).toInt = 48 := by decide
  have n10 : (10 : Int32).toInt = 10 := by decide
  have n99 : (99 : Int32).toInt = 99 := by decide
  have n999 : (999 : Int32).toInt = 999 := by decide
  have h10 : ¬ ((1 : Int32) = 0) := by decide
  have hni := ofNat_i (n := t.length) (by omega)
  have hm0 : ms.2.1 0 = (encU t).1 := congrArg Prod.fst hm
  have hm1 : ms.2.1 1 = (encU t).2 := congrArg Prod.snd hm
  intro rs
  induction rs with
  | nil =>
    intro ds fuel v i e hi hv hd hf
    obtain ⟨f, rfl⟩ : ∃ f, fuel = f + 1 := ⟨fuel - 1, by have : 0 < fuel := hf; omega⟩
    rw [List.append_nil] at e
    subst e
    refine ⟨fun _ => ⟨v, i, ?_, hv⟩, fun e => by cases e⟩
    have hle : Int32.ofNat t.length ≤ i := i32le.mpr (by omega)
    rw [m_tokenNumber_l1_s, if_pos hle]
  | cons c rs ih =>
    intro ds fuel v i e hi hv hd hf
    obtain ⟨f, rfl⟩ : ∃ f, fuel = f + 1 := ⟨fuel - 1, by have : rs.length + 1 < fuel := hf; omega⟩
    have hf : rs.length < f := Nat.lt_of_succ_lt_succ hf
    have hlen : t.length = ds.length + (rs.length + 1) := by rw [e, List.length_append, List.length_cons]
    have hz : ¬ Int32.ofNat t.length ≤ i := fun e9 => by have := i32le.mp e9; omega
    have hch := enc_chr hok (by omega) hi (show ds.length < t.length by omega)
    have hc : t.getD ds.length 0 = c := by rw [e]; exact snoc_get
    rw [hc] at hch
    by_cases hdc : isDg c
    · have hdc2 := hdc
      unfold isDg at hdc2
      have k1 : (i + 1).toInt = ((ds ++ [c]).length : Int) := by rw [i32add (by omega) (by omega), List.length_append, List.length_singleton]; omega
      have hnz : ¬ (i = 1 ∧ v = 0) := by
        rintro ⟨e1, e2⟩
        rw [e1, N.2.1] at hi
        rw [e2, N.1] at hv
        have hd1 : ds.length = 1 := by omega
        obtain ⟨x, rfl⟩ := List.length_eq_one_iff.mp hd1
        have hx : t.getD 0 0 = x := by rw [e]; rfl
        have hdx := dgs_1.mp hd
        unfold isDg at hdx
        have htv : tvn [x] = (x.toInt - 48).toNat := by unfold tvn; simp
        rw [htv] at hv
        refine hz0 ⟨by omega, ?_⟩
        rw [hx]
        exact i32eq (by rw [n48]; omega)
      obtain ⟨e30, hv1, hv2⟩ : ∃ e30 : Int32, (if v ≤ (99 : Int32) then ((some (10 * v)).bind fun y32 => (some (y32 + c)).bind fun y33 => (some (y33 - 48)).bind fun y34 => some y34) else (some (999 : Int32))) = some e30 ∧ e30.toInt = (min (tvn (ds ++ [c])) 999 : Nat) := by
        by_cases hv9 : v ≤ 99
        · have hv99 := i32le.mp hv9
          rw [n99] at hv99
          refine ⟨10 * v + c - 48, by rw [if_pos hv9]; rfl, ?_⟩
          have k2 : (10 * v).toInt = 10 * v.toInt := i32mulk 10 n10 (by omega) (by omega)
          have k3 : (10 * v + c).toInt = 10 * v.toInt + c.toInt := by rw [i32add (by omega) (by omega), k2]
          rw [i32sub (by rw [k3]; omega) (by rw [k3]; omega), k3, n48, tv_snoc]
          omega
        · have hv99 : ¬ v.toInt ≤ (99 : Int32).toInt := fun e9 => hv9 (i32le.mpr e9)
          rw [n99] at hv99
          refine ⟨999, by rw [if_neg hv9], ?_⟩
          rw [n999, tv_snoc]
          omega
      obtain ⟨i1, i2⟩ := ih (ds ++ [c]) f e30 (i + 1) (by rw [e, List.append_assoc]; rfl) k1 hv2 (by rw [dgs_app, hd, dgs_1.mpr hdc]; rfl) hf
      have hstep : m_tokenNumber_l1 ms (Int32.ofNat t.length) (f + 1) (v, i) = m_tokenNumber_l1 ms (Int32.ofNat t.length) f (e30, i + 1) := by
        rw [m_tokenNumber_l1_s]
        simp only [Option.bind_some] at hv1
        by_cases e1 : i = 1
        · have e2 : ¬ v = 0 := fun e9 => hnz ⟨e1, e9⟩
          subst e1
          simp only [hz, if_false, hm0, hm1, hch, Option.bind_some, m_dig1 hdc, h10, e2, if_true, hv1]
        · simp only [hz, if_false, hm0, hm1, hch, Option.bind_some, m_dig1 hdc, h10, e1, hv1]
      have hdd : dgs (c :: rs) = dgs rs := by
        have : dgs (c :: rs) = (dgs [c] && dgs rs) := dgs_app [c] rs
        rw [this, dgs_1.mpr hdc]; rfl
      rw [hstep, hdd]
      exact ⟨i1, i2⟩
    · have hdd : dgs (c :: rs) = false := by
        have e1 : dgs (c :: rs) = (dgs [c] && dgs rs) := dgs_app [c] rs
        have e2 : dgs [c] = false := by
          cases e3 : dgs [c] with
          | false => rfl
          | true => exact absurd (dgs_1.mp e3) hdc
        rw [e1, e2]; rfl
      rw [hdd]
      refine ⟨fun e9 => (by cases e9), fun _ => ?_⟩
      rw [m_tokenNumber_l1_s]
      simp only [hz, if_false, hm0, hm1, hch, Option.bind_some, m_dig0 hdc, if_true]
/-- a zero in front -/
theorem idx_m0 (hok : okC t) (ht : t.length ≤ 9) (hm : (ms.2.1 0, ms.2.1 1) = encU t) (h1 : 1 < t.length) (h2 : t.getD 0 0 = 48) (f : Nat) : m_tokenNumber_l1 ms (Int32.ofNat t.length) (f + 2) (0, 0) = some (.inl (-1)) := by
  have N := nums
  have h10 : ¬ ((1 : Int32) = 0) := by decide
  have hni := ofNat_i (n := t.length) (by omega)
  have hm0 : ms.2.1 0 = (encU t).1 := congrArg Prod.fst hm
  have hm1 : ms.2.1 1 = (encU t).2 := congrArg Prod.snd hm
  have hc0 := enc_chr hok (by omega) (i := 0) (j := 0) (by decide) (show 0 < t.length by omega)
  have hc1 := enc_chr hok (by omega) (i := 1) (j := 1) (by decide) h1
  rw [h2] at hc0
  have z0 : ¬ Int32.ofNat t.length ≤ 0 := fun e9 => by have := i32le.mp e9; omega
  have z1 : ¬ Int32.ofNat t.length ≤ 1 := fun e9 => by have := i32le.mp e9; omega
  have hd48 : isDg 48 := by unfold isDg; decide
  rw [m_tokenNumber_l1_s]
  simp only [z0, if_false, hm0, hm1, hc0, Option.bind_some, m_dig1 hd48, h10, show ¬ ((0 : Int32) = 1) from by decide, show (0 : Int32) ≤ 99 from by decide, if_true, show (10 : Int32) * 0 + 48 - 48 = 0 from by decide, show (0 : Int32) + 1 = 1 from by decide]
  rw [m_tokenNumber_l1_s]
  by_cases hd : isDg (t.getD 1 0)
  · simp only [z1, if_false, hm0, hm1, hc1, Option.bind_some, m_dig1 hd, h10, if_true]
  · simp only [z1, if_false, hm0, hm1, hc1, Option.bind_some, m_dig0 hd, if_true]
theorem idx_lock (h : Pt K st b t) (ht : t.length ≤ 9) (hm : (ms.2.1 0, ms.2.1 1) = encU t) : ∃ x y, c_Pointer_index Zd K (some b) st = some x ∧ m_tokenNumber ms = some y ∧ (match tnum t with
    | none => x = -1 ∧ y = -1
    | some n => x.toInt = n ∧ y.toInt = (min n 999 : Nat)) := by
  have N := nums
  have n10 : (10 : Int32).toInt = 10 := by decide
  obtain ⟨hok, -⟩ := h.ok
  have hni := ofNat_i (n := t.length) (by omega)
  have hm0 : ms.2.1 0 = (encU t).1 := congrArg Prod.fst hm
  have hml := enc_len hok (show t.length ≤ 10 by omega)
  rw [← hm0] at hml
  have hn10 : ¬ (10 : Int32) ≤ Int32.ofNat t.length := fun e9 => by have := i32le.mp e9; omega
  by_cases h0 : t.length = 0
  · have hz : Int32.ofNat t.length = 0 := by rw [h0]; rfl
    refine ⟨-1, -1, ?_, ?_, ?_⟩
    · simp only [c_Pointer_index, Option.bind_some, h.is, h.len, hz, if_true]
    · have e1 : m_tokenNumber_l1 ms (Int32.ofNat t.length) 4096 (0, 0) = some (.inr (0, 0)) := by
        rw [hz]
        rw [show (4096 : Nat) = 4095 + 1 from rfl, m_tokenNumber_l1_s, if_pos (by decide)]
      simp only [m_tokenNumber, hml, Option.bind_some, e1]
      simp only [hz, if_true, Option.bind_some]
    · have : tnum t = none := by unfold tnum; rw [if_pos h0]
      rw [this]; exact ⟨rfl, rfl⟩
  · have hz : ¬ Int32.ofNat t.length = 0 := fun e => by have : (Int32.ofNat t.length).toInt = (0 : Int32).toInt := by rw [e]
                                                        rw [N.1] at this; omega
    by_cases hlz : 1 < t.length ∧ t.getD 0 0 = 48
    · refine ⟨-1, -1, ?_, ?_, ?_⟩
      · have h1 : ¬ Int32.ofNat t.length ≤ 1 := fun e9 => by have := i32le.mp e9; omega
        have hch := h.chr (Zd := Zd) (i := 0) (by decide) (by rw [N.1]; omega)
        rw [show (0 : Int32).toInt.toNat = 0 from by decide, hlz.2] at hch
        simp only [c_Pointer_index, Option.bind_some, h.is, h.len, hz, hn10, h1, if_false, hch, if_true]
      · have e1 := idx_m0 hok ht hm hlz.1 hlz.2 4094
        simp only [m_tokenNumber, hml, Option.bind_some]
        rw [show (4096 : Nat) = 4094 + 2 from rfl, e1]
        rfl
      · have : tnum t = none := by
          unfold tnum
          rw [if_neg h0]
          by_cases hd : dgs t = false
          · rw [if_pos hd]
          · rw [if_neg hd, if_pos hlz]
        rw [this]; exact ⟨rfl, rfl⟩
    · obtain ⟨c1, c2⟩ := idx_c (Zd := Zd) h ht t [] 4096 0 0 rfl rfl rfl rfl (by omega)
      obtain ⟨m1, m2⟩ := idx_m hok ht hm hlz t [] 4096 0 0 rfl rfl rfl rfl (by omega)
      have hcl : ∀ r, c_Pointer_index_l1 Zd K st b (Int32.ofNat t.length) 4096 (0, 0) = some r → c_Pointer_index Zd K (some b) st = (match r with | .inl o9 => some o9 | .inr e8 => some e8.1) := by
        intro r hr
        by_cases h1 : Int32.ofNat t.length ≤ 1
        · simp only [c_Pointer_index, Option.bind_some, h.is, h.len, hz, hn10, h1, if_false, if_true, hr]
          cases r <;> rfl
        · have hlt : 1 < t.length := by have : ¬ (Int32.ofNat t.length).toInt ≤ (1 : Int32).toInt := fun e9 => h1 (i32le.mpr e9); omega
          have hch := h.chr (Zd := Zd) (i := 0) (by decide) (by rw [N.1]; omega)
          rw [show (0 : Int32).toInt.toNat = 0 from by decide] at hch
          have h48 : ¬ t.getD 0 0 = 48 := fun e9 => hlz ⟨hlt, e9⟩
          simp only [c_Pointer_index, Option.bind_some, h.is, h.len, hz, hn10, h1, if_false, hch, h48, idx_l2, hr]
          cases r <;> rfl
      cases hd : dgs t with
      | false =>
        have : tnum t = none := by unfold tnum; rw [if_neg h0, if_pos hd]
        rw [this]
        refine ⟨-1, -1, hcl _ (c2 hd), ?_, rfl, rfl⟩
        simp only [m_tokenNumber, hml, Option.bind_some, m2 hd]
      | true =>
        obtain ⟨v1, e1, g1, g2⟩ := c1 hd
        obtain ⟨v2, e2, g3, g4⟩ := m1 hd
        have : tnum t = some (tvn t) := by
          unfold tnum
          rw [if_neg h0, if_neg (by rw [hd]; decide), if_neg hlz]
        rw [this]
        refine ⟨v1, v2, hcl _ g1, ?_, g2, g4⟩
        simp only [m_tokenNumber, hml, Option.bind_some, g3, hz, if_false]
end IDX
