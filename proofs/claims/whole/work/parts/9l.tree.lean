/-! A value written, class and model: its text. -/
theorem cA_le {K : KE} {s s1 : CS} (h : le K s s1) {a : Nat} {fs : List Value} (ha : cA K s a = some (.inr (.inr (11, fs)))) : cA K s1 a = cA K s a := by rw [h.1 a 11 fs (Or.inl rfl) ha, ha]
theorem gQ_eq {K : KE} {s s1 : CS} {a c i : Nat} (h : cA K s1 a = cA K s a) : gQ K s1 a c i = gQ K s a c i := by
  unfold gQ gF
  rw [h]
theorem gI_eq {K : KE} {s s1 : CS} {a c i : Nat} (h : cA K s1 a = cA K s a) : gI K s1 a c i = gI K s a c i := by
  unfold gI gF
  rw [h]
/-- a chain from a place has one length -/
theorem cs_len {Zd : Nat → Nat} {K : KE} {s : CS} {d : Nat} : ∀ (ks ks1 : List Kd) (r : Option Nat), Cs (fT Zd K s d) r ks none → Cs (fT Zd K s d) r ks1 none → ks.length = ks1.length := by
  intro ks
  induction ks with
  | nil =>
    intro ks1 r h h1
    have h : r = none := h
    subst h
    cases ks1 with
    | nil => rfl
    | cons k ks1 => obtain ⟨e, -⟩ := h1; cases e
  | cons k ks ih =>
    intro ks1 r h h1
    obtain ⟨rfl, nx, h2, h3⟩ := h
    cases ks1 with
    | nil => have h1 : some k.2.1 = none := h1; cases h1
    | cons k1 ks1 =>
      obtain ⟨e, nx1, g2, g3⟩ := h1
      have e : k.2.1 = k1.2.1 := Option.some.inj e
      have hn : some nx = some nx1 := by rw [← h2.2, e]; exact g2.2
      rw [Option.some.inj hn] at h3
      rw [List.length_cons, List.length_cons, ih ks1 nx1 h3 g3]
theorem cs_nodup {Zd : Nat → Nat} {K : KE} {s : CS} {d : Nat} : ∀ (ks : List Kd) (r : Option Nat), Cs (fT Zd K s d) r ks none → (ks.map (fun k => k.2.1)).Nodup := by
  intro ks
  induction ks with
  | nil => intro r _; exact List.nodup_nil
  | cons k ks ih =>
    intro r h
    have h0 := h
    obtain ⟨rfl, nx, h2, h3⟩ := h
    rw [List.map_cons]
    refine List.nodup_cons.mpr ⟨fun hm => ?_, ih nx h3⟩
    obtain ⟨k1, hk1, he⟩ := List.mem_map.mp hm
    obtain ⟨xs, ys, rfl⟩ := List.append_of_mem hk1
    obtain ⟨m, -, h4⟩ := (Cs.app xs (k1 :: ys) nx none).mp h3
    have hm : m = some k.2.1 := by rw [h4.1, he]
    rw [hm] at h4
    have := cs_len _ _ _ h0 h4
    rw [List.length_cons, List.length_append, List.length_cons] at this
    omega
def cls (o : Int32) : List Int32 := if o < 5 then [] else [if o = 5 then 93 else 125]
def tPs (ob : Bool) : Bool → List (Kd × List Int32) → List Int32
  | _, [] => []
  | fs, z :: zs => (if fs then [] else [44]) ++ (if ob then tStr (nmL z.1.2.2) ++ [58] else []) ++ z.2 ++ tPs ob false zs
def zL (zs : List (Kd × List Int32)) : List Nd := (zs.map (fun z => z.1.2.2)).flatten
theorem zL_cons (z : Kd × List Int32) (zs : List (Kd × List Int32)) : zL (z :: zs) = z.1.2.2 ++ zL zs := by
  unfold zL
  rw [List.map_cons, List.flatten_cons]
theorem tPs_len (ob : Bool) : ∀ (zs : List (Kd × List Int32)) (fs : Bool), (∀ z ∈ zs, z.2.length + 24 ≤ 46 * z.1.2.2.length ∧ (nmL z.1.2.2).length ≤ 10) → (tPs ob fs zs).length ≤ 46 * (zL zs).length := by
  intro zs
  induction zs with
  | nil => intro fs _; exact Nat.zero_le _
  | cons z zs ih =>
    intro fs h
    obtain ⟨h1, h2⟩ := h z List.mem_cons_self
    have h3 := ih false (fun y hy => h y (List.mem_cons_of_mem _ hy))
    have h4 := tStr_len h2
    have e1 : (if fs then ([] : List Int32) else [44]).length ≤ 1 := by cases fs <;> decide
    have e2 : (if ob then tStr (nmL z.1.2.2) ++ [58] else []).length ≤ 23 := by
      cases ob
      · show ([] : List Int32).length ≤ 23; decide
      · show (tStr (nmL z.1.2.2) ++ [58]).length ≤ 23
        rw [List.length_append]
        show _ + 1 ≤ 23
        omega
    rw [zL_cons, List.length_append]
    show ((if fs then ([] : List Int32) else [44]) ++ (if ob then tStr (nmL z.1.2.2) ++ [58] else []) ++ z.2 ++ tPs ob false zs).length ≤ _
    rw [List.length_append, List.length_append, List.length_append]
    omega
section TREEW
variable {Zd : Nat → Nat} {K : KE} {R : Nat → Option Nat} {Q : Nat → Nat → Option Nat} {s0 : CS} {q0 : Nat → Nat} {cw0 : Nat} {I0 : Nat → Int32} {A0 : Nat → Nat → Int32} {LL : List Nd} {m0 : MS} {a0 : Nat} {b y2 : Int32}
def CW (Zd : Nat → Nat) (K : KE) (R : Nat → Option Nat) (Q : Nat → Nat → Option Nat) (s0 : CS) (q0 : Nat → Nat) (cw0 : Nat) (I0 : Nat → Int32) (A0 : Nat → Nat → Int32) (d a : Nat) (T : List Int32) : Prop := ∀ (e : Nat) (a2 : Int32) (T0 : List Int32) (s : CS), d ≤ e → 0 ≤ a2.toInt → a2.toInt + d ≤ 8 → WB K R Q s0 q0 cw0 I0 A0 T0 s → T0.length + T.length ≤ 1200 → ∃ s1, c_Value_write Zd K e (some a) (some (q0 7)) a2 s = some s1 ∧ WB K R Q s0 q0 cw0 I0 A0 (T0 ++ T) s1
def MW (LL : List Nd) (m0 : MS) (a0 : Nat) (b y2 : Int32) (L : List Nd) (T : List Int32) : Prop := ∀ (P S : List Nd) (hold : Option Nat) (Cl : List Int32), LL = P ++ L ++ S → (∀ j, P.length ≤ j → j < P.length + L.length → hol LL j P.length = hold) → (∀ e, P.length < e → e < P.length + L.length → clo LL e P.length = []) → clo LL (P.length + L.length) P.length = Cl → ∀ (f : Nat) (T0 : List Int32) (m : MS) (v : Int32), v.toInt = a0 + P.length → MB m0 T0 m → T0.length + (preT LL (nmL L) P.length hold ++ T ++ Cl).length ≤ 1200 → ∃ (m1 : MS) (v1 : Int32), v1.toInt = a0 + (P.length + L.length : Nat) ∧ m_emitValue_l1 b y2 (f + L.length) (v, m) = m_emitValue_l1 b y2 f (v1, m1) ∧ MB m0 (T0 ++ (preT LL (nmL L) P.length hold ++ T ++ Cl)) m1
/-- the class writes the parts -/
theorem cl_parts (hz : Wm Zd s0 cw0) {d e a kd : Nat} {a2 : Int32} {fst : Option Nat} {fs9 : List Value} {ob : Bool} (he : d ≤ e) (h0 : 0 ≤ a2.toInt) (h8 : a2.toInt + 1 + d ≤ 8) (ha : cA K s0 a = some (.inr (.inr (11, fs9)))) (hf : gQ K s0 a 11 4 = some fst) (hkd : gQ K s0 a 11 0 = some (some kd)) (hob : (some kd = some (Zd 14)) = (ob = true)) : ∀ (zs : List (Kd × List Int32)) (fuel : Nat) (r : Option Nat) (fs : Bool) (T : List Int32) (s : CS), Cs (fT Zd K s0 d) r (zs.map (fun z => z.1)) none → (∀ z ∈ zs, CW Zd K R Q s0 q0 cw0 I0 A0 d z.1.2.1 z.2 ∧ (nmL z.1.2.2).length ≤ 10 ∧ ∃ f9, cA K s0 z.1.2.1 = some (.inr (.inr (11, f9)))) → (zs.map (fun z => z.1.2.1)).Nodup → zs.length < fuel → (fs = true → zs ≠ [] → r = fst) → (fs = false → ∀ z ∈ zs, some z.1.2.1 ≠ fst) → WB K R Q s0 q0 cw0 I0 A0 T s → T.length + (tPs ob fs zs).length ≤ 1200 → ∃ s1, c_Value_writeParts_l1 Zd K (c_Value_write Zd K e) (some (q0 7)) a2 a fuel (r, s) = some (none, s1) ∧ WB K R Q s0 q0 cw0 I0 A0 (T ++ tPs ob fs zs) s1 := by
  have N := nums
  intro zs
  induction zs with
  | nil =>
    intro fuel r fs T s h1 h2 h3 h4 h5 h6 hw hT
    obtain ⟨f, rfl⟩ : ∃ f, fuel = f + 1 := ⟨fuel - 1, by have : 0 < fuel := h4; omega⟩
    have h1 : r = none := h1
    subst h1
    refine ⟨s, ?_, by show WB K R Q s0 q0 cw0 I0 A0 (T ++ []) s; rw [List.append_nil]; exact hw⟩
    rw [c_Value_writeParts_l1_s]
    rfl
  | cons z zs ih =>
    intro fuel r fs T s h1 h2 h3 h4 h5 h6 hw hT
    obtain ⟨f, rfl⟩ : ∃ f, fuel = f + 1 := ⟨fuel - 1, by have : zs.length + 1 < fuel := h4; omega⟩
    have h4 : zs.length < f := Nat.lt_of_succ_lt_succ h4
    obtain ⟨hr, nx, g1, g2⟩ := h1
    have hr : r = some z.1.2.1 := hr
    subst hr
    have g1 : fT Zd K s0 d z.1.1 z.1.2.1 nx z.1.2.2 := g1
    obtain ⟨hcw, hnl, f9, hz9⟩ := h2 z List.mem_cons_self
    rw [List.map_cons] at h3
    obtain ⟨n1, n2⟩ := List.nodup_cons.mp h3
    obtain ⟨nm, v1, v2, v3⟩ := tree_nm g1.1
    have hT : T.length + ((if fs then ([] : List Int32) else [44]) ++ (if ob then tStr (nmL z.1.2.2) ++ [58] else []) ++ z.2 ++ tPs ob false zs).length ≤ 1200 := hT
    rw [List.length_append, List.length_append, List.length_append] at hT
    -- the comma
    obtain ⟨s1, c1, c2⟩ : ∃ s1, (if some z.1.2.1 = fst then (some s) else ((some (q0 7)).bind fun a41z => (isO K s a41z 2).bind fun _ => (c_StringBuilder_append_C Zd K a41z (44 : Int32) s).bind fun r44 => some r44.2)) = some s1 ∧ WB K R Q s0 q0 cw0 I0 A0 (T ++ (if fs then [] else [44])) s1 := by
      cases fs with
      | true =>
        refine ⟨s, if_pos (h5 rfl (List.cons_ne_nil _ _)), ?_⟩
        show WB K R Q s0 q0 cw0 I0 A0 (T ++ []) s
        rw [List.append_nil]; exact hw
      | false =>
        have hT : T.length + (1 + _ + _ + _) ≤ 1200 := hT
        obtain ⟨s1, f1, f2⟩ := hw.chr hz (c := 44) (by omega) (by decide) (by decide)
        refine ⟨s1, ?_, f2⟩
        rw [if_neg (h6 rfl z List.mem_cons_self), Option.bind_some, hw.is, Option.bind_some, f1, Option.bind_some]
    -- the name
    obtain ⟨s2, d1, d2⟩ : ∃ s2, (if some kd = some (Zd 14) then ((gQ K s1 z.1.2.1 11 3).bind fun x32 => (c_Value_writeString Zd K x32 (some (q0 7)) s1).bind fun st34 => (some (q0 7)).bind fun a36z => (isO K st34 a36z 2).bind fun _ => (c_StringBuilder_append_C Zd K a36z (58 : Int32) st34).bind fun r39 => some r39.2) else (some s1)) = some s2 ∧ WB K R Q s0 q0 cw0 I0 A0 (T ++ (if fs then [] else [44]) ++ (if ob then tStr (nmL z.1.2.2) ++ [58] else [])) s2 := by
      cases ob with
      | true =>
        have hk14 : some kd = some (Zd 14) := by rw [hob]
        have hT : T.length + (_ + (tStr (nmL z.1.2.2) ++ [58]).length + _ + _) ≤ 1200 := hT
        rw [List.length_append] at hT
        have hT : T.length + (_ + ((tStr (nmL z.1.2.2)).length + 1) + _ + _) ≤ 1200 := hT
        obtain ⟨s2, f1, f2⟩ := c2.qs hz v2 hnl (by rw [List.length_append]; omega)
        obtain ⟨s3, f3, f4⟩ := f2.chr hz (c := 58) (by rw [List.length_append, List.length_append]; omega) (by decide) (by decide)
        refine ⟨s3, ?_, by rw [List.append_assoc] at f4; exact f4⟩
        rw [if_pos hk14, gQ_eq (cA_le c2.le hz9), v1, Option.bind_some, f1, Option.bind_some, Option.bind_some, f2.is, Option.bind_some, f3, Option.bind_some]
      | false =>
        have hk14 : ¬ some kd = some (Zd 14) := by rw [hob]; decide
        refine ⟨s1, if_neg hk14, ?_⟩
        show WB K R Q s0 q0 cw0 I0 A0 (T ++ (if fs then [] else [44]) ++ []) s1
        rw [List.append_nil]; exact c2
    have k1 : (a2 + 1).toInt = a2.toInt + 1 := by rw [i32add (by omega) (by omega)]; omega
    obtain ⟨s3, e1, e2⟩ := hcw e (a2 + 1) _ s2 he (by omega) (by omega) d2 (by rw [List.length_append, List.length_append]; omega)
    obtain ⟨s4, i1, i2⟩ := ih f nx false _ s3 g2 (fun y hy => h2 y (List.mem_cons_of_mem _ hy)) n2 h4 (fun e9 => by cases e9) (fun _ y hy e9 => by
      cases fs with
      | true =>
        have h9 := h5 rfl (List.cons_ne_nil _ _)
        rw [← h9] at e9
        exact n1 (List.mem_map.mpr ⟨y, hy, Option.some.inj e9⟩)
      | false => exact h6 rfl y (List.mem_cons_of_mem _ hy) e9) e2 (by rw [List.length_append, List.length_append, List.length_append]; omega)
    refine ⟨s4, ?_, ?_⟩
    · rw [c_Value_writeParts_l1_s]
      simp only [nl, gQ_eq (cA_le hw.le ha), hf, Option.bind_some]
      simp only [Option.bind_some] at c1 d1
      simp only [c1, Option.bind_some, gQ_eq (cA_le c2.le ha), hkd, d1, e1, gQ_eq (cA_le e2.le hz9), g1.2]
      exact i1
    · show WB K R Q s0 q0 cw0 I0 A0 (T ++ ((if fs then ([] : List Int32) else [44]) ++ (if ob then tStr (nmL z.1.2.2) ++ [58] else []) ++ z.2 ++ tPs ob false zs)) s4
      simp only [List.append_assoc] at i2 ⊢
      exact i2
end TREEW
