/-! A value written: the model's parts; the whole. -/
theorem ex_zs {p : Kd → List Int32 → Prop} : ∀ ks : List Kd, (∀ k ∈ ks, ∃ T, p k T) → ∃ zs : List (Kd × List Int32), zs.map (fun z => z.1) = ks ∧ ∀ z ∈ zs, p z.1 z.2 := by
  intro ks
  induction ks with
  | nil => intro _; exact ⟨[], rfl, fun z hz => by cases hz⟩
  | cons k ks ih =>
    intro h
    obtain ⟨T, hT⟩ := h k List.mem_cons_self
    obtain ⟨zs, h1, h2⟩ := ih (fun y hy => h y (List.mem_cons_of_mem _ hy))
    refine ⟨(k, T) :: zs, by rw [List.map_cons, h1], fun z hz => ?_⟩
    rcases List.mem_cons.mp hz with rfl | hz
    · exact hT
    · exact h2 z hz
theorem okE_app {D L : List Nd} (h1 : okE D) (h2 : okE L) : okE (D ++ L) := by
  have := okE_flat [D, L] (fun M hM => by
    rcases List.mem_cons.mp hM with rfl | hM
    · exact h1
    · rcases List.mem_cons.mp hM with rfl | hM
      · exact h2
      · cases hM)
  rw [List.flatten_cons, List.flatten_cons, List.flatten_nil, List.append_nil] at this
  exact this
section TREEM
variable {LL : List Nd} {m0 : MS} {a0 : Nat} {b y2 : Int32}
theorem m_parts (h : RW LL m0 a0 b) {P S F : List Nd} {x : Nd} {Cl : List Int32} (hLL : LL = P ++ (x :: F) ++ S) (hx1 : x.2.1 = 1 + F.length) (h5 : ¬ x.1 < 5) (Hc : ∀ e, P.length < e → e < P.length + (1 + F.length) → clo LL e P.length = []) (Hl : clo LL (P.length + (1 + F.length)) P.length = Cl) : ∀ (zs : List (Kd × List Int32)) (D : List Nd), F = D ++ zL zs → okE D → (∀ z ∈ zs, MW LL m0 a0 b y2 z.1.2.2 z.2 ∧ okE z.1.2.2 ∧ 0 < z.1.2.2.length) → zs ≠ [] → ∀ (f : Nat) (T0 : List Int32) (m : MS) (v : Int32), v.toInt = a0 + (P.length + 1 + D.length : Nat) → MB m0 T0 m → T0.length + (tPs (decide (x.1 = 6)) D.isEmpty zs ++ cls x.1 ++ Cl).length ≤ 1200 → ∃ (m1 : MS) (v1 : Int32), v1.toInt = a0 + (P.length + (1 + F.length) : Nat) ∧ m_emitValue_l1 b y2 (f + (zL zs).length) (v, m) = m_emitValue_l1 b y2 f (v1, m1) ∧ MB m0 (T0 ++ (tPs (decide (x.1 = 6)) D.isEmpty zs ++ cls x.1 ++ Cl)) m1 := by
  have hLLx : LL[P.length]? = some x := by
    rw [hLL, List.append_assoc, List.getElem?_append_right (Nat.le_refl _), Nat.sub_self]
    rfl
  have hcl : cls x.1 = [if x.1 = 5 then 93 else 125] := by unfold cls; rw [if_neg h5]
  intro zs
  induction zs with
  | nil => intro D _ _ _ h9; exact absurd rfl h9
  | cons z zs ih =>
    intro D hF hD hz _ f T0 m v hv hm hT
    obtain ⟨hmw, hzE, hz0⟩ := hz z List.mem_cons_self
    rw [zL_cons] at hF
    have hFl : F.length = D.length + (z.1.2.2.length + (zL zs).length) := by rw [hF, List.length_append, List.length_append]
    have hP' : LL = (P ++ x :: D) ++ z.1.2.2 ++ (zL zs ++ S) := by rw [hLL, hF]; simp [List.append_assoc]
    have hPl : (P ++ x :: D).length = P.length + 1 + D.length := by rw [List.length_append, List.length_cons]; omega
    have hLLD : ∀ i y, P.length + 1 ≤ i → i < P.length + 1 + D.length → LL[i]? = some y → i + y.2.1 ≤ P.length + 1 + D.length := by
      intro i y h1 h2 h3
      obtain ⟨i', rfl⟩ : ∃ i', i = P.length + (i' + 1) := ⟨i - P.length - 1, by omega⟩
      have h4 : D[i']? = some y := by
        rw [hLL, hF, List.append_assoc, List.getElem?_append_right (by omega), show P.length + (i' + 1) - P.length = i' + 1 by omega] at h3
        have h3 : (D ++ (z.1.2.2 ++ zL zs) ++ S)[i']? = some y := h3
        rw [List.append_assoc, List.getElem?_append_left (by omega)] at h3
        exact h3
      have := hD i' y h4
      omega
    have Hh' : ∀ j, (P ++ x :: D).length ≤ j → j < (P ++ x :: D).length + z.1.2.2.length → hol LL j (P ++ x :: D).length = some P.length := by
      intro j h1 h2
      rw [hPl] at h1 h2 ⊢
      rw [hol_skip D.length (fun i y e1 e2 e3 => by have := hLLD i y e1 e2 e3; omega), hol_s hLLx, if_pos (by omega)]
    have hclo : ∀ e, P.length + 1 + D.length < e → clo LL e (P ++ x :: D).length = (if P.length + x.2.1 = e then cls x.1 else []) ++ clo LL e P.length := by
      intro e h1
      rw [hPl, clo_skip D.length (fun i y e1 e2 e3 => by have := hLLD i y e1 e2 e3; omega), clo_s hLLx, if_neg h5, hcl]
    have Hc' : ∀ e, (P ++ x :: D).length < e → e < (P ++ x :: D).length + z.1.2.2.length → clo LL e (P ++ x :: D).length = [] := by
      intro e h1 h2
      rw [hPl] at h1 h2
      rw [hclo e h1, if_neg (by omega), Hc e (by omega) (by omega)]
      rfl
    have hpre : preT LL (nmL z.1.2.2) (P ++ x :: D).length (some P.length) = (if D.isEmpty then [] else [44]) ++ (if decide (x.1 = 6) then tStr (nmL z.1.2.2) ++ [58] else []) := by
      show (if (P ++ x :: D).length ≤ P.length + 1 then [] else [44]) ++ (match LL[P.length]? with | some x => if x.1 = 6 then tStr (nmL z.1.2.2) ++ [58] else [] | none => []) = _
      rw [hLLx]
      congr 1
      · cases D with
        | nil => rw [if_pos (by rw [List.length_append]; exact Nat.le_refl _)]; rfl
        | cons y D => rw [if_neg (by rw [List.length_append, List.length_cons, List.length_cons]; omega)]; rfl
      · show (if x.1 = 6 then tStr (nmL z.1.2.2) ++ [58] else []) = _
        by_cases c6 : x.1 = 6
        · rw [if_pos c6, if_pos (decide_eq_true c6)]
        · rw [if_neg c6, if_neg (by simpa using c6)]
    have htp : tPs (decide (x.1 = 6)) D.isEmpty (z :: zs) = (if D.isEmpty then [] else [44]) ++ (if decide (x.1 = 6) then tStr (nmL z.1.2.2) ++ [58] else []) ++ z.2 ++ tPs (decide (x.1 = 6)) false zs := rfl
    rw [htp] at hT ⊢
    generalize hpr : (if D.isEmpty then ([] : List Int32) else [44]) ++ (if decide (x.1 = 6) then tStr (nmL z.1.2.2) ++ [58] else []) = pr at hT hpre ⊢
    have hv' : v.toInt = a0 + ((P ++ x :: D).length : Nat) := by rw [hPl]; exact hv
    by_cases hzs : zs = []
    · subst hzs
      have hzl : (zL ([] : List (Kd × List Int32))).length = 0 := rfl
      have hE : (P ++ x :: D).length + z.1.2.2.length = P.length + (1 + F.length) := by rw [hPl]; omega
      have Hl' : clo LL ((P ++ x :: D).length + z.1.2.2.length) (P ++ x :: D).length = cls x.1 ++ Cl := by
        rw [hE, hclo _ (by omega), if_pos (by omega), Hl]
      have ht0 : tPs (decide (x.1 = 6)) false [] = [] := rfl
      rw [ht0, List.append_nil] at hT ⊢
      obtain ⟨m1, v1, e1, e2, e3⟩ := hmw (P ++ x :: D) (zL [] ++ S) (some P.length) (cls x.1 ++ Cl) hP' Hh' Hc' Hl' f T0 m v hv' hm (by rw [hpre]; simp only [List.append_assoc] at hT ⊢; exact hT)
      rw [hpre] at e3
      refine ⟨m1, v1, by rw [e1, hE], ?_, by simp only [List.append_assoc] at e3 ⊢; exact e3⟩
      rw [zL_cons, List.length_append, hzl]
      exact e2
    · have hzl : 0 < (zL zs).length := by
        cases zs with
        | nil => exact absurd rfl hzs
        | cons w zs =>
          have := (hz w (List.mem_cons_of_mem _ List.mem_cons_self)).2.2
          rw [zL_cons, List.length_append]; omega
      have Hl' : clo LL ((P ++ x :: D).length + z.1.2.2.length) (P ++ x :: D).length = [] := by
        rw [hclo _ (by omega), if_neg (by omega), Hc _ (by omega) (by omega)]
        rfl
      have hT2 : T0.length + (pr ++ z.2).length + (tPs (decide (x.1 = 6)) false zs ++ cls x.1 ++ Cl).length ≤ 1200 := by
        simp only [List.length_append] at hT ⊢
        omega
      obtain ⟨m1, v1, e1, e2, e3⟩ := hmw (P ++ x :: D) (zL zs ++ S) (some P.length) [] hP' Hh' Hc' Hl' (f + (zL zs).length) T0 m v hv' hm (by rw [hpre, List.append_nil]; omega)
      rw [hpre, List.append_nil] at e3
      have hDe : (D ++ z.1.2.2).isEmpty = false := by
        cases hd : D ++ z.1.2.2 with
        | nil => have := congrArg List.length hd; rw [List.length_append] at this; have : D.length + z.1.2.2.length = 0 := this; omega
        | cons y ys => rfl
      obtain ⟨m2, v2, i1, i2, i3⟩ := ih (D ++ z.1.2.2) (by rw [hF, List.append_assoc]) (okE_app hD hzE) (fun y hy => hz y (List.mem_cons_of_mem _ hy)) hzs f _ m1 v1 (by rw [e1, hPl, List.length_append]; omega) e3 (by rw [hDe, List.length_append]; omega)
      rw [hDe] at i3
      refine ⟨m2, v2, i1, ?_, by simp only [List.append_assoc] at i3 ⊢; exact i3⟩
      rw [← i2, ← e2, zL_cons, List.length_append]
      congr 1
      omega
/-- the model writes a value -/
theorem node_mw (h : RW LL m0 a0 b) (hy : y2.toInt = a0 + LL.length) {x : Nd} {zs : List (Kd × List Int32)} (hx1 : x.2.1 = 1 + (zL zs).length) (hp : x.1.toInt < 5 → zs = []) (hz : ∀ z ∈ zs, MW LL m0 a0 b y2 z.1.2.2 z.2 ∧ okE z.1.2.2 ∧ 0 < z.1.2.2.length) : MW LL m0 a0 b y2 (x :: zL zs) (tHd x ++ tPs (decide (x.1 = 6)) true zs ++ cls x.1) := by
  have N := nums
  have N5 : (5 : Int32).toInt = 5 := by decide
  intro P S hold Cl hLL Hh Hc Hl f T0 m v hv hm hT
  have hLLx : LL[P.length]? = some x := by
    rw [hLL, List.append_assoc, List.getElem?_append_right (Nat.le_refl _), Nat.sub_self]
    rfl
  have hnm : nmL (x :: zL zs) = x.2.2.2.2 := rfl
  have h24 := h.2.1
  have h21 := h.2.2.1
  have hPl : P.length < LL.length := (List.getElem?_eq_some_iff.mp hLLx).1
  have k1 : (v + 1).toInt = a0 + (P.length + 1 : Nat) := by rw [i32add (by omega) (by omega)]; omega
  rw [hnm] at hT ⊢
  have hlen : (x :: zL zs).length = 1 + (zL zs).length := by rw [List.length_cons, Nat.add_comm]
  rw [hlen] at Hh Hc Hl ⊢
  have hh := Hh P.length (Nat.le_refl _) (by omega)
  by_cases hzs : zs = []
  · subst hzs
    have hz0 : (zL ([] : List (Kd × List Int32))).length = 0 := rfl
    have ht0 : tPs (decide (x.1 = 6)) true [] = [] := rfl
    have hco : clo LL (P.length + 1) (P.length + 1) = cls x.1 ++ Cl := by
      rw [clo_s hLLx, if_pos (show P.length + x.2.1 = P.length + 1 by omega)]
      have : clo LL (P.length + 1) P.length = Cl := Hl
      rw [this]
      rfl
    rw [ht0, List.append_nil] at hT ⊢
    obtain ⟨m1, e1, e2⟩ := l1_step h hm hLLx hv hy (by rw [hh, hco]; simp only [List.append_assoc] at hT ⊢; exact hT) f
    rw [hh, hco] at e2
    exact ⟨m1, v + 1, k1, e1, by simp only [List.append_assoc] at e2 ⊢; exact e2⟩
  · have h5 : ¬ x.1 < 5 := fun e => hzs (hp (by have := i32lt.mp e; omega))
    have hzl : 0 < (zL zs).length := by
      cases zs with
      | nil => exact absurd rfl hzs
      | cons w zs =>
        have := (hz w List.mem_cons_self).2.2
        rw [zL_cons, List.length_append]; omega
    have hco : clo LL (P.length + 1) (P.length + 1) = [] := by
      rw [clo_s hLLx, if_neg h5, if_neg (by omega), Hc _ (by omega) (by omega)]
      rfl
    have hT2 : T0.length + (preT LL x.2.2.2.2 P.length hold ++ tHd x).length + (tPs (decide (x.1 = 6)) true zs ++ cls x.1 ++ Cl).length ≤ 1200 := by
      simp only [List.length_append] at hT ⊢
      omega
    obtain ⟨m1, e1, e2⟩ := l1_step h hm hLLx hv hy (by rw [hh, hco, List.append_nil]; omega) (f + (zL zs).length)
    rw [hh, hco, List.append_nil] at e2
    obtain ⟨m2, v2, i1, i2, i3⟩ := m_parts h hLL hx1 h5 Hc Hl zs [] rfl (fun n y h9 => by cases h9) hz hzs f _ m1 (v + 1) (by rw [k1]; rfl) e2 (by rw [List.length_append]; exact hT2)
    have hem : ([] : List Nd).isEmpty = true := rfl
    rw [hem] at i3
    refine ⟨m2, v2, i1, ?_, by simp only [List.append_assoc] at i3 ⊢; exact i3⟩
    rw [← i2, ← e1]
    congr 1
    omega
end TREEM
