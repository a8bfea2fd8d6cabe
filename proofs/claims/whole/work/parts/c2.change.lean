/-! A holder's parts changed: the tree, and the model's row. -/
theorem adjL_k (i m g k : Nat) : ∀ (xs : List Nd) (j : Nat), adjL i (m + k) (g + k) j xs = adjL i m g j xs := by
  intro xs
  induction xs with
  | nil => intro j; rfl
  | cons x xs ih =>
    intro j
    unfold adjL
    rw [ih, show x.2.1 + (m + k) - (g + k) = x.2.1 + m - g by omega]
theorem splL_eq {A B F1 G F2 P : List Nd} {o num : Int32} {cs ns : List Int32} {h : Nat} (hA : A.length = h) : splL (A ++ ((o, 1 + (F1 ++ (G ++ F2)).length, num, cs, ns) :: (F1 ++ (G ++ F2))) ++ B) h (h + 1 + F1.length) P.length G.length P = adjL h (1 + (F1 ++ (P ++ F2)).length) (1 + (F1 ++ (G ++ F2)).length) 0 A ++ ((o, 1 + (F1 ++ (P ++ F2)).length, num, cs, ns) :: (F1 ++ (P ++ F2))) ++ B := by
  subst hA
  have e1 : A ++ ((o, 1 + (F1 ++ (G ++ F2)).length, num, cs, ns) :: (F1 ++ (G ++ F2))) ++ B = (A ++ [(o, 1 + (F1 ++ (G ++ F2)).length, num, cs, ns)]) ++ (F1 ++ (G ++ (F2 ++ B))) := by simp
  have l1 : (F1 ++ (G ++ F2)).length = F1.length + (G.length + F2.length) := by rw [List.length_append, List.length_append]
  have l2 : (F1 ++ (P ++ F2)).length = F1.length + (P.length + F2.length) := by rw [List.length_append, List.length_append]
  have hk : adjL A.length (1 + (F1 ++ (P ++ F2)).length) (1 + (F1 ++ (G ++ F2)).length) 0 A = adjL A.length P.length G.length 0 A := by
    rw [l1, l2, show 1 + (F1.length + (P.length + F2.length)) = P.length + (1 + F1.length + F2.length) by omega, show 1 + (F1.length + (G.length + F2.length)) = G.length + (1 + F1.length + F2.length) by omega]
    exact adjL_k _ _ _ _ _ _
  rw [hk]
  unfold splL
  have t1 : ((A ++ [(o, 1 + (F1 ++ (G ++ F2)).length, num, cs, ns)]) ++ (F1 ++ (G ++ (F2 ++ B)))).take (A.length + 1) = A ++ [(o, 1 + (F1 ++ (G ++ F2)).length, num, cs, ns)] := List.take_left' (by rw [List.length_append]; rfl)
  have t2 : ((A ++ [(o, 1 + (F1 ++ (G ++ F2)).length, num, cs, ns)]) ++ (F1 ++ (G ++ (F2 ++ B)))).drop (A.length + 1) = F1 ++ (G ++ (F2 ++ B)) := List.drop_left' (by rw [List.length_append]; rfl)
  rw [e1, t1, t2, adj_snoc]
  have hsp : (if A.length < A.length + (1 + (F1 ++ (G ++ F2)).length) then 1 + (F1 ++ (G ++ F2)).length + P.length - G.length else 1 + (F1 ++ (G ++ F2)).length) = 1 + (F1 ++ (P ++ F2)).length := by
    rw [if_pos (by omega), l1, l2]; omega
  dsimp only
  rw [hsp]
  have e2 : adjL A.length P.length G.length 0 A ++ [(o, 1 + (F1 ++ (P ++ F2)).length, num, cs, ns)] ++ (F1 ++ (G ++ (F2 ++ B))) = (adjL A.length P.length G.length 0 A ++ [(o, 1 + (F1 ++ (P ++ F2)).length, num, cs, ns)] ++ F1) ++ (G ++ (F2 ++ B)) := by simp
  have e3 : (adjL A.length P.length G.length 0 A ++ [(o, 1 + (F1 ++ (P ++ F2)).length, num, cs, ns)] ++ F1) ++ (G ++ (F2 ++ B)) = (adjL A.length P.length G.length 0 A ++ [(o, 1 + (F1 ++ (P ++ F2)).length, num, cs, ns)] ++ F1 ++ G) ++ (F2 ++ B) := by simp
  have la := adjL_len A.length P.length G.length A 0
  rw [e2, List.take_left' (by rw [List.length_append, List.length_append, la]; rfl), e3, List.drop_left' (by rw [List.length_append, List.length_append, List.length_append, la]; rfl)]
  simp
/-- values lie within each other, or apart -/
def nst (L : List Nd) : Prop := ∀ (i j : Nat) (x y : Nd), L[i]? = some x → L[j]? = some y → i ≤ j → j < i + x.2.1 → j + y.2.1 ≤ i + x.2.1
theorem nst_flat : ∀ xs : List (List Nd), (∀ L ∈ xs, okE L) → (∀ L ∈ xs, nst L) → nst xs.flatten := by
  intro xs
  induction xs with
  | nil => intro _ _ i j x y h; cases h
  | cons L xs ih =>
    intro hE hN i j x y hx hy hij hj
    rw [List.flatten_cons] at hx hy
    have hEL := hE L List.mem_cons_self
    by_cases c : j < L.length
    · rw [List.getElem?_append_left c] at hy
      rw [List.getElem?_append_left (by omega)] at hx
      exact hN L List.mem_cons_self i j x y hx hy hij hj
    · rw [List.getElem?_append_right (by omega)] at hy
      by_cases c2 : i < L.length
      · rw [List.getElem?_append_left c2] at hx
        have := hEL i x hx
        omega
      · rw [List.getElem?_append_right (by omega)] at hx
        have := ih (fun M hM => hE M (List.mem_cons_of_mem _ hM)) (fun M hM => hN M (List.mem_cons_of_mem _ hM)) (i - L.length) (j - L.length) x y hx hy (by omega) (by omega)
        omega
theorem Tw_nst {Zd : Nat → Nat} {K : KE} {s : CS} (hk : wk K) : ∀ (d : Nat) (N : List Nat) (a : Nat) (nx : Option Nat) (L : List Nd), Tw Zd K s d N a nx L → nst L := by
  intro d
  induction d with
  | zero => intro N a nx L h; exact h.elim
  | succ d ih =>
    rintro N a nx L ⟨o, num, cs, ns, fst, ks, h1, h2, h3, h4, h5, h6⟩
    have hEs : ∀ X ∈ kL ks, okE X := by
      intro X hX
      obtain ⟨y, hy, rfl⟩ := List.mem_map.mp hX
      obtain ⟨nx9, h9⟩ := Cs.all ks fst none h2 y hy
      exact tree_end hk d _ _ (Tw.tree _ _ _ _ _ h9)
    have hNs : ∀ X ∈ kL ks, nst X := by
      intro X hX
      obtain ⟨y, hy, rfl⟩ := List.mem_map.mp hX
      obtain ⟨nx9, h9⟩ := Cs.all ks fst none h2 y hy
      exact ih _ _ _ _ h9
    have hE := okE_flat _ hEs
    have hN := nst_flat _ hEs hNs
    subst h6
    intro i j x y hx hy hij hj
    cases j with
    | zero =>
      have : i = 0 := by omega
      subst this
      rw [hx] at hy
      cases hy
      exact Nat.le_refl _
    | succ j =>
      rw [List.getElem?_cons_succ] at hy
      cases i with
      | zero =>
        cases hx
        have := hE j y hy
        show j + 1 + y.2.1 ≤ 0 + (1 + (kL ks).flatten.length)
        omega
      | succ i =>
        rw [List.getElem?_cons_succ] at hx
        have := hN i j x y hx hy (by omega) (by omega)
        omega
/-- the model's row, with the holder's parts changed -/
theorem row_done {ms : MS} {L A B F1 G F2 P : List Nd} {o num : Int32} {cs ns : List Int32} {h : Nat} (hL : L = A ++ ((o, 1 + (F1 ++ (G ++ F2)).length, num, cs, ns) :: (F1 ++ (G ++ F2))) ++ B) (hA : A.length = h) (hr : rowIs ms 1980 L) (hl : L.length ≤ 24) (hok : okL L) (hn : nst L) (hP : rowF ms 2040 P) (hPl : P.length ≤ 24) (hPo : ∀ x ∈ P, okN 24 x) {cI gI hI w : Int32} (hw : (w = 0 ∧ P = []) ∨ (w = 1 ∧ okL P)) (hc : cI.toInt = (1980 + (h + 1 + F1.length) : Nat)) (hgI : gI.toInt = G.length) (hh : hI.toInt = (1980 + h : Nat)) :
    ∃ ms1, m_splice cI gI hI w ms = some ms1 ∧ rowIs ms1 1980 (adjL h (1 + (F1 ++ (P ++ F2)).length) (1 + (F1 ++ (G ++ F2)).length) 0 A ++ ((o, 1 + (F1 ++ (P ++ F2)).length, num, cs, ns) :: (F1 ++ (P ++ F2))) ++ B) ∧ kW 1980 ms ms1 := by
  have l1 : (F1 ++ (G ++ F2)).length = F1.length + (G.length + F2.length) := by rw [List.length_append, List.length_append]
  have hll : L.length = A.length + (1 + (F1.length + (G.length + F2.length))) + B.length := by rw [hL, List.length_append, List.length_append, List.length_cons, l1]; omega
  have hroot : L[h]? = some (o, 1 + (F1 ++ (G ++ F2)).length, num, cs, ns) := by
    rw [hL, List.append_assoc, List.getElem?_append_right (by omega), show h - A.length = 0 by omega]
    rfl
  obtain ⟨ms1, g1, g2, g3⟩ := splice_ok hr hl hok hP hPl hPo hw hc hgI hh (by omega) (by omega) (fun i x hx h9 h8 => by
    have h7 : h + (1 + (F1 ++ (G ++ F2)).length) ≤ i + x.2.1 := hn i h x _ hx hroot h8 h9
    omega)
  refine ⟨ms1, g1, ?_, g3⟩
  rw [hL, splL_eq hA] at g2
  exact g2
theorem nodup_mid {M N1 M1 N2 V : List Nat} (h : (M ++ N1 ++ M1).Nodup) (h2 : N2.Nodup) (hs : ∀ x ∈ N2, x ∈ N1 ∨ x ∈ V) (hV : ∀ x ∈ V, x ∉ M ++ N1 ++ M1) : (M ++ N2 ++ M1).Nodup := by
  obtain ⟨a1, a2, a3⟩ := List.nodup_append.mp h
  obtain ⟨b1, b2, b3⟩ := List.nodup_append.mp a1
  have hM : ∀ x ∈ M, x ∉ N2 := by
    intro x hx hx2
    rcases hs x hx2 with h9 | h9
    · exact b3 x hx x h9 rfl
    · exact hV x h9 (List.mem_append_left _ (List.mem_append_left _ hx))
  have hM1 : ∀ x ∈ M1, x ∉ N2 := by
    intro x hx hx2
    rcases hs x hx2 with h9 | h9
    · exact a3 x (List.mem_append_right _ h9) x hx rfl
    · exact hV x h9 (List.mem_append_right _ hx)
  refine List.nodup_append.mpr ⟨List.nodup_append.mpr ⟨b1, h2, fun x hx y hy e => hM x hx (by rw [e]; exact hy)⟩, a2, fun x hx y hy e => ?_⟩
  rcases List.mem_append.mp hx with h9 | h9
  · exact a3 x (List.mem_append_left _ h9) y hy e
  · exact hM1 y hy (by rw [← e]; exact h9)
/-- a tree with another holder -/
theorem reb {Zd : Nat → Nat} {K : KE} {s : CS} (hk : wk K) {D : Nat} {N : List Nat} {a : Nat} {nx : Option Nat} {L : List Nd} (hT : Tw Zd K s D N a nx L) (hnd : N.Nodup) {h p : Nat} (hp : N[h]? = some p) : ∃ (d1 : Nat) (M M1 : List Nat) (A B : List Nd) (o num : Int32) (cs ns : List Int32) (fst nx1 : Option Nat) (ks : List Kd), Nv Zd K s p o num cs ns fst nx1 ∧ Cs (Tw Zd K s d1) fst ks none ∧ ks.length ≤ 64 ∧ (5 ≤ o.toInt → 0 < d1) ∧ okV o num cs ns (kL ks) ∧ (N = M ++ (p :: kN ks) ++ M1 ∧ M.length = h) ∧ (L = A ++ ((o, 1 + (kL ks).flatten.length, num, cs, ns) :: (kL ks).flatten) ++ B ∧ A.length = h) ∧ d1 < D ∧ (p :: kN ks).Nodup ∧
    ∀ (s1 : CS) (V W : List Nat) (fst1 : Option Nat) (ks1 : List Kd), vch s s1 W → (∀ x ∈ W, x ∈ p :: kN ks ∨ x ∈ V) → (∀ x ∈ V, x ∉ N) → Nv Zd K s1 p o num cs ns fst1 nx1 → Cs (Tw Zd K s1 (d1 + 4)) fst1 ks1 none → ks1.length ≤ 64 → (o.toInt < 5 → kL ks1 = []) → (o = 6 → ((kL ks1).map nmL).Nodup) → (p :: kN ks1).Nodup → (∀ x ∈ kN ks1, x ∈ kN ks ∨ x ∈ V) → ∃ N2, Tw Zd K s1 (D + 4) N2 a nx (adjL h (1 + (kL ks1).flatten.length) (1 + (kL ks).flatten.length) 0 A ++ ((o, 1 + (kL ks1).flatten.length, num, cs, ns) :: (kL ks1).flatten) ++ B) ∧ N2.Nodup ∧ ∀ x ∈ N2, x ∈ N ∨ x ∈ V := by
  obtain ⟨e, N1, nx1, L1, A, B, M, M1, g1, g2, g3, g4, g5, g6, g7⟩ := Tw.foc hk D N a nx L hT h p hp
  cases e with
  | zero => exact g1.elim
  | succ d1 =>
  obtain ⟨o, num, cs, ns, fst, ks, h1, h2, h3, h4, h5, h6⟩ := g1
  have hnd1 : (p :: kN ks).Nodup := by
    rw [g5, h5] at hnd
    exact (List.nodup_append.mp (List.nodup_append.mp hnd).1).2.1
  refine ⟨d1, M, M1, A, B, o, num, cs, ns, fst, nx1, ks, h1, h2, h3.1, h3.2, h4, ⟨by rw [g5, h5], g6⟩, ⟨by rw [g3, h6], g4⟩, by omega, hnd1, ?_⟩
  intro s1 V W fst1 ks1 hv hW hV hN1 hC1 hl1 ho5 ho6 hndp hsub
  have hT1 : Tw Zd K s1 (d1 + 1 + 4) (p :: kN ks1) p nx1 ((o, 1 + (kL ks1).flatten.length, num, cs, ns) :: (kL ks1).flatten) := ⟨o, num, cs, ns, fst1, ks1, hN1, hC1, ⟨hl1, fun _ => by omega⟩, ⟨ho5, h4.2.1, h4.2.2.1, h4.2.2.2.1, ho6⟩, rfl, rfl⟩
  have hNn := hnd
  rw [g5] at hNn
  have hr := g7 s1 W (p :: kN ks1) _ hv (fun y hy hyW => by
    rcases hW y hyW with h9 | h9
    · rw [h5] at hNn
      obtain ⟨a1, a2, a3⟩ := List.nodup_append.mp hNn
      obtain ⟨b1, b2, b3⟩ := List.nodup_append.mp a1
      rcases List.mem_append.mp hy with h8 | h8
      · exact b3 y h8 y h9 rfl
      · exact a3 y (List.mem_append_right _ h9) y h8 rfl
    · refine hV y h9 ?_
      rw [g5]
      rcases List.mem_append.mp hy with h8 | h8
      · exact List.mem_append_left _ (List.mem_append_left _ h8)
      · exact List.mem_append_right _ h8) hT1 (by rw [h6]; rfl)
  have hsub2 : ∀ x ∈ p :: kN ks1, x ∈ N1 ∨ x ∈ V := by
    intro x hx
    rw [h5]
    rcases List.mem_cons.mp hx with h9 | h9
    · left; rw [h9]; exact List.mem_cons_self
    · rcases hsub x h9 with h8 | h8
      · left; exact List.mem_cons_of_mem _ h8
      · right; exact h8
  refine ⟨M ++ (p :: kN ks1) ++ M1, ?_, nodup_mid hNn hndp hsub2 (fun x hx => by rw [← g5]; exact hV x hx), fun x hx => ?_⟩
  · have l1 : ((o, 1 + (kL ks1).flatten.length, num, cs, ns) :: (kL ks1).flatten : List Nd).length = 1 + (kL ks1).flatten.length := by rw [List.length_cons]; omega
    have l2 : L1.length = 1 + (kL ks).flatten.length := by rw [h6, List.length_cons]; omega
    rw [l1, l2] at hr
    exact hr
  · rw [g5]
    rcases List.mem_append.mp hx with h9 | h9
    · rcases List.mem_append.mp h9 with h8 | h8
      · left; exact List.mem_append_left _ (List.mem_append_left _ h8)
      · rcases hsub2 x h8 with h7 | h7
        · left; exact List.mem_append_left _ (List.mem_append_right _ h7)
        · right; exact h7
    · left; exact List.mem_append_right _ h9
