/-! A tree's node by its place; the tree with another value there. -/
/-- spans of those that go on behind place i: m more, g less -/
def adjL (i m g : Nat) : Nat → List Nd → List Nd
  | _, [] => []
  | j, x :: xs => (x.1, (if i < j + x.2.1 then x.2.1 + m - g else x.2.1), x.2.2) :: adjL i m g (j + 1) xs
theorem adjL_len (i m g : Nat) : ∀ (xs : List Nd) (j : Nat), (adjL i m g j xs).length = xs.length := by
  intro xs
  induction xs with
  | nil => intro j; rfl
  | cons x xs ih => intro j; unfold adjL; rw [List.length_cons, List.length_cons, ih]
theorem adjL_app (i m g : Nat) : ∀ (xs ys : List Nd) (j : Nat), adjL i m g j (xs ++ ys) = adjL i m g j xs ++ adjL i m g (j + xs.length) ys := by
  intro xs
  induction xs with
  | nil => intro ys j; rfl
  | cons x xs ih =>
    intro ys j
    show _ :: adjL i m g (j + 1) (xs ++ ys) = _ :: (adjL i m g (j + 1) xs ++ adjL i m g (j + (xs.length + 1)) ys)
    rw [ih, show j + 1 + xs.length = j + (xs.length + 1) by omega]
theorem adjL_sh (i m g o : Nat) : ∀ (xs : List Nd) (j : Nat), adjL (i + o) m g (j + o) xs = adjL i m g j xs := by
  intro xs
  induction xs with
  | nil => intro j; rfl
  | cons x xs ih =>
    intro j
    unfold adjL
    rw [show j + o + 1 = j + 1 + o by omega, ih]
    by_cases c : i < j + x.2.1
    · rw [if_pos c, if_pos (by omega)]
    · rw [if_neg c, if_neg (by omega)]
theorem adjL_id (i m g : Nat) : ∀ (xs : List Nd) (j : Nat), (∀ n y, xs[n]? = some y → j + n + y.2.1 ≤ i) → adjL i m g j xs = xs := by
  intro xs
  induction xs with
  | nil => intro j _; rfl
  | cons x xs ih =>
    intro j h
    have h0 := h 0 x rfl
    unfold adjL
    rw [if_neg (by omega), ih (j + 1) (fun n y hy => by
      have := h (n + 1) y (by rw [List.getElem?_cons_succ]; exact hy)
      omega)]
theorem kLen : ∀ ks : List Kd, (∀ k ∈ ks, k.1.length = k.2.2.length) → (kN ks).length = (kL ks).flatten.length := by
  intro ks
  induction ks with
  | nil => intro _; rfl
  | cons k ks ih =>
    intro h
    rw [kN_cons, kL_cons, List.flatten_cons, List.length_append, List.length_append, h k List.mem_cons_self, ih (fun y hy => h y (List.mem_cons_of_mem _ hy))]
theorem kN_at : ∀ (ks : List Kd) (i x : Nat), (kN ks)[i]? = some x → ∃ pre k post j, ks = pre ++ k :: post ∧ i = (kN pre).length + j ∧ k.1[j]? = some x := by
  intro ks
  induction ks with
  | nil => intro i x h; cases h
  | cons k ks ih =>
    intro i x h
    rw [kN_cons] at h
    by_cases c : i < k.1.length
    · rw [List.getElem?_append_left c] at h
      exact ⟨[], k, ks, i, rfl, by show i = 0 + i; omega, h⟩
    · rw [List.getElem?_append_right (by omega)] at h
      obtain ⟨pre, k1, post, j, h1, h2, h3⟩ := ih _ _ h
      refine ⟨k :: pre, k1, post, j, by rw [h1]; rfl, ?_, h3⟩
      rw [kN_cons, List.length_append]; omega
theorem nmL_app {X Y : List Nd} (h : 0 < X.length) : nmL (X ++ Y) = nmL X := by
  cases X with
  | nil => simp at h
  | cons x xs => rfl
theorem nmL_adj {i m g j : Nat} {X Y : List Nd} (h : 0 < X.length) : nmL (adjL i m g j X ++ Y) = nmL X := by
  cases X with
  | nil => simp at h
  | cons x xs => rfl
section FOC
variable {Zd : Nat → Nat} {K : KE} {s s1 : CS}
theorem Tw.len : ∀ (d : Nat) (N : List Nat) (a : Nat) (nx : Option Nat) (L : List Nd), Tw Zd K s d N a nx L → N.length = L.length := by
  intro d
  induction d with
  | zero => intro N a nx L h; exact h.elim
  | succ d ih =>
    rintro N a nx L ⟨o, num, cs, ns, fst, ks, h1, h2, h3, h4, h5, h6⟩
    rw [h5, h6, List.length_cons, List.length_cons, kLen ks (fun k hk => ?_)]
    obtain ⟨nx9, h9⟩ := Cs.all ks fst none h2 k hk
    exact ih _ _ _ _ h9
theorem Tw.up : ∀ (d : Nat) (N : List Nat) (a : Nat) (nx : Option Nat) (L : List Nd), Tw Zd K s d N a nx L → Tw Zd K s (d + 1) N a nx L := by
  intro d
  induction d with
  | zero => intro N a nx L h; exact h.elim
  | succ d ih =>
    rintro N a nx L ⟨o, num, cs, ns, fst, ks, h1, h2, h3, h4, h5, h6⟩
    exact ⟨o, num, cs, ns, fst, ks, h1, Cs.mono ks fst none h2 (fun k _ nx9 h9 => ih _ _ _ _ h9), ⟨h3.1, fun _ => Nat.succ_pos _⟩, h4, h5, h6⟩
theorem Tw.ups {d : Nat} {N : List Nat} {a : Nat} {nx : Option Nat} {L : List Nd} (h : Tw Zd K s d N a nx L) : ∀ e, d ≤ e → Tw Zd K s e N a nx L := by
  intro e he
  obtain ⟨n, rfl⟩ : ∃ n, e = d + n := ⟨e - d, by omega⟩
  clear he
  induction n with
  | zero => exact h
  | succ n ih => exact Tw.up _ _ _ _ _ ih
theorem Cs.ups {d e : Nat} {ks : List Kd} {r m : Option Nat} (h : Cs (Tw Zd K s d) r ks m) (he : d ≤ e) : Cs (Tw Zd K s e) r ks m := Cs.mono ks r m h (fun _ _ _ h9 => h9.ups e he)
theorem Tw.ok {d : Nat} {N : List Nat} {a : Nat} {nx : Option Nat} {L : List Nd} (h : Tw Zd K s d N a nx L) : okL L := tree_ok d a L (Tw.tree d N a nx L h)
theorem Tw.pos {d : Nat} {N : List Nat} {a : Nat} {nx : Option Nat} {L : List Nd} (h : Tw Zd K s d N a nx L) : 0 < L.length := by
  obtain ⟨⟨x, xs, e, -⟩, -⟩ := h.ok
  rw [e]; exact Nat.succ_pos _
theorem Tw.hd {d : Nat} {N : List Nat} {a : Nat} {nx : Option Nat} {L : List Nd} (h : Tw Zd K s d N a nx L) : N[0]? = some a := by
  cases d with
  | zero => exact h.elim
  | succ d =>
    obtain ⟨o, num, cs, ns, fst, ks, h1, h2, h3, h4, h5, h6⟩ := h
    rw [h5]; rfl
theorem Cs.lens {d : Nat} {ks : List Kd} {r e : Option Nat} (h : Cs (Tw Zd K s d) r ks e) : (kN ks).length = (kL ks).flatten.length := kLen ks (fun k hk => by
  obtain ⟨nx9, h9⟩ := Cs.all ks r e h k hk
  exact Tw.len _ _ _ _ _ h9)
theorem Cs.oks {d : Nat} {ks : List Kd} {r e : Option Nat} (h : Cs (Tw Zd K s d) r ks e) : ∀ X ∈ kL ks, okL X := by
  intro X hX
  obtain ⟨k, hk, rfl⟩ := List.mem_map.mp hX
  obtain ⟨nx9, h9⟩ := Cs.all ks r e h k hk
  exact h9.ok
/-- a part in the middle of a chain -/
theorem Cs.mid {d : Nat} {pre post : List Kd} {k : Kd} {r e : Option Nat} (h : Cs (Tw Zd K s d) r (pre ++ k :: post) e) : ∃ nx, Cs (Tw Zd K s d) r pre (some k.2.1) ∧ Tw Zd K s d k.1 k.2.1 nx k.2.2 ∧ Cs (Tw Zd K s d) nx post e := by
  obtain ⟨m, h1, h2, nx, h3, h4⟩ := (Cs.app pre (k :: post) r e).mp h
  subst h2
  exact ⟨nx, h1, h3, h4⟩
theorem Cs.mk {d : Nat} {pre post : List Kd} {k : Kd} {r e nx : Option Nat} (h1 : Cs (Tw Zd K s d) r pre (some k.2.1)) (h2 : Tw Zd K s d k.1 k.2.1 nx k.2.2) (h3 : Cs (Tw Zd K s d) nx post e) : Cs (Tw Zd K s d) r (pre ++ k :: post) e := (Cs.app pre (k :: post) r e).mpr ⟨some k.2.1, h1, rfl, nx, h2, h3⟩
theorem Tw.foc (hk : wk K) : ∀ (d : Nat) (N : List Nat) (a : Nat) (nx : Option Nat) (L : List Nd), Tw Zd K s d N a nx L → ∀ (i x : Nat), N[i]? = some x → ∃ (e : Nat) (N1 : List Nat) (nx1 : Option Nat) (L1 A B : List Nd) (M M1 : List Nat), Tw Zd K s e N1 x nx1 L1 ∧ e ≤ d ∧ L = A ++ L1 ++ B ∧ A.length = i ∧ N = M ++ N1 ++ M1 ∧ M.length = i ∧ ∀ (s1 : CS) (W N2 : List Nat) (L2 : List Nd), vch s s1 W → (∀ y ∈ M ++ M1, y ∉ W) → Tw Zd K s1 (e + 4) N2 x nx1 L2 → nmL L2 = nmL L1 → Tw Zd K s1 (d + 4) (M ++ N2 ++ M1) a nx (adjL i L2.length L1.length 0 A ++ L2 ++ B) := by
  intro d
  induction d with
  | zero => intro N a nx L h; exact h.elim
  | succ d ih =>
    intro N a nx L h i x hi
    have h0 := h
    obtain ⟨o, num, cs, ns, fst, ks, h1, h2, h3, h4, h5, h6⟩ := h
    cases i with
    | zero =>
      rw [h5] at hi
      cases hi
      refine ⟨d + 1, N, nx, L, [], [], [], [], h0, Nat.le_refl _, by simp, rfl, by simp, rfl, ?_⟩
      intro s1 W N2 L2 hv hW hT hn
      simpa [adjL] using hT
    | succ i =>
      rw [h5, List.getElem?_cons_succ] at hi
      obtain ⟨pre, k, post, j, e1, e2, e3⟩ := kN_at ks i x hi
      subst e1
      obtain ⟨nxk, c1, c2, c3⟩ := h2.mid
      obtain ⟨e, N1, nx1, L1, A0, B0, M0, M10, g1, g2, g3, g4, g5, g6, g7⟩ := ih _ _ _ _ c2 j x e3
      have hlp := c1.lens
      have hkl : kL (pre ++ k :: post) = kL pre ++ k.2.2 :: kL post := by rw [kL_app, kL_cons]
      have hkn : kN (pre ++ k :: post) = kN pre ++ (k.1 ++ kN post) := by rw [kN_app, kN_cons]
      have hfl : (kL (pre ++ k :: post)).flatten = (kL pre).flatten ++ (k.2.2 ++ (kL post).flatten) := by rw [hkl, List.flatten_append, List.flatten_cons]
      refine ⟨e, N1, nx1, L1, (o, 1 + (kL (pre ++ k :: post)).flatten.length, num, cs, ns) :: ((kL pre).flatten ++ A0), B0 ++ (kL post).flatten, a :: (kN pre ++ M0), M10 ++ kN post, g1, by omega, ?_, ?_, ?_, ?_, ?_⟩
      · rw [h6, hfl, g3]; simp
      · rw [List.length_cons, List.length_append, g4]; omega
      · rw [h5, hkn, g5]; simp
      · rw [List.length_cons, List.length_append, g6]; omega
      · intro s1 W N2 L2 hv hW hT hn
        have hW1 : a ∉ W := hW a (by simp)
        have t1 := g7 s1 W N2 L2 hv (fun y hy => hW y (by
          rcases List.mem_append.mp hy with h9 | h9
          · simp [h9]
          · simp [h9])) hT hn
        have n1 := h1.mono (hv.sm (K := K) (N := [a]) (fun y hy hyW => by rw [List.mem_singleton] at hy; rw [hy] at hyW; exact hW1 hyW)) (List.mem_singleton.mpr rfl)
        have p1 : Cs (Tw Zd K s1 (d + 4)) fst pre (some k.2.1) := (Cs.keep hv c1 (fun y hy => hW y (by simp [hy]))).ups (by omega)
        have p3 : Cs (Tw Zd K s1 (d + 4)) nxk post none := (Cs.keep hv c3 (fun y hy => hW y (by simp [hy]))).ups (by omega)
        have hL2 := hT.pos
        have hL1 := g1.pos
        have hnmk : nmL (adjL j L2.length L1.length 0 A0 ++ L2 ++ B0) = nmL k.2.2 := by
          rw [g3, List.append_assoc, List.append_assoc]
          cases A0 with
          | nil =>
            show nmL (L2 ++ B0) = nmL (L1 ++ B0)
            rw [nmL_app hL2, nmL_app hL1, hn]
          | cons y ys => rfl
        have hkl2 : kL (pre ++ (M0 ++ N2 ++ M10, k.2.1, adjL j L2.length L1.length 0 A0 ++ L2 ++ B0) :: post) = kL pre ++ (adjL j L2.length L1.length 0 A0 ++ L2 ++ B0) :: kL post := by rw [kL_app, kL_cons]
        have hl3 : k.2.2.length = A0.length + L1.length + B0.length := by rw [g3, List.length_append, List.length_append]
        refine ⟨o, num, cs, ns, fst, pre ++ (M0 ++ N2 ++ M10, k.2.1, adjL j L2.length L1.length 0 A0 ++ L2 ++ B0) :: post, n1, Cs.mk p1 t1 p3, ⟨?_, fun _ => by omega⟩, ⟨?_, h4.2.1, h4.2.2.1, h4.2.2.2.1, ?_⟩, ?_, ?_⟩
        · have := h3.1
          rw [List.length_append, List.length_cons] at this ⊢
          exact this
        · intro h9
          have := h4.1 h9
          rw [hkl] at this
          simp at this
        · intro h9
          have := h4.2.2.2.2 h9
          rw [hkl, List.map_append, List.map_cons] at this
          rw [hkl2, List.map_append, List.map_cons, hnmk]
          exact this
        · rw [kN_app, kN_cons]; simp
        · rw [hkl2, List.flatten_append, List.flatten_cons]
          symm
          show _ = (o, (if i + 1 < 0 + (1 + (kL (pre ++ k :: post)).flatten.length) then 1 + (kL (pre ++ k :: post)).flatten.length + L2.length - L1.length else 1 + (kL (pre ++ k :: post)).flatten.length), num, cs, ns) :: adjL (i + 1) L2.length L1.length 1 ((kL pre).flatten ++ A0) ++ L2 ++ (B0 ++ (kL post).flatten)
          have hfll : (kL (pre ++ k :: post)).flatten.length = (kL pre).flatten.length + (k.2.2.length + (kL post).flatten.length) := by rw [hfl, List.length_append, List.length_append]
          have hokE : okE (kL pre).flatten := okE_flat (kL pre) (fun X hX => by
            obtain ⟨y, hy, rfl⟩ := List.mem_map.mp hX
            obtain ⟨nx9, h9⟩ := Cs.all pre fst _ c1 y hy
            exact tree_end hk d _ _ (Tw.tree _ _ _ _ _ h9))
          rw [if_pos (by omega), adjL_app, adjL_id (i + 1) L2.length L1.length (kL pre).flatten 1 (fun n y hy => by have := hokE n y hy; omega)]
          have esh : adjL (i + 1) L2.length L1.length (1 + (kL pre).flatten.length) A0 = adjL j L2.length L1.length 0 A0 := by
            have e9 := adjL_sh j L2.length L1.length (1 + (kL pre).flatten.length) A0 0
            rw [Nat.zero_add] at e9
            rw [show i + 1 = j + (1 + (kL pre).flatten.length) by omega]
            exact e9
          rw [esh]
          have hlen : 1 + ((kL pre).flatten ++ (adjL j L2.length L1.length 0 A0 ++ L2 ++ B0 ++ (kL post).flatten)).length = 1 + (kL (pre ++ k :: post)).flatten.length + L2.length - L1.length := by
            rw [hfll, List.length_append, List.length_append, List.length_append, List.length_append, adjL_len]
            omega
          rw [hlen]
          simp
end FOC
