/-! How deep, how large: class and model. -/
/-- how many of the first n go on behind place j -/
def anc (L : List Nd) (j : Nat) : Nat → Nat
  | 0 => 0
  | n + 1 => (match L[n]? with
    | some x => if j < n + x.2.1 then 1 else 0
    | none => 0) + anc L j n
theorem anc_s {L : List Nd} {j n : Nat} {x : Nd} (h : L[n]? = some x) : anc L j (n + 1) = (if j < n + x.2.1 then 1 else 0) + anc L j n := by
  show (match L[n]? with | some x => if j < n + x.2.1 then 1 else 0 | none => 0) + anc L j n = _
  rw [h]
/-- at most k deep -/
def dle (k : Nat) (L : List Nd) : Prop := ∀ j x, L[j]? = some x → 5 ≤ x.1.toInt → 1 + anc L j j ≤ k
theorem anc_pre {P S : List Nd} (hP : okE P) {j : Nat} (hj : P.length ≤ j) : ∀ n, n ≤ P.length → anc (P ++ S) j n = 0 := by
  intro n
  induction n with
  | zero => intro _; rfl
  | succ n ih =>
    intro hn
    have hx : P[n]? = some P[n] := List.getElem?_eq_getElem (by omega)
    have h1 := hP n _ hx
    rw [anc_s (x := P[n]) (by rw [List.getElem?_append_left (by omega)]; exact hx), if_neg (by omega), ih (by omega)]
theorem anc_mid {P X S : List Nd} (hP : okE P) {j : Nat} : ∀ n, n ≤ X.length → anc (P ++ (X ++ S)) (P.length + j) (P.length + n) = anc X j n := by
  intro n
  induction n with
  | zero => intro _; exact anc_pre hP (by omega) _ (Nat.le_refl _)
  | succ n ih =>
    intro hn
    have hx : X[n]? = some X[n] := List.getElem?_eq_getElem (by omega)
    have hx2 : (P ++ (X ++ S))[P.length + n]? = some X[n] := by rw [List.getElem?_append_right (by omega), Nat.add_sub_cancel_left, List.getElem?_append_left (by omega)]; exact hx
    rw [← Nat.add_assoc, anc_s hx2, anc_s hx, ih (by omega)]
    by_cases c : j < n + X[n].2.1
    · rw [if_pos c, if_pos (by omega)]
    · rw [if_neg c, if_neg (by omega)]
theorem anc_root {x : Nd} {F : List Nd} {j : Nat} (hx : x.2.1 = 1 + F.length) (hj : j < F.length) : ∀ n, n ≤ F.length → anc (x :: F) (j + 1) (n + 1) = 1 + anc F j n := by
  intro n
  induction n with
  | zero =>
    intro _
    rw [anc_s (x := x) rfl, if_pos (by omega)]
    rfl
  | succ n ih =>
    intro hn
    have hy : F[n]? = some F[n] := List.getElem?_eq_getElem (by omega)
    rw [anc_s (x := F[n]) (by rw [List.getElem?_cons_succ]; exact hy), anc_s hy, ih (by omega)]
    by_cases c : j < n + F[n].2.1
    · rw [if_pos c, if_pos (by omega)]
    · rw [if_neg c, if_neg (by omega)]; omega
theorem flat_at : ∀ (Ls : List (List Nd)) (j : Nat) (x : Nd), Ls.flatten[j]? = some x → ∃ pre X post i, Ls = pre ++ X :: post ∧ j = pre.flatten.length + i ∧ X[i]? = some x := by
  intro Ls
  induction Ls with
  | nil => intro j x h; cases h
  | cons X Ls ih =>
    intro j x h
    rw [List.flatten_cons] at h
    by_cases c : j < X.length
    · rw [List.getElem?_append_left c] at h
      exact ⟨[], X, Ls, j, rfl, by simp, h⟩
    · rw [List.getElem?_append_right (by omega)] at h
      obtain ⟨pre, Y, post, i, h1, h2, h3⟩ := ih _ _ h
      refine ⟨X :: pre, Y, post, i, by rw [h1]; rfl, ?_, h3⟩
      rw [List.flatten_cons, List.length_append]; omega
theorem dle_node {k : Nat} {x : Nd} {Ls : List (List Nd)} (hx : x.2.1 = 1 + Ls.flatten.length) (hE : ∀ X ∈ Ls, okE X) : dle (k + 1) (x :: Ls.flatten) ↔ ∀ X ∈ Ls, dle k X := by
  constructor
  · intro h X hX j y hy h5
    obtain ⟨pre, post, e⟩ := List.append_of_mem hX
    have hl : j < X.length := (List.getElem?_eq_some_iff.mp hy).1
    have hP : okE pre.flatten := okE_flat pre (fun Y hY => hE Y (by rw [e]; exact List.mem_append_left _ hY))
    have ef : Ls.flatten = pre.flatten ++ (X ++ post.flatten) := by rw [e, List.flatten_append, List.flatten_cons]
    have hg : (x :: Ls.flatten)[pre.flatten.length + j + 1]? = some y := by
      rw [List.getElem?_cons_succ, ef, List.getElem?_append_right (by omega), Nat.add_sub_cancel_left, List.getElem?_append_left hl]
      exact hy
    have h1 := h _ y hg h5
    have hfl : Ls.flatten.length = pre.flatten.length + (X.length + post.flatten.length) := by rw [ef, List.length_append, List.length_append]
    rw [anc_root hx (by omega) _ (by omega), ef, anc_mid hP _ (by omega)] at h1
    omega
  · intro h j y hy h5
    cases j with
    | zero => show 1 + 0 ≤ k + 1; omega
    | succ j =>
      rw [List.getElem?_cons_succ] at hy
      have hjl : j < Ls.flatten.length := (List.getElem?_eq_some_iff.mp hy).1
      obtain ⟨pre, X, post, i, e, e2, e3⟩ := flat_at Ls j y hy
      have hil : i < X.length := (List.getElem?_eq_some_iff.mp e3).1
      have hP : okE pre.flatten := okE_flat pre (fun Y hY => hE Y (by rw [e]; exact List.mem_append_left _ hY))
      have ef : Ls.flatten = pre.flatten ++ (X ++ post.flatten) := by rw [e, List.flatten_append, List.flatten_cons]
      rw [anc_root hx hjl _ (by omega), ef, e2, anc_mid hP _ (by omega)]
      have := h X (by rw [e]; simp) i y e3 h5
      omega
theorem dle_plain {x : Nd} (k : Nat) (h : x.1.toInt < 5) : dle k [x] := by
  intro j y hy h5
  cases j with
  | zero => cases hy; omega
  | succ j => cases hy
theorem dle_zero {x : Nd} {F : List Nd} (h : 5 ≤ x.1.toInt) : ¬ dle 0 (x :: F) := by
  intro h1
  have := h1 0 x rfl h
  omega
section DEP
variable {Zd : Nat → Nat} {K : KE} {st : CS}
theorem dep_l2 (fv : Option Nat → Int32 → CS → Option Int32) (a1 : Int32) : ∀ f e, c_Value_depthOf_l2 K fv a1 st f e = c_Value_depthOf_l1 K fv a1 st f e := by
  intro f
  induction f with
  | zero => intro e; rfl
  | succ f ih => intro e; rw [c_Value_depthOf_l1_s, c_Value_depthOf_l2_s]; simp only [ih]
theorem dep_l {d : Nat} {fv : Option Nat → Int32 → CS → Option Int32} {a1 : Int32} (hf : ∀ a L, treeOf Zd K st d a = some L → ∃ n : Nat, fv (some a) (a1 + 1) st = some (Int32.ofNat n) ∧ n ≤ 100 ∧ ∀ k, n ≤ k ↔ dle k L) : ∀ (ks : List Kd) (fuel : Nat) (m : Nat) (r : Option Nat), m ≤ 100 → Cs (fT Zd K st d) r ks none → ks.length < fuel → ∃ n : Nat, c_Value_depthOf_l1 K fv a1 st fuel (Int32.ofNat m, r) = some (Int32.ofNat n, none) ∧ n ≤ 100 ∧ ∀ k, n ≤ k ↔ (m ≤ k ∧ ∀ X ∈ kL ks, dle k X) := by
  intro ks
  induction ks with
  | nil =>
    intro fuel m r hm h hf9
    obtain ⟨f, rfl⟩ : ∃ f, fuel = f + 1 := ⟨fuel - 1, by have : 0 < fuel := hf9; omega⟩
    have h : r = none := h
    subst h
    exact ⟨m, by rw [c_Value_depthOf_l1_s]; rfl, hm, fun k => ⟨fun h9 => ⟨h9, fun X hX => by cases hX⟩, fun h9 => h9.1⟩⟩
  | cons y ks ih =>
    intro fuel m r hm h hf9
    obtain ⟨f, rfl⟩ : ∃ f, fuel = f + 1 := ⟨fuel - 1, by have : ks.length + 1 < fuel := hf9; omega⟩
    have hf9 : ks.length < f := Nat.lt_of_succ_lt_succ hf9
    obtain ⟨h1, nx, h2, h3⟩ := h
    subst h1
    obtain ⟨n, e1, e2, e3⟩ := hf _ _ h2.1
    have hmax : (if Int32.ofNat m < Int32.ofNat n then Int32.ofNat n else Int32.ofNat m) = Int32.ofNat (max m n) := by
      have hmi := ofNat_i (n := m) (by omega)
      have hni := ofNat_i (n := n) (by omega)
      by_cases c : m < n
      · rw [if_pos (i32lt.mpr (by omega)), show max m n = n by omega]
      · rw [if_neg (fun e => by have := i32lt.mp e; omega), show max m n = m by omega]
    obtain ⟨n2, i1, i2, i3⟩ := ih f (max m n) nx (by omega) h3 hf9
    refine ⟨n2, ?_, i2, fun k => ?_⟩
    · rw [c_Value_depthOf_l1_s]
      simp only [nl, Option.bind_some, e1, hmax, h2.2]
      exact i1
    · rw [i3 k, kL_cons]
      constructor
      · rintro ⟨g1, g2⟩
        refine ⟨by omega, fun X hX => ?_⟩
        rcases List.mem_cons.mp hX with rfl | hX
        · exact (e3 k).mp (by omega)
        · exact g2 X hX
      · rintro ⟨g1, g2⟩
        have := (e3 k).mpr (g2 _ List.mem_cons_self)
        exact ⟨by omega, fun X hX => g2 X (List.mem_cons_of_mem _ hX)⟩
theorem dep_ok (hc : kc Zd K) : ∀ (d e a : Nat) (L : List Nd) (a1 : Int32), treeOf Zd K st d a = some L → d ≤ e → 0 ≤ a1.toInt → a1.toInt + d ≤ 9 → ∃ n : Nat, c_Value_depthOf Zd K e (some a) a1 st = some (Int32.ofNat n) ∧ n ≤ d ∧ ∀ k, n ≤ k ↔ dle k L := by
  have N := nums
  intro d
  induction d with
  | zero => intro e a L a1 h; cases h
  | succ d ih =>
    intro e a L a1 h he h0 h9
    obtain ⟨e, rfl⟩ : ∃ g, e = g + 1 := ⟨e - 1, by omega⟩
    have htr := h
    obtain ⟨o, num, cs, ns, fst, nx, ks, ⟨k, c, n, fs, u1, u2, u3, u4, u5, u6, u7, u8, u9⟩, hcs, hlen, hok, hL⟩ := tree_node hc.2.2 h
    have hdp : 5 ≤ o.toInt → 0 < d := by
      intro h5
      cases d with
      | zero =>
        exfalso
        have hr : treeOf Zd K st 1 a = some L := htr
        unfold treeOf at hr
        rw [u2] at hr
        simp only [Option.bind_some, u7, u3, u4, u8, u5, u9, u6] at hr
        obtain ⟨xs, hx1, hx2⟩ := ob hr
        have := (ite_of hx2).1.2 h5
        omega
      | succ d => omega
    have hEs : ∀ X ∈ kL ks, okE X := by
      intro X hX
      obtain ⟨y, hy, rfl⟩ := List.mem_map.mp hX
      obtain ⟨nx9, h9⟩ := Cs.all ks fst none hcs y hy
      exact tree_end hc.2.2 d _ _ h9.1
    have hor := ordK_r u7
    show ∃ n : Nat, c_Value_depthOf_b Zd K (c_Value_depthOf Zd K e) (some a) a1 st = some (Int32.ofNat n) ∧ _
    by_cases h5 : o.toInt < 5
    · have hks : kL ks = [] := hok.1 h5
      have hL1 : L = [(o, 1 + (kL ks).flatten.length, num, cs, ns)] := by rw [hL, hks]; rfl
      have k5 : ¬ some k = some (Zd 13) := fun e9 => by
        have := (kd_14 hc u7 (i := 5) (by decide)).mp e9
        have h8 : o = 5 := this
        rw [h8] at h5; exact absurd h5 (by decide)
      have k6 : ¬ some k = some (Zd 14) := fun e9 => by
        have := (kd_14 hc u7 (i := 6) (by decide)).mp e9
        have h8 : o = 6 := this
        rw [h8] at h5; exact absurd h5 (by decide)
      refine ⟨0, ?_, Nat.zero_le _, fun k9 => ⟨fun _ => by rw [hL1]; exact dle_plain k9 h5, fun _ => Nat.zero_le _⟩⟩
      simp only [c_Value_depthOf_b, Option.bind_some, u2, k5, k6, if_false]
      rfl
    · have hd0 := hdp (by omega)
      have h8 : ¬ (8 : Int32) ≤ a1 := fun e9 => by have := i32le.mp e9; omega
      have k1 : (a1 + 1).toInt = a1.toInt + 1 := by rw [i32add (by omega) (by omega)]; omega
      obtain ⟨n, g1, g2, g3⟩ := dep_l (Zd := Zd) (fv := c_Value_depthOf Zd K e) (a1 := a1) (fun a9 L9 h9 => by
        obtain ⟨n9, y1, y2, y3⟩ := ih e a9 L9 (a1 + 1) h9 (by omega) (by omega) (by omega)
        exact ⟨n9, y1, by omega, y3⟩) ks 4096 0 fst (by omega) hcs (by omega)
      have hn : n ≤ d := by
        rw [g3 d]
        refine ⟨Nat.zero_le _, fun X hX => ?_⟩
        obtain ⟨y, hy, rfl⟩ := List.mem_map.mp hX
        obtain ⟨nx9, h9⟩ := Cs.all ks fst none hcs y hy
        obtain ⟨n9, y1, y2, y3⟩ := ih e _ _ (a1 + 1) h9.1 (by omega) (by omega) (by omega)
        exact (y3 d).mp y2
      have hn1 : Int32.ofNat n + 1 = Int32.ofNat (n + 1) := i32eq (by rw [i32add (by rw [ofNat_i (by omega)]; omega) (by rw [ofNat_i (by omega)]; omega), ofNat_i (by omega), ofNat_i (by omega)]; omega)
      refine ⟨n + 1, ?_, by omega, fun k9 => ?_⟩
      · rcases (show o = 5 ∨ o = 6 from by
          rcases (show o.toInt = 5 ∨ o.toInt = 6 by omega) with e9 | e9
          · exact Or.inl (i32eq (by rw [e9]; rfl))
          · exact Or.inr (i32eq (by rw [e9]; rfl))) with o5 | o6
        · have k5 : some k = some (Zd 13) := (kd_14 hc u7 (i := 5) (by decide)).mpr o5
          have g1 : c_Value_depthOf_l1 K (c_Value_depthOf Zd K e) a1 st 4096 (0, fst) = some (Int32.ofNat n, none) := g1
          simp only [c_Value_depthOf_b, Option.bind_some, u2, k5, if_true, h8, if_false, u6, g1, hn1]
        · have k6 : some k = some (Zd 14) := (kd_14 hc u7 (i := 6) (by decide)).mpr o6
          have k5 : ¬ some k = some (Zd 13) := fun e9 => by
            have := (kd_14 hc u7 (i := 5) (by decide)).mp e9
            have h8 : o = 5 := this
            rw [o6] at h8; exact absurd h8 (by decide)
          have g1 : c_Value_depthOf_l1 K (c_Value_depthOf Zd K e) a1 st 4096 (0, fst) = some (Int32.ofNat n, none) := g1
          have k56 : ¬ some (Zd 14) = some (Zd 13) := by rw [← k6]; exact k5
          simp only [c_Value_depthOf_b, Option.bind_some, u2, k6, k56, if_true, h8, if_false, u6, dep_l2, g1, hn1]
      · rw [hL]
        cases k9 with
        | zero =>
          constructor
          · intro h7; omega
          · intro h7; exact absurd h7 (dle_zero (by show 5 ≤ o.toInt; omega))
        | succ k9 =>
          rw [dle_node rfl hEs]
          have := g3 k9
          constructor
          · intro h7; exact (this.mp (by omega)).2
          · intro h7
            have := this.mpr ⟨Nat.zero_le _, h7⟩
            omega
theorem size9 (hk : wk K) : ∀ (d e a : Nat) (L : List Nd) (a1 : Int32), treeOf Zd K st d a = some L → d ≤ e → 0 ≤ a1.toInt → a1.toInt + d ≤ 9 → c_Value_sizeOf Zd K e (some a) a1 st = some (Int32.ofNat L.length) := by
  have N := nums
  intro d
  induction d with
  | zero => intro e a L a1 h; cases h
  | succ d ih =>
    intro e a L a1 h he h0 h9
    obtain ⟨e, rfl⟩ : ∃ g, e = g + 1 := ⟨e - 1, by omega⟩
    have htr := h
    obtain ⟨o, num, cs, ns, fst, nx, ks, ⟨k, c, n, fs, u1, u2, u3, u4, u5, u6, u7, u8, u9⟩, hcs, hlen, hok, hL⟩ := tree_node hk h
    show c_Value_sizeOf_b Zd K (c_Value_sizeOf Zd K e) (some a) a1 st = _
    by_cases h8 : (8 : Int32) ≤ a1
    · have h81 := i32le.mp h8
      have hd : d = 0 := by omega
      subst hd
      have hks : ks = [] := by
        cases ks with
        | nil => rfl
        | cons y ys =>
          obtain ⟨-, nx9, h7, -⟩ := hcs
          cases h7.1
      subst hks
      simp only [c_Value_sizeOf_b, h8, if_true, Option.bind_some]
      rw [hL]
      rfl
    · have h81 : ¬ (8 : Int32).toInt ≤ a1.toInt := fun e9 => h8 (i32le.mpr e9)
      have k1 : (a1 + 1).toInt = a1.toInt + 1 := by rw [i32add (by omega) (by omega)]; omega
      have g1 := size_l (Zd := Zd) (fv := c_Value_sizeOf Zd K e) (a1 := a1) (fun a9 L9 h9 => ih e a9 L9 (a1 + 1) h9 (by omega) (by omega) (by omega)) ks 4096 1 fst hcs (by omega)
      simp only [c_Value_sizeOf_b, h8, if_false, Option.bind_some, u6, g1]
      rw [hL, List.length_cons, Nat.add_comm, Int32.ofNat_add]
      rfl
/-- a tree that is not deep -/
theorem Tw.flat (hk : wk K) : ∀ (d k : Nat) (N : List Nat) (a : Nat) (nx : Option Nat) (L : List Nd), Tw Zd K st d N a nx L → dle k L → Tw Zd K st (k + 1) N a nx L := by
  intro d
  induction d with
  | zero => intro k N a nx L h; exact h.elim
  | succ d ih =>
    rintro k N a nx L ⟨o, num, cs, ns, fst, ks, h1, h2, h3, h4, h5, h6⟩ hd
    have hEs : ∀ X ∈ kL ks, okE X := by
      intro X hX
      obtain ⟨y, hy, rfl⟩ := List.mem_map.mp hX
      obtain ⟨nx9, h9⟩ := Cs.all ks fst none h2 y hy
      exact tree_end hk d _ _ (Tw.tree _ _ _ _ _ h9)
    by_cases c5 : o.toInt < 5
    · have hks : kL ks = [] := h4.1 c5
      have hks2 : ks = [] := by
        unfold kL at hks
        exact List.map_eq_nil_iff.mp hks
      subst hks2
      exact ⟨o, num, cs, ns, fst, [], h1, h2, ⟨h3.1, fun h9 => by omega⟩, h4, h5, h6⟩
    · rw [h6] at hd
      cases k with
      | zero => exact absurd hd (dle_zero (by show 5 ≤ o.toInt; omega))
      | succ k =>
        rw [dle_node rfl hEs] at hd
        refine ⟨o, num, cs, ns, fst, ks, h1, Cs.mono ks fst none h2 (fun y hy nx9 h9 => ih k _ _ _ _ h9 (hd _ (List.mem_map.mpr ⟨y, hy, rfl⟩))), ⟨h3.1, fun _ => Nat.succ_pos _⟩, h4, h5, h6⟩
end DEP
/-! the model's measure -/
section FIT
variable {ms : MS} {L : List Nd}
theorem fit_2 (hr : rowIs ms 1980 L) (hl : L.length ≤ 60) (hs : ∀ x ∈ L, x.2.1 ≤ 60) {c : Nat} {v : Int32} (hv : v.toInt = (1980 + c : Nat)) (hc : c < L.length) : ∀ (r n fuel : Nat) (g z : Int32), n + r = c → g.toInt = (1980 + n : Nat) → r < fuel → z.toInt = 1 + anc L c n → ∃ (z1 e : Int32), m_fits_l2 ms v fuel (z, g) = some (z1, e) ∧ z1.toInt = 1 + anc L c c := by
  have N := nums
  have hbd : ∀ n, anc L c n ≤ n := by
    intro n
    induction n with
    | zero => exact Nat.le_refl _
    | succ n ih =>
      show (match L[n]? with | some x => if c < n + x.2.1 then 1 else 0 | none => 0) + anc L c n ≤ n + 1
      split
      · split <;> omega
      · omega
  intro r
  induction r with
  | zero =>
    intro n fuel g z h1 h2 h3 hz
    obtain ⟨f, rfl⟩ : ∃ f, fuel = f + 1 := ⟨fuel - 1, by omega⟩
    have : n = c := by omega
    subst this
    have hle : v ≤ g := i32le.mpr (by omega)
    exact ⟨z, g, by rw [m_fits_l2_s, if_pos hle], hz⟩
  | succ r ih =>
    intro n fuel g z h1 h2 h3 hz
    obtain ⟨f, rfl⟩ : ∃ f, fuel = f + 1 := ⟨fuel - 1, by omega⟩
    have hnl : n < L.length := by omega
    have hx : L[n]? = some L[n] := List.getElem?_eq_getElem hnl
    generalize hxx : L[n] = x at hx
    have hsx := hs x (List.mem_of_getElem? hx)
    have hrx := hr n x hx
    have hrd : rd (ms.2.2.1 2) 2100 g = some (Int32.ofNat x.2.1) := by rw [rd_in (vp_of (by omega) (by omega)), show g.toNatClampNeg = 1980 + n by rw [tnn]; omega, hrx.2.1]
    have hsp : (Int32.ofNat x.2.1).toInt = x.2.1 := ofNat_i (by omega)
    have y12 : (g + Int32.ofNat x.2.1).toInt = (1980 + n + x.2.1 : Nat) := by rw [i32add (by omega) (by omega)]; omega
    have k1 : (g + 1).toInt = (1980 + (n + 1) : Nat) := by rw [i32add (by omega) (by omega)]; omega
    have hb := hbd n
    have kz : (z + 1).toInt = z.toInt + 1 := by rw [i32add (by omega) (by omega)]; omega
    have z0 : ¬ z ≤ 0 := fun e9 => by have := i32le.mp e9; omega
    obtain ⟨z2, hz1, hz2⟩ : ∃ z2 : Int32, (if g + Int32.ofNat x.2.1 ≤ v then (some z) else ((some (z + 1)).bind fun y38 => some y38)) = some z2 ∧ z2.toInt = 1 + anc L c (n + 1) := by
      rw [anc_s hx]
      by_cases c9 : c < n + x.2.1
      · exact ⟨z + 1, by rw [if_neg (fun e9 => by have := i32le.mp e9; omega)]; rfl, by rw [if_pos c9, kz]; omega⟩
      · exact ⟨z, by rw [if_pos (i32le.mpr (by omega))], by rw [if_neg c9]; omega⟩
    obtain ⟨z1, e, he1, he2⟩ := ih (n + 1) f (g + 1) z2 (by omega) k1 (by omega) hz2
    refine ⟨z1, e, ?_, he2⟩
    simp only [Option.bind_some] at hz1
    have hnle : ¬ v ≤ g := fun e9 => by have := i32le.mp e9; omega
    rw [m_fits_l2_s, if_neg hnle]
    simp only [z0, if_false, hrd, Option.bind_some, hz1]
    exact he1
theorem fit_1 (hr : rowIs ms 1980 L) (hl : L.length ≤ 60) (hok : okL L) : ∀ (r n fuel : Nat) (g z : Int32), n + r = L.length → g.toInt = (1980 + n : Nat) → r < fuel → z = 0 ∨ z = 1 → ∃ (z1 e : Int32), m_fits_l1 ms 1980 fuel (z, g) = some (z1, e) ∧ (z1 = 0 ∨ z1 = 1) ∧ (z1 = 1 ↔ (z = 1 ∧ ∀ j x, n ≤ j → L[j]? = some x → 5 ≤ x.1.toInt → 1 + anc L j j ≤ 4)) := by
  have N := nums
  have n5 : (5 : Int32).toInt = 5 := by decide
  have W := nWk
  have h10 : ¬ ((1 : Int32) = 0) := by decide
  obtain ⟨⟨x0, xs0, e0, e1⟩, hall⟩ := hok
  have hs : ∀ x ∈ L, x.2.1 ≤ 60 := fun x hx => by have := (hall x hx).2.2; omega
  have hr0 := hr 0 x0 (by rw [e0]; rfl)
  have hrd0 : rd (ms.2.2.1 2) 2100 1980 = some (Int32.ofNat L.length) := by
    rw [rd_in (vp_of (by decide) (by decide)), show (1980 : Int32).toNatClampNeg = 1980 + 0 from by decide, hr0.2.1, e1]
  have hLi : (Int32.ofNat L.length).toInt = L.length := ofNat_i (by omega)
  have y5 : (1980 + Int32.ofNat L.length).toInt = (1980 + L.length : Nat) := by rw [i32add (by omega) (by omega)]; omega
  intro r
  induction r with
  | zero =>
    intro n fuel g z h1 h2 h3 hz
    obtain ⟨f, rfl⟩ : ∃ f, fuel = f + 1 := ⟨fuel - 1, by omega⟩
    refine ⟨z, g, ?_, hz, fun e9 => ⟨e9, fun j x hj hx => ?_⟩, fun e9 => e9.1⟩
    · rw [m_fits_l1_s]
      simp only [hrd0, Option.bind_some, show 1980 + Int32.ofNat L.length ≤ g from i32le.mpr (by omega), if_true]
    · have := (List.getElem?_eq_some_iff.mp hx).1
      omega
  | succ r ih =>
    intro n fuel g z h1 h2 h3 hz
    obtain ⟨f, rfl⟩ : ∃ f, fuel = f + 1 := ⟨fuel - 1, by omega⟩
    have hnl : n < L.length := by omega
    have hx : L[n]? = some L[n] := List.getElem?_eq_getElem hnl
    generalize hxx : L[n] = x at hx
    have hrx := hr n x hx
    have hrk : rd (ms.2.2.1 1) 2100 g = some x.1 := by rw [rd_in (vp_of (by omega) (by omega)), show g.toNatClampNeg = 1980 + n by rw [tnn]; omega, hrx.1]
    have k1 : (g + 1).toInt = (1980 + (n + 1) : Nat) := by rw [i32add (by omega) (by omega)]; omega
    have hle : ¬ 1980 + Int32.ofNat L.length ≤ g := fun e9 => by have := i32le.mp e9; omega
    obtain ⟨e19, e21, hf1, hf2, hf3⟩ : ∃ (e19 : Int32) (e21 : Int32 × Int32), (if x.1 < (5 : Int32) then (some (0 : Int32)) else (some (1 : Int32))) = some e19 ∧ m_fits_l2 ms g 4096 (e19, 1980) = some e21 ∧ (¬ (4 : Int32) < e21.1 ↔ (5 ≤ x.1.toInt → 1 + anc L n n ≤ 4)) := by
      by_cases c5 : x.1 < 5
      · have c51 := i32lt.mp c5
        refine ⟨0, (0, 1980), by rw [if_pos c5], ?_, ?_⟩
        · rw [show (4096 : Nat) = 4095 + 1 from rfl, m_fits_l2_s]
          by_cases c9 : g ≤ 1980
          · rw [if_pos c9]
          · rw [if_neg c9, if_pos (show (0 : Int32) ≤ 0 from by decide)]
        · exact ⟨fun _ h5 => by omega, fun _ => by decide⟩
      · have c51 : ¬ x.1.toInt < (5 : Int32).toInt := fun e => c5 (i32lt.mpr e)
        obtain ⟨z1, e, he1, he2⟩ := fit_2 hr hl hs h2 hnl n 0 4096 1980 1 (by omega) (by decide) (by omega) (by rw [N.2.1]; rfl)
        refine ⟨1, (z1, e), by rw [if_neg c5], he1, ?_⟩
        constructor
        · intro h9 _
          have : ¬ (4 : Int32).toInt < z1.toInt := fun e9 => h9 (i32lt.mpr e9)
          omega
        · intro h9 e9
          have := i32lt.mp e9
          have := h9 (by omega)
          have h8 : (4 : Int32).toInt < z1.toInt := i32lt.mp e9
          omega
    obtain ⟨e28, hz1, hz2, hz3⟩ : ∃ e28 : Int32, (if z = (0 : Int32) then (some (0 : Int32)) else (if (4 : Int32) < e21.1 then (some (0 : Int32)) else (some (1 : Int32)))) = some e28 ∧ (e28 = 0 ∨ e28 = 1) ∧ (e28 = 1 ↔ (z = 1 ∧ ¬ (4 : Int32) < e21.1)) := by
      rcases hz with rfl | rfl
      · exact ⟨0, by rw [if_pos rfl], Or.inl rfl, fun e9 => absurd e9.symm h10, fun e9 => absurd e9.1.symm h10⟩
      · by_cases c9 : (4 : Int32) < e21.1
        · exact ⟨0, by rw [if_neg h10, if_pos c9], Or.inl rfl, fun e9 => absurd e9.symm h10, fun e9 => absurd c9 e9.2⟩
        · exact ⟨1, by rw [if_neg h10, if_neg c9], Or.inr rfl, fun _ => ⟨rfl, c9⟩, fun _ => rfl⟩
    obtain ⟨z1, e, he1, he2, he3⟩ := ih (n + 1) f (g + 1) e28 (by omega) k1 (by omega) hz2
    refine ⟨z1, e, ?_, he2, ?_⟩
    · rw [m_fits_l1_s]
      simp only [hrd0, Option.bind_some, hle, if_false, hrk, hf1, hf2, hz1]
      exact he1
    · rw [he3, hz3, hf3]
      constructor
      · rintro ⟨⟨g1, g2⟩, g3⟩
        refine ⟨g1, fun j y hj hy h5 => ?_⟩
        by_cases ej : j = n
        · subst ej
          rw [hx] at hy
          cases hy
          exact g2 h5
        · exact g3 j y (by omega) hy h5
      · rintro ⟨g1, g2⟩
        exact ⟨⟨g1, fun h5 => g2 n x (Nat.le_refl _) hx h5⟩, fun j y hj hy h5 => g2 j y (by omega) hy h5⟩
theorem fits_ok (hr : rowIs ms 1980 L) (hl : L.length ≤ 60) (hok : okL L) : ∃ x, m_fits ms = some x ∧ (x = 0 ∨ x = 1) ∧ (x = 1 ↔ (L.length ≤ 24 ∧ dle 4 L)) := by
  have N := nums
  have h10 : ¬ ((1 : Int32) = 0) := by decide
  have hok0 := hok
  obtain ⟨⟨x0, xs0, e0, e1⟩, hall⟩ := hok0
  have hr0 := hr 0 x0 (by rw [e0]; rfl)
  have hrd0 : rd (ms.2.2.1 2) 2100 1980 = some (Int32.ofNat L.length) := by
    rw [rd_in (vp_of (by decide) (by decide)), show (1980 : Int32).toNatClampNeg = 1980 + 0 from by decide, hr0.2.1, e1]
  have hLi : (Int32.ofNat L.length).toInt = L.length := ofNat_i (by omega)
  obtain ⟨e6, h61, h62, h63⟩ : ∃ e6 : Int32, (if (24 : Int32) < Int32.ofNat L.length then (some (0 : Int32)) else (some (1 : Int32))) = some e6 ∧ (e6 = 0 ∨ e6 = 1) ∧ (e6 = 1 ↔ L.length ≤ 24) := by
    by_cases c : (24 : Int32) < Int32.ofNat L.length
    · have := i32lt.mp c
      exact ⟨0, by rw [if_pos c], Or.inl rfl, fun e9 => absurd e9.symm h10, fun e9 => by omega⟩
    · have : ¬ (24 : Int32).toInt < (Int32.ofNat L.length).toInt := fun e => c (i32lt.mpr e)
      exact ⟨1, by rw [if_neg c], Or.inr rfl, fun _ => by omega, fun _ => rfl⟩
  obtain ⟨z1, e, he1, he2, he3⟩ := fit_1 hr hl hok L.length 0 4096 1980 e6 (by omega) (by decide) (by omega) h62
  have hb : bz z1 = some () := by
    rcases he2 with e9 | e9
    · rw [e9]; rfl
    · rw [e9]; rfl
  refine ⟨z1, ?_, he2, ?_⟩
  · simp only [m_fits, at81, Option.bind_some, hrd0, h61, he1, hb]
  · rw [he3, h63]
    constructor
    · rintro ⟨g1, g2⟩; exact ⟨g1, fun j x hx h5 => g2 j x (Nat.zero_le _) hx h5⟩
    · rintro ⟨g1, g2⟩; exact ⟨g1, fun j x _ hx h5 => g2 j x hx h5⟩
end FIT
