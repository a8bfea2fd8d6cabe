/-! The start: class and model stand alike. -/
def lk (l : List (Nat × CE)) (a : Nat) : CE := match l.find? (fun p => p.1 == a) with
  | some p => p.2
  | none => .inl (0, 0, fun _ => 0)
def ndl (l : List (Nat × CE)) : Prop := ∀ (i j : Nat) (p q : Nat × CE), l[i]? = some p → l[j]? = some q → p.1 = q.1 → i = j
theorem lk_m {l : List (Nat × CE)} (hd : ndl l) {p : Nat × CE} (h : p ∈ l) : p.1 ∈ l.map Prod.fst ∧ lk l p.1 = p.2 := by
  refine ⟨List.mem_map.mpr ⟨p, h, rfl⟩, ?_⟩
  unfold lk
  cases hf : l.find? (fun x => x.1 == p.1) with
  | none => exact absurd (List.find?_eq_none.mp hf p h) (by simp)
  | some x =>
    have h1 : x.1 = p.1 := by simpa using List.find?_some hf
    obtain ⟨i, hi⟩ := List.getElem?_of_mem (List.mem_of_find?_eq_some hf)
    obtain ⟨j, hj⟩ := List.getElem?_of_mem h
    have e : i = j := hd i j x p hi hj h1
    subst e
    rw [hi] at hj
    cases hj
    rfl
theorem lk_w {k : Nat → ClassId} {l : List (Nat × CE)} (hd : ndl l) (x : Nat × Nat) : wH k (x, l.map Prod.fst, lk l) = l.map (fun p => (p.1, toE k p.2)) := by
  show (l.map Prod.fst).map (fun a => (a, toE k (lk l a))) = _
  rw [List.map_map]
  refine List.map_congr_left (fun p hp => ?_)
  show (p.1, toE k (lk l p.1)) = (p.1, toE k p.2)
  rw [(lk_m hd hp).2]
def q0 (h0 : Nat) (u : Nat → Nat) : Nat → Nat := fun k => if k < 100 then pvq h0 u k else if k < 200 then u (31 + (k - 100)) else u (11 + (k - 200))
def R0 (Zd : Nat → Nat) : Nat → Option Nat := fun k => if k = 0 then none else some (Zd 0)
def pl0 (Zd : Nat → Nat) (u : Nat → Nat) : List (Nat × CE) := [(u 11, .inr (.inr (7, [.int 0, .int 0, .int 0, .ref (Zd 0), .int 0]))), (u 12, .inr (.inr (7, [.int 0, .int 0, .int 0, .ref (Zd 0), .int 0]))), (u 13, .inr (.inr (7, [.int 0, .int 0, .int 0, .ref (Zd 0), .int 0]))), (u 14, .inr (.inr (7, [.int 0, .int 0, .int 0, .ref (Zd 0), .int 0]))), (u 15, .inr (.inr (7, [.int 0, .int 0, .int 0, .ref (Zd 0), .int 0]))), (u 16, .inr (.inr (7, [.int 0, .int 0, .int 0, .ref (Zd 0), .int 0]))), (u 17, .inr (.inr (7, [.int 0, .int 0, .int 0, .ref (Zd 0), .int 0]))), (u 18, .inr (.inr (7, [.int 0, .int 0, .int 0, .ref (Zd 0), .int 0]))), (u 31, .inr (.inr (10, [.ref (u 32), .ref (u 33)]))), (u 32, .inr (.inl (5, 4, fun _ => none))), (u 33, .inl (1, 2, fun _ => 0)), (u 34, .inr (.inr (10, [.ref (u 35), .ref (u 36)]))), (u 35, .inr (.inl (5, 4, fun _ => none))), (u 36, .inl (1, 2, fun _ => 0)), (u 37, .inr (.inr (10, [.ref (u 38), .ref (u 39)]))), (u 38, .inr (.inl (5, 4, fun _ => none))), (u 39, .inl (1, 2, fun _ => 0)), (u 40, .inr (.inr (10, [.ref (u 41), .ref (u 42)]))), (u 41, .inr (.inl (5, 4, fun _ => none))), (u 42, .inl (1, 2, fun _ => 0)), (u 43, .inr (.inr (10, [.ref (u 44), .ref (u 45)]))), (u 44, .inr (.inl (5, 4, fun _ => none))), (u 45, .inl (1, 2, fun _ => 0)), (u 46, .inr (.inr (10, [.ref (u 47), .ref (u 48)]))), (u 47, .inr (.inl (5, 4, fun _ => none))), (u 48, .inl (1, 2, fun _ => 0)), (u 49, .inr (.inr (10, [.ref (u 50), .ref (u 51)]))), (u 50, .inr (.inl (5, 4, fun _ => none))), (u 51, .inl (1, 2, fun _ => 0)), (u 52, .inr (.inr (10, [.ref (u 53), .ref (u 54)]))), (u 53, .inr (.inl (5, 4, fun _ => none))), (u 54, .inl (1, 2, fun _ => 0)), (u 55, .inr (.inr (10, [.ref (u 56), .ref (u 57)]))), (u 56, .inr (.inl (5, 4, fun _ => none))), (u 57, .inl (1, 2, fun _ => 0)), (u 58, .inr (.inr (10, [.ref (u 59), .ref (u 60)]))), (u 59, .inr (.inl (5, 4, fun _ => none))), (u 60, .inl (1, 2, fun _ => 0)), (u 61, .inr (.inr (10, [.ref (u 62), .ref (u 63)]))), (u 62, .inr (.inl (5, 4, fun _ => none))), (u 63, .inl (1, 2, fun _ => 0)), (u 64, .inr (.inr (10, [.ref (u 65), .ref (u 66)]))), (u 65, .inr (.inl (5, 4, fun _ => none))), (u 66, .inl (1, 2, fun _ => 0))]
def l0 (Zd : Nat → Nat) (h0 : Nat) (u : Nat → Nat) : List (Nat × CE) := Lx (q0 h0 u) 16 cI0 cA0 (R0 Zd) (pvQ u) ++ pl0 Zd u
set_option maxRecDepth 100000 in
set_option maxHeartbeats 4000000 in
theorem l0_w {G : Gk} {Zd : Nat → Nat} {h0 : Nat} {u : Nat → Nat} : (l0 Zd h0 u).map (fun p => (p.1, toE G.2 p.2)) = wC (pvq h0 u) G.2 16 cI0 cA0 (fun _ => none) (pvQ u) (pvl G Zd u) := rfl
def inv0 (n : Nat) : Nat := if n < 26 then n else if n < 34 then 200 + (n - 26) else 100 + (n - 34)
def pos0 (i : Nat) : Nat := if i < 26 then i else if i < 200 then 34 + (i - 100) else 26 + (i - 200)
set_option maxRecDepth 100000 in
set_option maxHeartbeats 4000000 in
theorem l0_q {Zd : Nat → Nat} {h0 : Nat} {u : Nat → Nat} : (l0 Zd h0 u).map Prod.fst = (List.range 70).map (fun n => q0 h0 u (inv0 n)) := rfl
theorem us_or {i : Nat} (h : us i = true) : i < 26 ∨ (100 ≤ i ∧ i < 136) ∨ (200 ≤ i ∧ i < 208) := by
  unfold us at h
  simp only [Bool.or_eq_true, Bool.and_eq_true, Nat.blt_eq, Nat.ble_eq] at h
  omega
def ce12 : CE → Bool
  | .inr (.inr (c, _)) => c != 12
  | _ => true
set_option maxRecDepth 100000 in
set_option maxHeartbeats 4000000 in
theorem l0_k {Zd : Nat → Nat} {h0 : Nat} {u : Nat → Nat} : (l0 Zd h0 u).all (fun p => ce12 p.2) = true := rfl
set_option maxRecDepth 100000 in
set_option maxHeartbeats 4000000 in
theorem law_rv {G : Gk} {Zd : Nat → Nat} {K : KE} {s : State} {A : Nat → Prop} {H : Heap} {h0 : Nat} {u : Nat → Nat} (hP : va_P G.1 vwCl (wC (pvq h0 u) G.2 16 cI0 cA0 (fun _ => none) (pvQ u) (pvl G Zd u)) H) (hD : va_D A (wC (pvq h0 u) G.2 16 cI0 cA0 (fun _ => none) (pvQ u) (pvl G Zd u))) (hsz : s.heap.size ≤ H.size) (hk : ∀ a ∈ K.1, a < s.heap.size ∧ ¬ A a) (hkz : kz K) : ∃ st : CS, wH G.2 st = wC (pvq h0 u) G.2 16 cI0 cA0 (fun _ => none) (pvQ u) (pvl G Zd u) ∧ st.1 = (H.size, tot H) ∧ Rv Zd K st (mI0, mJ0, mA0, mB0) (q0 h0 u) 16 cI0 cA0 (R0 Zd) (pvQ u) := by
  rw [← l0_w] at hP hD ⊢
  have hd : ndl (l0 Zd h0 u) := fun i j p q hi hj e => hD.1 i j (p.1, toE G.2 p.2) (q.1, toE G.2 q.2) (by rw [List.getElem?_map, hi]; rfl) (by rw [List.getElem?_map, hj]; rfl) e
  have hin : ∀ a, a ∈ (l0 Zd h0 u).map Prod.fst → a < H.size ∧ A a := by
    intro a ha
    obtain ⟨p, hp, rfl⟩ := List.mem_map.mp ha
    obtain ⟨i, hi⟩ := List.getElem?_of_mem hp
    have h1 : ((l0 Zd h0 u).map (fun p => (p.1, toE G.2 p.2)))[i]? = some (p.1, toE G.2 p.2) := by rw [List.getElem?_map, hi]; rfl
    exact ⟨(hP i _ h1).lt, hD.2 i _ h1⟩
  obtain ⟨st, hst⟩ : ∃ st : CS, st = ((H.size, tot H), (l0 Zd h0 u).map Prod.fst, lk (l0 Zd h0 u)) := ⟨_, rfl⟩
  have hs1 : st.2.1 = (l0 Zd h0 u).map Prod.fst := by rw [hst]
  have hs2 : st.2.2 = lk (l0 Zd h0 u) := by rw [hst]
  have hs0 : st.1 = (H.size, tot H) := by rw [hst]
  have hat : ∀ p : Nat × CE, p ∈ l0 Zd h0 u → p.1 ∈ st.2.1 ∧ st.2.2 p.1 = p.2 := fun p hp => by rw [hs1, hs2]; exact lk_m hd hp
  have hw : wf K st := by
    refine ⟨fun a ha => ?_, fun a ha => ⟨?_, fun h => ?_⟩⟩
    · rw [hs1] at ha
      rw [hs0]
      exact (hin a ha).1
    · rw [hs0]
      exact Nat.lt_of_lt_of_le (hk a ha).1 hsz
    · rw [hs1] at h
      exact (hk a ha).2 (hin a h).2
  have hnot : ∀ a, a ∈ st.2.1 → ∀ fs : List Value, st.2.2 a ≠ .inr (.inr (12, fs)) := by
    intro a ha fs e
    rw [hs1] at ha
    obtain ⟨p, hp, rfl⟩ := List.mem_map.mp ha
    rw [(hat p hp).2] at e
    have h1 := List.all_eq_true.mp (l0_k (Zd := Zd) (h0 := h0) (u := u)) p hp
    rw [e] at h1
    cases h1
  have hpos : ∀ i, us i = true → pos0 i < 70 ∧ inv0 (pos0 i) = i := by
    intro i hi
    unfold inv0 pos0
    rcases us_or hi with h | ⟨h, h2⟩ | ⟨h, h2⟩
    · rw [if_pos h, if_pos h]; omega
    · rw [if_neg (show ¬ i < 26 by omega), if_pos (show i < 200 by omega), if_neg (show ¬ 34 + (i - 100) < 26 by omega), if_neg (show ¬ 34 + (i - 100) < 34 by omega)]; omega
    · rw [if_neg (show ¬ i < 26 by omega), if_neg (show ¬ i < 200 by omega), if_neg (show ¬ 26 + (i - 200) < 26 by omega), if_pos (show 26 + (i - 200) < 34 by omega)]; omega
  have hnum : ∀ i, us i = true → ∃ e, (l0 Zd h0 u)[pos0 i]? = some (q0 h0 u i, e) := by
    intro i hi
    obtain ⟨h1, h2⟩ := hpos i hi
    have h3 : ((l0 Zd h0 u).map Prod.fst)[pos0 i]? = some (q0 h0 u i) := by
      rw [l0_q, List.getElem?_map, List.getElem?_range h1]
      show some (q0 h0 u (inv0 (pos0 i))) = _
      rw [h2]
    rw [List.getElem?_map] at h3
    cases h4 : (l0 Zd h0 u)[pos0 i]? with
    | none => rw [h4] at h3; cases h3
    | some p =>
      rw [h4] at h3
      have h5 : p.1 = q0 h0 u i := Option.some.inj h3
      exact ⟨p.2, by rw [← h5]⟩
  have hinj : ∀ i j, us i = true → us j = true → q0 h0 u i = q0 h0 u j → i = j := by
    intro i j hi hj e
    obtain ⟨e1, h1⟩ := hnum i hi
    obtain ⟨e2, h2⟩ := hnum j hj
    have h3 := hd _ _ _ _ h1 h2 e
    have h4 := (hpos i hi).2
    rw [h3, (hpos j hj).2] at h4
    exact h4.symm
  have hwq : ∀ i, us i = true → q0 h0 u i ∈ st.2.1 := by
    intro i hi
    obtain ⟨e1, h1⟩ := hnum i hi
    exact (hat _ (List.mem_of_getElem? h1)).1
  have hpg : ∀ j, j < 12 → pgx st (q0 h0 u) cA0 (pvQ u) j := by
    intro j hj
    rcases (show j = 0 ∨ j = 1 ∨ j = 2 ∨ j = 3 ∨ j = 4 ∨ j = 5 ∨ j = 6 ∨ j = 7 ∨ j = 8 ∨ j = 9 ∨ j = 10 ∨ j = 11 by omega) with rfl | rfl | rfl | rfl | rfl | rfl | rfl | rfl | rfl | rfl | rfl | rfl
    · exact ⟨rfl, hat _ (List.mem_append_right _ (List.mem_of_getElem? (i := 8) rfl)), hat _ (List.mem_append_right _ (List.mem_of_getElem? (i := 9) rfl)), hat _ (List.mem_append_right _ (List.mem_of_getElem? (i := 10) rfl))⟩
    · exact ⟨rfl, hat _ (List.mem_append_right _ (List.mem_of_getElem? (i := 11) rfl)), hat _ (List.mem_append_right _ (List.mem_of_getElem? (i := 12) rfl)), hat _ (List.mem_append_right _ (List.mem_of_getElem? (i := 13) rfl))⟩
    · exact ⟨rfl, hat _ (List.mem_append_right _ (List.mem_of_getElem? (i := 14) rfl)), hat _ (List.mem_append_right _ (List.mem_of_getElem? (i := 15) rfl)), hat _ (List.mem_append_right _ (List.mem_of_getElem? (i := 16) rfl))⟩
    · exact ⟨rfl, hat _ (List.mem_append_right _ (List.mem_of_getElem? (i := 17) rfl)), hat _ (List.mem_append_right _ (List.mem_of_getElem? (i := 18) rfl)), hat _ (List.mem_append_right _ (List.mem_of_getElem? (i := 19) rfl))⟩
    · exact ⟨rfl, hat _ (List.mem_append_right _ (List.mem_of_getElem? (i := 20) rfl)), hat _ (List.mem_append_right _ (List.mem_of_getElem? (i := 21) rfl)), hat _ (List.mem_append_right _ (List.mem_of_getElem? (i := 22) rfl))⟩
    · exact ⟨rfl, hat _ (List.mem_append_right _ (List.mem_of_getElem? (i := 23) rfl)), hat _ (List.mem_append_right _ (List.mem_of_getElem? (i := 24) rfl)), hat _ (List.mem_append_right _ (List.mem_of_getElem? (i := 25) rfl))⟩
    · exact ⟨rfl, hat _ (List.mem_append_right _ (List.mem_of_getElem? (i := 26) rfl)), hat _ (List.mem_append_right _ (List.mem_of_getElem? (i := 27) rfl)), hat _ (List.mem_append_right _ (List.mem_of_getElem? (i := 28) rfl))⟩
    · exact ⟨rfl, hat _ (List.mem_append_right _ (List.mem_of_getElem? (i := 29) rfl)), hat _ (List.mem_append_right _ (List.mem_of_getElem? (i := 30) rfl)), hat _ (List.mem_append_right _ (List.mem_of_getElem? (i := 31) rfl))⟩
    · exact ⟨rfl, hat _ (List.mem_append_right _ (List.mem_of_getElem? (i := 32) rfl)), hat _ (List.mem_append_right _ (List.mem_of_getElem? (i := 33) rfl)), hat _ (List.mem_append_right _ (List.mem_of_getElem? (i := 34) rfl))⟩
    · exact ⟨rfl, hat _ (List.mem_append_right _ (List.mem_of_getElem? (i := 35) rfl)), hat _ (List.mem_append_right _ (List.mem_of_getElem? (i := 36) rfl)), hat _ (List.mem_append_right _ (List.mem_of_getElem? (i := 37) rfl))⟩
    · exact ⟨rfl, hat _ (List.mem_append_right _ (List.mem_of_getElem? (i := 38) rfl)), hat _ (List.mem_append_right _ (List.mem_of_getElem? (i := 39) rfl)), hat _ (List.mem_append_right _ (List.mem_of_getElem? (i := 40) rfl))⟩
    · exact ⟨rfl, hat _ (List.mem_append_right _ (List.mem_of_getElem? (i := 41) rfl)), hat _ (List.mem_append_right _ (List.mem_of_getElem? (i := 42) rfl)), hat _ (List.mem_append_right _ (List.mem_of_getElem? (i := 43) rfl))⟩
  have hsl : ∀ j, j < 8 → slx st (q0 h0 u) cI0 (R0 Zd) (pvQ u) j := by
    intro j hj
    rcases (show j = 0 ∨ j = 1 ∨ j = 2 ∨ j = 3 ∨ j = 4 ∨ j = 5 ∨ j = 6 ∨ j = 7 by omega) with rfl | rfl | rfl | rfl | rfl | rfl | rfl | rfl
    · exact ⟨rfl, hat _ (List.mem_append_right _ (List.mem_of_getElem? (i := 0) rfl))⟩
    · exact ⟨rfl, hat _ (List.mem_append_right _ (List.mem_of_getElem? (i := 1) rfl))⟩
    · exact ⟨rfl, hat _ (List.mem_append_right _ (List.mem_of_getElem? (i := 2) rfl))⟩
    · exact ⟨rfl, hat _ (List.mem_append_right _ (List.mem_of_getElem? (i := 3) rfl))⟩
    · exact ⟨rfl, hat _ (List.mem_append_right _ (List.mem_of_getElem? (i := 4) rfl))⟩
    · exact ⟨rfl, hat _ (List.mem_append_right _ (List.mem_of_getElem? (i := 5) rfl))⟩
    · exact ⟨rfl, hat _ (List.mem_append_right _ (List.mem_of_getElem? (i := 6) rfl))⟩
    · exact ⟨rfl, hat _ (List.mem_append_right _ (List.mem_of_getElem? (i := 7) rfl))⟩
  refine ⟨st, by rw [hst]; exact lk_w hd _, hs0, ⟨fun p hp => hat p (List.mem_append_left _ hp), hpg, hsl, hinj⟩, hw, ⟨rfl, rfl, by decide, by decide⟩, ⟨⟨rfl, rfl, rfl⟩, ⟨Or.inl rfl, by decide, by decide⟩, ⟨rfl, rfl, rfl, rfl⟩, fun k _ => Or.inl rfl, fun k hk9 => ?_, fun k _ => ⟨by show -1 ≤ (0 : Int32).toInt; decide, by show (0 : Int32).toInt < 12; decide⟩⟩, ?_, ?_, ?_, ⟨rfl, by decide, by decide, fun i hi => ?_⟩, ⟨rfl, by decide, by decide, by decide, by decide, by decide, fun i hi => ?_⟩, ⟨by decide, by decide, by decide, by decide, fun i => ⟨rfl, rfl, rfl⟩⟩, ?_⟩
  · rcases (show k = 0 ∨ k = 1 by omega) with rfl | rfl
    · exact ⟨by decide, by decide⟩
    · exact ⟨by decide, by decide⟩
  · intro j hj h hh
    have e : cA0 (10 + j) h = 0 := by
      unfold cA0
      rw [if_neg (show ¬ 10 + j = 3 by omega)]
    rw [e]
    exact ⟨rfl, by decide, by decide⟩
  · intro r hr h1
    rcases hr with ⟨k, hk9, rfl⟩ | ⟨k, hk9, h2, -⟩
    · exfalso
      revert h1
      rcases (show k = 0 ∨ k = 1 by omega) with rfl | rfl
      · decide
      · decide
    · exact absurd rfl h2
  · intro j hj i hi
    have e : pvQ u (10 + j) = fun _ => none := by
      unfold pvQ
      rw [if_neg (show ¬ 10 + j = 0 by omega), if_neg (show ¬ 10 + j = 4 by omega)]
    rw [e]
    rfl
  · exact absurd hi (by show ¬ ((i : Int) < (0 : Int32).toInt); have h9 : (0 : Int32).toInt = 0 := rfl; omega)
  · exact absurd hi (by show ¬ ((i : Int) < (0 : Int32).toInt); have h9 : (0 : Int32).toInt = 0 := rfl; omega)
  · intro a v fs h
    rcases cA_or h with ⟨h1, h2⟩ | ⟨h1, h2⟩
    · exact absurd h2 (hnot a h1 _)
    · obtain ⟨-, h3⟩ := hkz a h1 _ _ h2
      obtain ⟨hv, n, g, h4, h5, h6⟩ := h3 v fs rfl
      have hne : ∀ i, us i = true → v ≠ q0 h0 u i := fun i hi e => (hw.2 v hv).2 (by rw [e]; exact hwq i hi)
      exact ⟨hne 22 rfl, hne 23 rfl, hne 25 rfl, n, g, by rw [cA_k hw hv, h4], h5, h6⟩
