/-! The room by what is there: behind a call the count of cells and slots may be set to what the heap has. -/
def tot (H : Heap) : Nat := (H.toList.map (fun c => c.slots.size)).sum
theorem tot_take {s : State} {H : Heap} (hz : s.heap.size ≤ H.size) (h : ∀ (a : Addr) (c : Cell), s.heap[a]? = some c → ∃ c' : Cell, H[a]? = some c' ∧ c'.slots.size = c.slots.size) : ((H.toList.take s.heap.size).map (fun c => c.slots.size)).sum = tot s.heap := by
  unfold tot
  congr 1
  apply List.ext_getElem?
  intro i
  rw [List.getElem?_map, List.getElem?_map]
  by_cases hi : i < s.heap.size
  · rw [List.getElem?_take_of_lt hi, Array.getElem?_toList, Array.getElem?_toList]
    have h1 : s.heap[i]? = some s.heap[i] := Array.getElem?_eq_getElem hi
    obtain ⟨c', h2, h3⟩ := h i _ h1
    rw [h1, h2]
    simp [h3]
  · rw [List.getElem?_eq_none (by simp; omega), List.getElem?_eq_none (by simp; omega)]
theorem tot_split {s : State} {H : Heap} (hz : s.heap.size ≤ H.size) (h : ∀ (a : Addr) (c : Cell), s.heap[a]? = some c → ∃ c' : Cell, H[a]? = some c' ∧ c'.slots.size = c.slots.size) : tot H = tot s.heap + ((H.toList.drop s.heap.size).map (fun c => c.slots.size)).sum := by
  rw [← tot_take hz h]
  unfold tot
  rw [← List.sum_append, ← List.map_append, List.take_append_drop]
theorem W.tight {p : Program} {l : Launch} {e : Env} {R : Room} {s : State} {m : MethodId} {args : Array Value} {below : List Frame} {meth : Method} {c : Code} {H : Heap} {locs : List Loc} {cells slots : Nat} {Q : State → Prop} {g : JFrame} (k n : Nat) (hc : H.size ≤ s.heap.size + k) (hs : tot H ≤ tot s.heap + n) (kk : W p l e R s m args below meth c H locs k n Q g) : W p l e R s m args below meth c H locs cells slots Q g := by
  intro T hT X
  refine kk T hT { X with same := ?_ }
  obtain ⟨h1, h2, h3, h4, h5, h6⟩ := X.same
  have hh : (T.setVm s.vm).heap = H := hT
  have hsp := tot_split (s := s) (H := H) (by rw [← hh]; exact h2) (fun a c hc => by
    obtain ⟨c', g1, g2, g3, -⟩ := h6 a c hc
    exact ⟨c', by rw [← hh]; exact g1, g3⟩)
  refine ⟨h1, h2, by rw [hh]; exact hc, h4, ?_, h6⟩
  rw [hh]
  show ((H.toList.drop s.heap.size).map (fun c => c.slots.size)).sum ≤ n
  omega
theorem tot_push (H : Heap) (x : Cell) : tot (H.push x) = tot H + x.slots.size := by
  unfold tot
  simp
theorem tot_same {H H1 : Heap} {a k : Nat} {v : Value} {cell : Cell} (hz : H1.size = H.size) (hc : H[a]? = some cell) (h1 : H1[a]? = some (cell.setSlot k v)) (ho : ∀ q : Nat, q ≠ a → H1[q]? = H[q]?) : tot H1 = tot H := by
  unfold tot
  congr 1
  apply List.ext_getElem?
  intro i
  rw [List.getElem?_map, List.getElem?_map, Array.getElem?_toList, Array.getElem?_toList]
  by_cases hi : i = a
  · subst hi
    rw [hc, h1]
    simp [Cell.setSlot]
  · rw [ho i hi]
theorem tot_new {H H1 : Heap} {x : Cell} (hz : H1.size = H.size + 1) (h1 : H1[H.size]? = some x) (ho : ∀ q : Nat, q < H.size → H1[q]? = H[q]?) : tot H1 = tot H + x.slots.size := by
  have he : H1 = H.push x := by
    apply Array.ext_getElem?
    intro i
    rw [Array.getElem?_push]
    by_cases hi : i = H.size
    · subst hi
      rw [if_pos rfl]
      exact h1
    · rw [if_neg hi]
      by_cases hl : i < H.size
      · exact ho i hl
      · rw [Array.getElem?_eq_none (by omega), Array.getElem?_eq_none (by omega)]
  rw [he]
  exact tot_push H x
