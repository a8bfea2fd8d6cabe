/-! Names: the classes, their fields; the words by pieces. -/
def r_0 : String := "PagedValues"
def f_0 : u_T := fun k => match k with
  | 0 => ("PagedValues", "text", "LPagedValues$Text;", true)
  | 1 => ("PagedValues", "parser", "LPagedValues$ValueParser;", true)
  | 2 => ("PagedValues", "patcher", "LPagedValues$Patcher;", true)
  | 3 => ("PagedValues", "asked", "LPagedValues$Query;", true)
  | 4 => ("PagedValues", "finder", "LPagedValues$Finder;", true)
  | 5 => ("PagedValues", "store", "LPagedValues$Store;", true)
  | _ => ("PagedValues", "written", "Ljava/lang/StringBuilder;", true)
def ft_0 : Nat → FieldType := fun k => match k with
  | 0 => (.object "PagedValues$Text")
  | 1 => (.object "PagedValues$ValueParser")
  | 2 => (.object "PagedValues$Patcher")
  | 3 => (.object "PagedValues$Query")
  | 4 => (.object "PagedValues$Finder")
  | 5 => (.object "PagedValues$Store")
  | _ => (.object "java/lang/StringBuilder")
theorem nm_0 : ∀ a, a < 7 → ∀ b, b < 7 → a ≠ b → (f_0 a).2.1 ≠ (f_0 b).2.1 := by decide +kernel
theorem ft_0_ok : ∀ k, k < 7 → parseFieldDescriptor (f_0 k).2.2.1 = some (ft_0 k) := by decide +kernel
def r_1 : String := "PagedValues$Text"
def f_1 : u_T := fun k => match k with
  | 0 => ("PagedValues$Text", "typed", "[C", true)
  | 1 => ("PagedValues$Text", "word", "Ljava/lang/StringBuilder;", true)
  | 2 => ("PagedValues$Text", "length", "I", false)
  | 3 => ("PagedValues$Text", "place", "I", false)
  | _ => ("PagedValues$Text", "fault", "I", false)
def ft_1 : Nat → FieldType := fun k => match k with
  | 0 => (.array .char)
  | 1 => (.object "java/lang/StringBuilder")
  | 2 => .int
  | 3 => .int
  | _ => .int
theorem nm_1 : ∀ a, a < 5 → ∀ b, b < 5 → a ≠ b → (f_1 a).2.1 ≠ (f_1 b).2.1 := by decide +kernel
theorem ft_1_ok : ∀ k, k < 5 → parseFieldDescriptor (f_1 k).2.2.1 = some (ft_1 k) := by decide +kernel
def r_2 : String := "java/lang/StringBuilder"
def f_2 : u_T := fun k => match k with
  | 0 => ("java/lang/AbstractStringBuilder", "value", "[B", false)
  | 1 => ("java/lang/AbstractStringBuilder", "coder", "B", false)
  | 2 => ("java/lang/AbstractStringBuilder", "maybeLatin1", "Z", false)
  | _ => ("java/lang/AbstractStringBuilder", "count", "I", false)
def ft_2 : Nat → FieldType := fun k => match k with
  | 0 => (.array .byte)
  | 1 => .byte
  | 2 => .boolean
  | _ => .int
theorem nm_2 : ∀ a, a < 4 → ∀ b, b < 4 → a ≠ b → (f_2 a).2.1 ≠ (f_2 b).2.1 := by decide +kernel
theorem ft_2_ok : ∀ k, k < 4 → parseFieldDescriptor (f_2 k).2.2.1 = some (ft_2 k) := by decide +kernel
def r_3 : String := "PagedValues$ValueParser"
def f_3 : u_T := fun k => match k with
  | _ => ("PagedValues$ValueParser", "values", "I", false)
def ft_3 : Nat → FieldType := fun k => match k with
  | _ => .int
theorem nm_3 : ∀ a, a < 1 → ∀ b, b < 1 → a ≠ b → (f_3 a).2.1 ≠ (f_3 b).2.1 := by decide +kernel
theorem ft_3_ok : ∀ k, k < 1 → parseFieldDescriptor (f_3 k).2.2.1 = some (ft_3 k) := by decide +kernel
def r_4 : String := "PagedValues$Patcher"
def f_4 : u_T := fun k => match k with
  | 0 => ("PagedValues$Patcher", "pointer", "LPagedValues$Pointer;", true)
  | _ => ("PagedValues$Patcher", "document", "LPagedValues$Value;", false)
def ft_4 : Nat → FieldType := fun k => match k with
  | 0 => (.object "PagedValues$Pointer")
  | _ => (.object "PagedValues$Value")
theorem nm_4 : ∀ a, a < 2 → ∀ b, b < 2 → a ≠ b → (f_4 a).2.1 ≠ (f_4 b).2.1 := by decide +kernel
theorem ft_4_ok : ∀ k, k < 2 → parseFieldDescriptor (f_4 k).2.2.1 = some (ft_4 k) := by decide +kernel
def r_5 : String := "PagedValues$Pointer"
def f_5 : u_T := fun k => match k with
  | _ => ("PagedValues$Pointer", "word", "Ljava/lang/StringBuilder;", true)
def ft_5 : Nat → FieldType := fun k => match k with
  | _ => (.object "java/lang/StringBuilder")
theorem nm_5 : ∀ a, a < 1 → ∀ b, b < 1 → a ≠ b → (f_5 a).2.1 ≠ (f_5 b).2.1 := by decide +kernel
theorem ft_5_ok : ∀ k, k < 1 → parseFieldDescriptor (f_5 k).2.2.1 = some (ft_5 k) := by decide +kernel
def r_6 : String := "PagedValues$Query"
def f_6 : u_T := fun k => match k with
  | 0 => ("PagedValues$Query", "selectors", "[LPagedValues$Selector;", true)
  | _ => ("PagedValues$Query", "count", "I", false)
def ft_6 : Nat → FieldType := fun k => match k with
  | 0 => (.array (.object "PagedValues$Selector"))
  | _ => .int
theorem nm_6 : ∀ a, a < 2 → ∀ b, b < 2 → a ≠ b → (f_6 a).2.1 ≠ (f_6 b).2.1 := by decide +kernel
theorem ft_6_ok : ∀ k, k < 2 → parseFieldDescriptor (f_6 k).2.2.1 = some (ft_6 k) := by decide +kernel
def r_7 : String := "PagedValues$Selector"
def f_7 : u_T := fun k => match k with
  | 0 => ("PagedValues$Selector", "opens", "Z", false)
  | 1 => ("PagedValues$Selector", "deep", "Z", false)
  | 2 => ("PagedValues$Selector", "pick", "I", false)
  | 3 => ("PagedValues$Selector", "name", "Ljava/lang/String;", false)
  | _ => ("PagedValues$Selector", "number", "I", false)
def ft_7 : Nat → FieldType := fun k => match k with
  | 0 => .boolean
  | 1 => .boolean
  | 2 => .int
  | 3 => (.object "java/lang/String")
  | _ => .int
theorem nm_7 : ∀ a, a < 5 → ∀ b, b < 5 → a ≠ b → (f_7 a).2.1 ≠ (f_7 b).2.1 := by decide +kernel
theorem ft_7_ok : ∀ k, k < 5 → parseFieldDescriptor (f_7 k).2.2.1 = some (ft_7 k) := by decide +kernel
def r_8 : String := "PagedValues$Finder"
def f_8 : u_T := fun k => match k with
  | 0 => ("PagedValues$Finder", "results", "[LPagedValues$Value;", true)
  | 1 => ("PagedValues$Finder", "ids", "[I", true)
  | 2 => ("PagedValues$Finder", "row", "[LPagedValues$Value;", true)
  | 3 => ("PagedValues$Finder", "nextRow", "[LPagedValues$Value;", true)
  | 4 => ("PagedValues$Finder", "count", "I", false)
  | 5 => ("PagedValues$Finder", "rowCount", "I", false)
  | 6 => ("PagedValues$Finder", "nextCount", "I", false)
  | _ => ("PagedValues$Finder", "tooMany", "Z", false)
def ft_8 : Nat → FieldType := fun k => match k with
  | 0 => (.array (.object "PagedValues$Value"))
  | 1 => (.array .int)
  | 2 => (.array (.object "PagedValues$Value"))
  | 3 => (.array (.object "PagedValues$Value"))
  | 4 => .int
  | 5 => .int
  | 6 => .int
  | _ => .boolean
theorem nm_8 : ∀ a, a < 8 → ∀ b, b < 8 → a ≠ b → (f_8 a).2.1 ≠ (f_8 b).2.1 := by decide +kernel
theorem ft_8_ok : ∀ k, k < 8 → parseFieldDescriptor (f_8 k).2.2.1 = some (ft_8 k) := by decide +kernel
def r_9 : String := "PagedValues$Store"
def f_9 : u_T := fun k => match k with
  | 0 => ("PagedValues$Store", "pages", "[LPagedValues$Page;", true)
  | 1 => ("PagedValues$Store", "metaNumber", "[I", true)
  | 2 => ("PagedValues$Store", "metaRoot", "[I", true)
  | 3 => ("PagedValues$Store", "readerOpen", "[Z", true)
  | 4 => ("PagedValues$Store", "readerRoot", "[I", true)
  | 5 => ("PagedValues$Store", "draft", "[LPagedValues$Value;", true)
  | 6 => ("PagedValues$Store", "blocks", "I", false)
  | 7 => ("PagedValues$Store", "blocksLeft", "I", false)
  | _ => ("PagedValues$Store", "stopped", "Z", false)
def ft_9 : Nat → FieldType := fun k => match k with
  | 0 => (.array (.object "PagedValues$Page"))
  | 1 => (.array .int)
  | 2 => (.array .int)
  | 3 => (.array .boolean)
  | 4 => (.array .int)
  | 5 => (.array (.object "PagedValues$Value"))
  | 6 => .int
  | 7 => .int
  | _ => .boolean
theorem nm_9 : ∀ a, a < 9 → ∀ b, b < 9 → a ≠ b → (f_9 a).2.1 ≠ (f_9 b).2.1 := by decide +kernel
theorem ft_9_ok : ∀ k, k < 9 → parseFieldDescriptor (f_9 k).2.2.1 = some (ft_9 k) := by decide +kernel
def r_10 : String := "PagedValues$Page"
def f_10 : u_T := fun k => match k with
  | 0 => ("PagedValues$Page", "documents", "[LPagedValues$Value;", true)
  | _ => ("PagedValues$Page", "leaves", "[I", true)
def ft_10 : Nat → FieldType := fun k => match k with
  | 0 => (.array (.object "PagedValues$Value"))
  | _ => (.array .int)
theorem nm_10 : ∀ a, a < 2 → ∀ b, b < 2 → a ≠ b → (f_10 a).2.1 ≠ (f_10 b).2.1 := by decide +kernel
theorem ft_10_ok : ∀ k, k < 2 → parseFieldDescriptor (f_10 k).2.2.1 = some (ft_10 k) := by decide +kernel
def r_11 : String := "PagedValues$Value"
def f_11 : u_T := fun k => match k with
  | 0 => ("PagedValues$Value", "kind", "LPagedValues$Kind;", true)
  | 1 => ("PagedValues$Value", "number", "I", true)
  | 2 => ("PagedValues$Value", "characters", "Ljava/lang/String;", true)
  | 3 => ("PagedValues$Value", "name", "Ljava/lang/String;", false)
  | 4 => ("PagedValues$Value", "first", "LPagedValues$Value;", false)
  | _ => ("PagedValues$Value", "next", "LPagedValues$Value;", false)
def ft_11 : Nat → FieldType := fun k => match k with
  | 0 => (.object "PagedValues$Kind")
  | 1 => .int
  | 2 => (.object "java/lang/String")
  | 3 => (.object "java/lang/String")
  | 4 => (.object "PagedValues$Value")
  | _ => (.object "PagedValues$Value")
theorem nm_11 : ∀ a, a < 6 → ∀ b, b < 6 → a ≠ b → (f_11 a).2.1 ≠ (f_11 b).2.1 := by decide +kernel
theorem ft_11_ok : ∀ k, k < 6 → parseFieldDescriptor (f_11 k).2.2.1 = some (ft_11 k) := by decide +kernel
def r_12 : String := "java/lang/String"
def f_12 : u_T := fun k => match k with
  | 0 => ("java/lang/String", "value", "[B", true)
  | 1 => ("java/lang/String", "coder", "B", true)
  | 2 => ("java/lang/String", "hash", "I", false)
  | _ => ("java/lang/String", "hashIsZero", "Z", false)
def ft_12 : Nat → FieldType := fun k => match k with
  | 0 => (.array .byte)
  | 1 => .byte
  | 2 => .int
  | _ => .boolean
theorem nm_12 : ∀ a, a < 4 → ∀ b, b < 4 → a ≠ b → (f_12 a).2.1 ≠ (f_12 b).2.1 := by decide +kernel
theorem ft_12_ok : ∀ k, k < 4 → parseFieldDescriptor (f_12 k).2.2.1 = some (ft_12 k) := by decide +kernel
def r_13 : String := "PagedValuesModel"
def f_13 : u_T := fun k => match k with
  | 0 => ("PagedValuesModel", "text", "[C", true)
  | 1 => ("PagedValuesModel", "length", "I", false)
  | 2 => ("PagedValuesModel", "p", "I", false)
  | 3 => ("PagedValuesModel", "bad", "I", false)
  | 4 => ("PagedValuesModel", "kind", "[B", true)
  | 5 => ("PagedValuesModel", "span", "[B", true)
  | 6 => ("PagedValuesModel", "a", "[J", true)
  | 7 => ("PagedValuesModel", "b", "[J", true)
  | 8 => ("PagedValuesModel", "nameA", "[J", true)
  | 9 => ("PagedValuesModel", "nameB", "[J", true)
  | 10 => ("PagedValuesModel", "nodes", "I", false)
  | 11 => ("PagedValuesModel", "strA", "J", false)
  | 12 => ("PagedValuesModel", "strB", "J", false)
  | 13 => ("PagedValuesModel", "level", "I", false)
  | 14 => ("PagedValuesModel", "holders", "[I", true)
  | 15 => ("PagedValuesModel", "segments", "I", false)
  | 16 => ("PagedValuesModel", "deep", "[Z", true)
  | 17 => ("PagedValuesModel", "segmentEnd", "[I", true)
  | 18 => ("PagedValuesModel", "selectors", "I", false)
  | 19 => ("PagedValuesModel", "sort", "[I", true)
  | 20 => ("PagedValuesModel", "selA", "[J", true)
  | 21 => ("PagedValuesModel", "selB", "[J", true)
  | 22 => ("PagedValuesModel", "selNumber", "[I", true)
  | 23 => ("PagedValuesModel", "found", "I", false)
  | 24 => ("PagedValuesModel", "from", "[I", true)
  | 25 => ("PagedValuesModel", "next", "I", false)
  | 26 => ("PagedValuesModel", "into", "[I", true)
  | 27 => ("PagedValuesModel", "many", "Z", false)
  | 28 => ("PagedValuesModel", "results", "I", false)
  | 29 => ("PagedValuesModel", "resultId", "[I", true)
  | 30 => ("PagedValuesModel", "outputs", "I", false)
  | 31 => ("PagedValuesModel", "out", "[C", true)
  | 32 => ("PagedValuesModel", "pageKind", "[I", true)
  | 33 => ("PagedValuesModel", "leafOf", "[I", true)
  | 34 => ("PagedValuesModel", "there", "[Z", true)
  | 35 => ("PagedValuesModel", "metaRoot", "[I", true)
  | 36 => ("PagedValuesModel", "metaNumber", "[I", true)
  | 37 => ("PagedValuesModel", "opened", "[Z", true)
  | 38 => ("PagedValuesModel", "readerRoot", "[I", true)
  | 39 => ("PagedValuesModel", "fuse", "I", false)
  | 40 => ("PagedValuesModel", "down", "Z", false)
  | _ => ("PagedValuesModel", "written", "I", false)
def ft_13 : Nat → FieldType := fun k => match k with
  | 0 => (.array .char)
  | 1 => .int
  | 2 => .int
  | 3 => .int
  | 4 => (.array .byte)
  | 5 => (.array .byte)
  | 6 => (.array .long)
  | 7 => (.array .long)
  | 8 => (.array .long)
  | 9 => (.array .long)
  | 10 => .int
  | 11 => .long
  | 12 => .long
  | 13 => .int
  | 14 => (.array .int)
  | 15 => .int
  | 16 => (.array .boolean)
  | 17 => (.array .int)
  | 18 => .int
  | 19 => (.array .int)
  | 20 => (.array .long)
  | 21 => (.array .long)
  | 22 => (.array .int)
  | 23 => .int
  | 24 => (.array .int)
  | 25 => .int
  | 26 => (.array .int)
  | 27 => .boolean
  | 28 => .int
  | 29 => (.array .int)
  | 30 => .int
  | 31 => (.array .char)
  | 32 => (.array .int)
  | 33 => (.array .int)
  | 34 => (.array .boolean)
  | 35 => (.array .int)
  | 36 => (.array .int)
  | 37 => (.array .boolean)
  | 38 => (.array .int)
  | 39 => .int
  | 40 => .boolean
  | _ => .int
theorem nm_13 : ∀ a, a < 42 → ∀ b, b < 42 → a ≠ b → (f_13 a).2.1 ≠ (f_13 b).2.1 := by decide +kernel
theorem ft_13_ok : ∀ k, k < 42 → parseFieldDescriptor (f_13 k).2.2.1 = some (ft_13 k) := by decide +kernel
abbrev vwCl : List vw_C := [(r_0, f_0, 7), (r_1, f_1, 5), (r_2, f_2, 4), (r_3, f_3, 1), (r_4, f_4, 2), (r_5, f_5, 1), (r_6, f_6, 2), (r_7, f_7, 5), (r_8, f_8, 8), (r_9, f_9, 9), (r_10, f_10, 2), (r_11, f_11, 6), (r_12, f_12, 4), (r_13, f_13, 42)]
abbrev TY (k : Nat → ClassId) : List (ClassId × FieldType) := [(k 0, .char), (k 1, .int), (k 2, .byte), (k 3, .boolean), (k 4, .long), (k 5, .object "PagedValues$Value"), (k 6, .object "PagedValues$Page"), (k 7, .object "PagedValues$Selector")]
/-! The base: one list of words for all methods (TB), nest words (NW), contracts in one form, calls and ends in that form. -/
def tb_ok (w : Cond) : Bool := (w.onTables && w.keeps) || (match w with | .arrayClass _ => true | _ => false)
theorem tb_ok_spec {w : Cond} (h : tb_ok w = true) : (w.onTables && w.keeps) = true ∨ ∃ ty, w = .arrayClass ty := by
  unfold tb_ok at h
  rw [Bool.or_eq_true] at h
  rcases h with h | h
  · exact Or.inl h
  · refine Or.inr ?_
    cases w <;> first | exact ⟨_, rfl⟩ | cases h
def TB : List Cond := lw_tbl.filter tb_ok
theorem tb_in {w : Cond} (i : Nat) (h : lw_tbl[i]? = some w) (hk : tb_ok w = true) : w ∈ TB := List.mem_filter.mpr ⟨List.mem_of_getElem? h, hk⟩
theorem tb_GI {x y : Cond} (hy : y ∈ TB) : GoodIn (x :: TB) (y :: TB) := by
  intro w hw
  have h1 : w ∈ TB := by
    rcases List.mem_cons.mp hw with h | h
    · rw [h]; exact hy
    · exact h
  exact ⟨List.mem_cons_of_mem _ h1, tb_ok_spec (List.mem_filter.mp h1).2⟩
def nw_is (w : Cond) : Bool := match w with
  | .fieldLinkNest _ _ _ _ _ _ => true
  | .methodLinkNest _ _ _ _ => true
  | _ => false
def NW : List Cond := lw_tbl.filter nw_is
theorem nw_in {w : Cond} (i : Nat) (h : lw_tbl[i]? = some w) (hk : nw_is w = true) : w ∈ NW := List.mem_filter.mpr ⟨List.mem_of_getElem? h, hk⟩
def nW (U : State) : Prop := ∀ w ∈ NW, va_Nw w U
theorem nW.warm {s U : State} (hW : s.WarmedH U.vm) (h : nW s) : nW U := by
  intro w hw
  have h1 := h w hw
  have h2 := (List.mem_filter.mp hw).2
  cases w <;> first | exact va_Nw.warmF hW h1 | exact va_Nw.warmM hW h1 | cases h2
theorem nW.same {u U : State} (hv : u.vm = U.vm) (h : nW u) : nW U := by
  intro w hw
  have h1 := h w hw
  have h2 := (List.mem_filter.mp hw).2
  cases w <;> first | exact va_Nw.same rfl hv h1 | cases h2
abbrev Gk : Type := va_G × (Nat → ClassId)

theorem tp_1 {w : Cond} (h : w ∈ tables_1_1) : w ∈ lw_tbl := List.mem_append_right _ (List.mem_append_left _ h)
theorem tk_1 {w : Cond} (i : Nat) (h : tables_1_1[i]? = some w) (hk : tb_ok w = true) : w ∈ TB := List.mem_filter.mpr ⟨tp_1 (List.mem_of_getElem? h), hk⟩
theorem tn_1 {w : Cond} (i : Nat) (h : tables_1_1[i]? = some w) (hk : nw_is w = true) : w ∈ NW := List.mem_filter.mpr ⟨tp_1 (List.mem_of_getElem? h), hk⟩
theorem tp_2 {w : Cond} (h : w ∈ tables_1_2) : w ∈ lw_tbl := List.mem_append_right _ (List.mem_append_right _ (List.mem_append_left _ h))
theorem tk_2 {w : Cond} (i : Nat) (h : tables_1_2[i]? = some w) (hk : tb_ok w = true) : w ∈ TB := List.mem_filter.mpr ⟨tp_2 (List.mem_of_getElem? h), hk⟩
theorem tn_2 {w : Cond} (i : Nat) (h : tables_1_2[i]? = some w) (hk : nw_is w = true) : w ∈ NW := List.mem_filter.mpr ⟨tp_2 (List.mem_of_getElem? h), hk⟩
theorem tp_3 {w : Cond} (h : w ∈ tables_1_3) : w ∈ lw_tbl := List.mem_append_right _ (List.mem_append_right _ (List.mem_append_right _ (List.mem_append_left _ h)))
theorem tk_3 {w : Cond} (i : Nat) (h : tables_1_3[i]? = some w) (hk : tb_ok w = true) : w ∈ TB := List.mem_filter.mpr ⟨tp_3 (List.mem_of_getElem? h), hk⟩
theorem tn_3 {w : Cond} (i : Nat) (h : tables_1_3[i]? = some w) (hk : nw_is w = true) : w ∈ NW := List.mem_filter.mpr ⟨tp_3 (List.mem_of_getElem? h), hk⟩
theorem tp_4 {w : Cond} (h : w ∈ tables_1_4) : w ∈ lw_tbl := List.mem_append_right _ (List.mem_append_right _ (List.mem_append_right _ (List.mem_append_right _ (List.mem_append_left _ h))))
theorem tk_4 {w : Cond} (i : Nat) (h : tables_1_4[i]? = some w) (hk : tb_ok w = true) : w ∈ TB := List.mem_filter.mpr ⟨tp_4 (List.mem_of_getElem? h), hk⟩
theorem tn_4 {w : Cond} (i : Nat) (h : tables_1_4[i]? = some w) (hk : nw_is w = true) : w ∈ NW := List.mem_filter.mpr ⟨tp_4 (List.mem_of_getElem? h), hk⟩
theorem tp_5 {w : Cond} (h : w ∈ tables_1_5) : w ∈ lw_tbl := List.mem_append_right _ (List.mem_append_right _ (List.mem_append_right _ (List.mem_append_right _ (List.mem_append_right _ (List.mem_append_left _ h)))))
theorem tk_5 {w : Cond} (i : Nat) (h : tables_1_5[i]? = some w) (hk : tb_ok w = true) : w ∈ TB := List.mem_filter.mpr ⟨tp_5 (List.mem_of_getElem? h), hk⟩
theorem tn_5 {w : Cond} (i : Nat) (h : tables_1_5[i]? = some w) (hk : nw_is w = true) : w ∈ NW := List.mem_filter.mpr ⟨tp_5 (List.mem_of_getElem? h), hk⟩
theorem tp_6 {w : Cond} (h : w ∈ tables_1_6) : w ∈ lw_tbl := List.mem_append_right _ (List.mem_append_right _ (List.mem_append_right _ (List.mem_append_right _ (List.mem_append_right _ (List.mem_append_right _ (List.mem_append_left _ h))))))
theorem tk_6 {w : Cond} (i : Nat) (h : tables_1_6[i]? = some w) (hk : tb_ok w = true) : w ∈ TB := List.mem_filter.mpr ⟨tp_6 (List.mem_of_getElem? h), hk⟩
theorem tn_6 {w : Cond} (i : Nat) (h : tables_1_6[i]? = some w) (hk : nw_is w = true) : w ∈ NW := List.mem_filter.mpr ⟨tp_6 (List.mem_of_getElem? h), hk⟩
theorem tp_7 {w : Cond} (h : w ∈ tables_1_7) : w ∈ lw_tbl := List.mem_append_right _ (List.mem_append_right _ (List.mem_append_right _ (List.mem_append_right _ (List.mem_append_right _ (List.mem_append_right _ (List.mem_append_right _ (h)))))))
theorem tk_7 {w : Cond} (i : Nat) (h : tables_1_7[i]? = some w) (hk : tb_ok w = true) : w ∈ TB := List.mem_filter.mpr ⟨tp_7 (List.mem_of_getElem? h), hk⟩
theorem tn_7 {w : Cond} (i : Nat) (h : tables_1_7[i]? = some w) (hk : nw_is w = true) : w ∈ NW := List.mem_filter.mpr ⟨tp_7 (List.mem_of_getElem? h), hk⟩
theorem ly_0 : ∀ w ∈ u_ws r_0 f_0 7, w ∈ TB := List.forall_mem_cons.mpr ⟨tk_2 37 rfl rfl, List.forall_mem_cons.mpr ⟨tk_2 39 rfl rfl, List.forall_mem_cons.mpr ⟨tk_2 41 rfl rfl, List.forall_mem_cons.mpr ⟨tk_2 43 rfl rfl, List.forall_mem_cons.mpr ⟨tk_2 45 rfl rfl, List.forall_mem_cons.mpr ⟨tk_2 47 rfl rfl, List.forall_mem_cons.mpr ⟨tk_2 49 rfl rfl, fun _ h => absurd h List.not_mem_nil⟩⟩⟩⟩⟩⟩⟩
theorem ly_1 : ∀ w ∈ u_ws r_1 f_1 5, w ∈ TB := List.forall_mem_cons.mpr ⟨tk_1 83 rfl rfl, List.forall_mem_cons.mpr ⟨tk_1 85 rfl rfl, List.forall_mem_cons.mpr ⟨tk_1 87 rfl rfl, List.forall_mem_cons.mpr ⟨tk_1 89 rfl rfl, List.forall_mem_cons.mpr ⟨tk_1 91 rfl rfl, fun _ h => absurd h List.not_mem_nil⟩⟩⟩⟩⟩
theorem ly_2 : ∀ w ∈ u_ws r_2 f_2 4, w ∈ TB := List.forall_mem_cons.mpr ⟨tk_1 64 rfl rfl, List.forall_mem_cons.mpr ⟨tk_1 66 rfl rfl, List.forall_mem_cons.mpr ⟨tk_1 68 rfl rfl, List.forall_mem_cons.mpr ⟨tk_1 70 rfl rfl, fun _ h => absurd h List.not_mem_nil⟩⟩⟩⟩
theorem ly_3 : ∀ w ∈ u_ws r_3 f_3 1, w ∈ TB := List.forall_mem_cons.mpr ⟨tk_1 101 rfl rfl, fun _ h => absurd h List.not_mem_nil⟩
theorem ly_4 : ∀ w ∈ u_ws r_4 f_4 2, w ∈ TB := List.forall_mem_cons.mpr ⟨tk_1 125 rfl rfl, List.forall_mem_cons.mpr ⟨tk_1 127 rfl rfl, fun _ h => absurd h List.not_mem_nil⟩⟩
theorem ly_5 : ∀ w ∈ u_ws r_5 f_5 1, w ∈ TB := List.forall_mem_cons.mpr ⟨tk_1 119 rfl rfl, fun _ h => absurd h List.not_mem_nil⟩
theorem ly_6 : ∀ w ∈ u_ws r_6 f_6 2, w ∈ TB := List.forall_mem_cons.mpr ⟨tk_1 170 rfl rfl, List.forall_mem_cons.mpr ⟨tk_1 172 rfl rfl, fun _ h => absurd h List.not_mem_nil⟩⟩
theorem ly_7 : ∀ w ∈ u_ws r_7 f_7 5, w ∈ TB := List.forall_mem_cons.mpr ⟨tk_1 155 rfl rfl, List.forall_mem_cons.mpr ⟨tk_1 157 rfl rfl, List.forall_mem_cons.mpr ⟨tk_1 159 rfl rfl, List.forall_mem_cons.mpr ⟨tk_1 161 rfl rfl, List.forall_mem_cons.mpr ⟨tk_1 163 rfl rfl, fun _ h => absurd h List.not_mem_nil⟩⟩⟩⟩⟩
theorem ly_8 : ∀ w ∈ u_ws r_8 f_8 8, w ∈ TB := List.forall_mem_cons.mpr ⟨tk_1 193 rfl rfl, List.forall_mem_cons.mpr ⟨tk_1 195 rfl rfl, List.forall_mem_cons.mpr ⟨tk_1 197 rfl rfl, List.forall_mem_cons.mpr ⟨tk_1 199 rfl rfl, List.forall_mem_cons.mpr ⟨tk_1 201 rfl rfl, List.forall_mem_cons.mpr ⟨tk_1 203 rfl rfl, List.forall_mem_cons.mpr ⟨tk_1 205 rfl rfl, List.forall_mem_cons.mpr ⟨tk_1 207 rfl rfl, fun _ h => absurd h List.not_mem_nil⟩⟩⟩⟩⟩⟩⟩⟩
theorem ly_9 : ∀ w ∈ u_ws r_9 f_9 9, w ∈ TB := List.forall_mem_cons.mpr ⟨tk_2 9 rfl rfl, List.forall_mem_cons.mpr ⟨tk_2 11 rfl rfl, List.forall_mem_cons.mpr ⟨tk_2 13 rfl rfl, List.forall_mem_cons.mpr ⟨tk_2 15 rfl rfl, List.forall_mem_cons.mpr ⟨tk_2 17 rfl rfl, List.forall_mem_cons.mpr ⟨tk_2 19 rfl rfl, List.forall_mem_cons.mpr ⟨tk_2 21 rfl rfl, List.forall_mem_cons.mpr ⟨tk_2 23 rfl rfl, List.forall_mem_cons.mpr ⟨tk_2 25 rfl rfl, fun _ h => absurd h List.not_mem_nil⟩⟩⟩⟩⟩⟩⟩⟩⟩
theorem ly_10 : ∀ w ∈ u_ws r_10 f_10 2, w ∈ TB := List.forall_mem_cons.mpr ⟨tk_1 230 rfl rfl, List.forall_mem_cons.mpr ⟨tk_1 232 rfl rfl, fun _ h => absurd h List.not_mem_nil⟩⟩
theorem ly_11 : ∀ w ∈ u_ws r_11 f_11 6, w ∈ TB := List.forall_mem_cons.mpr ⟨tk_2 124 rfl rfl, List.forall_mem_cons.mpr ⟨tk_2 126 rfl rfl, List.forall_mem_cons.mpr ⟨tk_2 128 rfl rfl, List.forall_mem_cons.mpr ⟨tk_2 130 rfl rfl, List.forall_mem_cons.mpr ⟨tk_2 132 rfl rfl, List.forall_mem_cons.mpr ⟨tk_2 134 rfl rfl, fun _ h => absurd h List.not_mem_nil⟩⟩⟩⟩⟩⟩
theorem ly_12 : ∀ w ∈ u_ws r_12 f_12 4, w ∈ TB := List.forall_mem_cons.mpr ⟨tk_3 49 rfl rfl, List.forall_mem_cons.mpr ⟨tk_3 51 rfl rfl, List.forall_mem_cons.mpr ⟨tk_3 53 rfl rfl, List.forall_mem_cons.mpr ⟨tk_3 55 rfl rfl, fun _ h => absurd h List.not_mem_nil⟩⟩⟩⟩
theorem ly_13 : ∀ w ∈ u_ws r_13 f_13 42, w ∈ TB := List.forall_mem_cons.mpr ⟨tk_5 233 rfl rfl, List.forall_mem_cons.mpr ⟨tk_5 235 rfl rfl, List.forall_mem_cons.mpr ⟨tk_5 237 rfl rfl, List.forall_mem_cons.mpr ⟨tk_5 239 rfl rfl, List.forall_mem_cons.mpr ⟨tk_6 1 rfl rfl, List.forall_mem_cons.mpr ⟨tk_6 3 rfl rfl, List.forall_mem_cons.mpr ⟨tk_6 5 rfl rfl, List.forall_mem_cons.mpr ⟨tk_6 7 rfl rfl, List.forall_mem_cons.mpr ⟨tk_6 9 rfl rfl, List.forall_mem_cons.mpr ⟨tk_6 11 rfl rfl, List.forall_mem_cons.mpr ⟨tk_6 13 rfl rfl, List.forall_mem_cons.mpr ⟨tk_6 15 rfl rfl, List.forall_mem_cons.mpr ⟨tk_6 17 rfl rfl, List.forall_mem_cons.mpr ⟨tk_6 19 rfl rfl, List.forall_mem_cons.mpr ⟨tk_6 21 rfl rfl, List.forall_mem_cons.mpr ⟨tk_6 23 rfl rfl, List.forall_mem_cons.mpr ⟨tk_6 25 rfl rfl, List.forall_mem_cons.mpr ⟨tk_6 27 rfl rfl, List.forall_mem_cons.mpr ⟨tk_6 29 rfl rfl, List.forall_mem_cons.mpr ⟨tk_6 31 rfl rfl, List.forall_mem_cons.mpr ⟨tk_6 33 rfl rfl, List.forall_mem_cons.mpr ⟨tk_6 35 rfl rfl, List.forall_mem_cons.mpr ⟨tk_6 37 rfl rfl, List.forall_mem_cons.mpr ⟨tk_6 39 rfl rfl, List.forall_mem_cons.mpr ⟨tk_6 41 rfl rfl, List.forall_mem_cons.mpr ⟨tk_6 43 rfl rfl, List.forall_mem_cons.mpr ⟨tk_6 45 rfl rfl, List.forall_mem_cons.mpr ⟨tk_6 47 rfl rfl, List.forall_mem_cons.mpr ⟨tk_6 49 rfl rfl, List.forall_mem_cons.mpr ⟨tk_6 51 rfl rfl, List.forall_mem_cons.mpr ⟨tk_6 53 rfl rfl, List.forall_mem_cons.mpr ⟨tk_6 55 rfl rfl, List.forall_mem_cons.mpr ⟨tk_6 57 rfl rfl, List.forall_mem_cons.mpr ⟨tk_6 59 rfl rfl, List.forall_mem_cons.mpr ⟨tk_6 61 rfl rfl, List.forall_mem_cons.mpr ⟨tk_6 63 rfl rfl, List.forall_mem_cons.mpr ⟨tk_6 65 rfl rfl, List.forall_mem_cons.mpr ⟨tk_6 67 rfl rfl, List.forall_mem_cons.mpr ⟨tk_6 69 rfl rfl, List.forall_mem_cons.mpr ⟨tk_6 71 rfl rfl, List.forall_mem_cons.mpr ⟨tk_6 73 rfl rfl, List.forall_mem_cons.mpr ⟨tk_6 75 rfl rfl, fun _ h => absurd h List.not_mem_nil⟩⟩⟩⟩⟩⟩⟩⟩⟩⟩⟩⟩⟩⟩⟩⟩⟩⟩⟩⟩⟩⟩⟩⟩⟩⟩⟩⟩⟩⟩⟩⟩⟩⟩⟩⟩⟩⟩⟩⟩⟩⟩
