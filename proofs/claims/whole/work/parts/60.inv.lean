/-! Values: what the class's trees say, what the model's rows say. -/
/-- a text: its bytes, as the heap has them -/
def strOf (K : KE) (st : CS) (a : Nat) : Option (List Int32) := (cA K st a).bind fun e => match e with
  | .inr (.inr (12, .ref v :: .int 0 :: _)) => (cA K st v).bind fun e2 => match e2 with
    | .inl (2, n, g) => some ((List.range n).map g)
    | _ => none
  | _ => none
/-- a value's node: kind, how many nodes it has in all, number, characters, name -/
abbrev Nd : Type := Int32 × Nat × Int32 × List Int32 × List Int32
/-- a chain of parts, each by f; behind a part comes its next -/
def kidsOf (K : KE) (st : CS) (f : Nat → Option (List Nd)) : Nat → Option Nat → Option (List (List Nd))
  | _, none => some []
  | 0, some _ => none
  | n + 1, some a => (f a).bind fun x => (gQ K st a 11 5).bind fun r => (kidsOf K st f n r).bind fun xs => some (x :: xs)
/-- characters: at most ten bytes -/
abbrev okS (cs : List Int32) : Prop := cs.length ≤ 10 ∧ ∀ c ∈ cs, -128 ≤ c.toInt ∧ c.toInt ≤ 127
/-- the name of a part -/
def nmL (L : List Nd) : List Int32 := match L with
  | [] => []
  | x :: _ => x.2.2.2.2
/-- what every value keeps to -/
abbrev okV (o num : Int32) (cs ns : List Int32) (xs : List (List Nd)) : Prop := (o.toInt < 5 → xs = []) ∧ okS cs ∧ okS ns ∧ (-999999 ≤ num.toInt ∧ num.toInt ≤ 999999) ∧ (o = 6 → (xs.map nmL).Nodup)
/-- a value, in the order in which the model keeps it -/
def treeOf (Zd : Nat → Nat) (K : KE) (st : CS) : Nat → Nat → Option (List Nd)
  | 0, _ => none
  | d + 1, a => (gQ K st a 11 0).bind fun kd => kd.bind fun k => (ordK Zd k).bind fun o => (gI K st a 11 1).bind fun num => (gQ K st a 11 2).bind fun ch => ch.bind fun c => (strOf K st c).bind fun cs => (gQ K st a 11 3).bind fun nm => nm.bind fun n => (strOf K st n).bind fun ns => (gQ K st a 11 4).bind fun fst => (kidsOf K st (treeOf Zd K st d) 64 fst).bind fun xs => if okV o num cs ns xs ∧ (5 ≤ o.toInt → 0 < d) then some ((o, 1 + xs.flatten.length, num, cs, ns) :: xs.flatten) else none
/-- the model's packed texts: a letter more -/
def addE (x : Int64 × Int64) (c : Int32) : Int64 × Int64 :=
  ((if (7 : Int32) ≤ (x.1 >>> ((56 : Int32).toInt64 &&& 63)).toInt32 then x.1 else x.1 ||| (c.toInt64 <<< ((8 * (x.1 >>> ((56 : Int32).toInt64 &&& 63)).toInt32).toInt64 &&& 63))) + 72057594037927936, if (7 : Int32) ≤ (x.1 >>> ((56 : Int32).toInt64 &&& 63)).toInt32 then x.2 ||| (c.toInt64 <<< ((8 * ((x.1 >>> ((56 : Int32).toInt64 &&& 63)).toInt32 - 7)).toInt64 &&& 63)) else x.2)
def u8 (c : Int32) : Int32 := c &&& 255
def enc (cs : List Int32) : Int64 × Int64 := (cs.map u8).foldl addE (0, 0)
/-- what the model keeps of a node beside kind and span -/
def payA (x : Nd) : Int64 := if x.1 = 3 then x.2.2.1.toInt64 else if x.1 = 4 then (enc x.2.2.2.1).1 else 0
def payB (x : Nd) : Int64 := if x.1 = 4 then (enc x.2.2.2.1).2 else 0
/-- the model's row from base on holds the nodes L (the first one's name apart) -/
def rowIs (ms : MS) (base : Nat) (L : List Nd) : Prop := ∀ i x, L[i]? = some x → ms.2.2.1 1 (base + i) = x.1 ∧ ms.2.2.1 2 (base + i) = Int32.ofNat x.2.1 ∧ ms.2.2.2 0 (base + i) = payA x ∧ ms.2.2.2 1 (base + i) = payB x ∧ (0 < i → (ms.2.2.2 2 (base + i), ms.2.2.2 3 (base + i)) = enc x.2.2.2.2)
/-- a document or none -/
def docIs (Zd : Nat → Nat) (K : KE) (st : CS) (ms : MS) (base : Nat) (r : Option Nat) (there : Int32) : Prop := match r with
  | none => there = 0
  | some a => there = 1 ∧ ∃ L, treeOf Zd K st 5 a = some L ∧ rowIs ms base L ∧ L.length ≤ 24
