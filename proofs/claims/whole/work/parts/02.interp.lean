/-! THE SMALL MACHINE: an interpreter of the instructions that this claim's methods use, over numbers (ints and longs are Int), references are numbers of cells (0: null), the memory is a function. Part 04 ties it to the real machine, once; all that is said of the methods is said of it. -/
abbrev AV : Type := Int ⊕ (Int ⊕ Int)
abbrev Lo : Type := List (Option AV)
abbrev Mem : Type := Int → Int → Int
abbrev Sh : Type := List (Nat × Nat)
abbrev Ins : Type := Nat × Int × Int × Nat
abbrev Nx : Type := (Nat × Lo × List AV × Mem × Sh) ⊕ ((Nat × List AV × Nat × List AV) ⊕ AV)
abbrev vI (x : Int) : AV := .inl x
abbrev vL (x : Int) : AV := .inr (.inl x)
abbrev vR (x : Int) : AV := .inr (.inr x)
abbrev inR (x : Int) : Prop := -2147483648 ≤ x ∧ x < 2147483648
abbrev in64 (x : Int) : Prop := -9223372036854775808 ≤ x ∧ x < 9223372036854775808
theorem inR_iff (x : Int) : inR x ↔ (-2147483648 ≤ x ∧ x < 2147483648) := Iff.rfl
theorem in64_iff (x : Int) : in64 x ↔ (-9223372036854775808 ≤ x ∧ x < 9223372036854775808) := Iff.rfl
/-- an int of 32 bits -/
def wr32 (x : Int) : Int := (Int32.ofInt x).toInt
def and32 (x y : Int) : Int := (Int32.ofInt x &&& Int32.ofInt y).toInt
def or32 (x y : Int) : Int := (Int32.ofInt x ||| Int32.ofInt y).toInt
def and64 (x y : Int) : Int := (Int64.ofInt x &&& Int64.ofInt y).toInt
def or64 (x y : Int) : Int := (Int64.ofInt x ||| Int64.ofInt y).toInt
def upM (M : Mem) (k j v : Int) : Mem := fun a b => if a = k ∧ b = j then v else M a b
def zeM (M : Mem) (k : Int) : Mem := fun a b => if a = k then 0 else M a b
/-- how many words a value takes -/
def vw (v : AV) : Nat := match v with
  | .inr (.inl _) => 2
  | _ => 1
def isW (v : AV) : Bool := match v with
  | .inr (.inl _) => true
  | _ => false
def wsum : List AV → Nat
  | [] => 0
  | v :: l => vw v + wsum l
/-- no second half of a long at i -/
def okS (i : Nat) (ls : Lo) : Bool := Nat.blt i ls.length && (match i with
  | 0 => true
  | i + 1 => match ls[i]? with
    | some (some (.inr (.inl _))) => false
    | _ => true)
def cmpB (a : Int) (x y : Int) : Bool := if a = 0 then decide (x = y) else if a = 1 then !decide (x = y) else if a = 2 then decide (x < y) else if a = 3 then decide (y ≤ x) else if a = 4 then decide (y < x) else decide (x ≤ y)
/-- the String constants: as bytes -/
def strT : List (List Int) := [[115, 111, 117, 110, 100], [111, 112, 101, 110], [103, 108, 105, 100, 101], [119, 111, 114, 100], [99, 111, 115, 116], [114, 105, 115, 101], [99, 108, 111, 115, 101], [119, 101, 105, 103, 104], [115, 116, 114, 101, 115, 115], [104, 101, 108, 112], [109, 111, 118, 101], [112, 101, 97, 107], [98, 97, 114, 101], [115, 104, 117, 116], [114, 111, 117, 103, 104], [119, 105, 108, 100], [98, 117, 114, 115, 116], [99, 108, 97, 115, 104]]
def strB (i j : Int) : Int := (strT.getD i.toNat []).getD j.toNat 0
/-- kind and length of a cell: kinds 0 .. 12 an object of that one, 20 int[], 21 byte[], 22 boolean[], 23 long[], 24 rows, 25 long[][], 26 int[][]; below 0: 40 a String constant, 41 its bytes -/
def shA (sh : Sh) (k : Int) : Nat × Nat :=
  if 0 < k then sh.getD (k - 1).toNat (99, 0)
  else if -18 ≤ k ∧ k < 0 then (40, 0)
  else if -118 ≤ k ∧ k ≤ -101 then (41, (strT.getD (-101 - k).toNat []).length)
  else (99, 0)
/-- how many fields -/
def nF (a : Nat) : Nat := [5, 10, 18, 3, 5, 3, 7, 3, 5, 7, 3, 9, 88].getD a 0
def goN (pc : Nat) (ls : Lo) (st : List AV) (M : Mem) (sh : Sh) : Option Nx := some (.inl (pc, ls, st, M, sh))
def LAWN : Nat := 298
def exA (op : Nat) (a b : Int) (nx : Nat) (ls : Lo) (st : List AV) (M : Mem) (sh : Sh) : Option Nx :=
  match op with
  | 1 => goN nx ls (vI a :: st) M sh
  | 2 => goN nx ls (vL a :: st) M sh
  | 3 => goN nx ls (vR 0 :: st) M sh
  | 4 => goN nx ls (vR a :: st) M sh
  | 5 => match ls[a.toNat]? with
    | some (some (.inl x)) => goN nx ls (vI x :: st) M sh
    | _ => none
  | 6 => match ls[a.toNat]? with
    | some (some (.inr (.inl x))) => goN nx ls (vL x :: st) M sh
    | _ => none
  | 7 => match ls[a.toNat]? with
    | some (some (.inr (.inr x))) => goN nx ls (vR x :: st) M sh
    | _ => none
  | 8 => match st with
    | .inl x :: st => if okS a.toNat ls = true then goN nx (ls.set a.toNat (some (vI x))) st M sh else none
    | _ => none
  | 9 => match st with
    | .inr (.inl x) :: st => if okS a.toNat ls = true ∧ a.toNat + 1 < ls.length then goN nx ((ls.set a.toNat (some (vL x))).set (a.toNat + 1) none) st M sh else none
    | _ => none
  | 10 => match st with
    | .inr (.inr x) :: st => if okS a.toNat ls = true then goN nx (ls.set a.toNat (some (vR x))) st M sh else none
    | _ => none
  | 11 => match ls[a.toNat]? with
    | some (some (.inl x)) => if okS a.toNat ls = true then goN nx (ls.set a.toNat (some (vI (x + b)))) st M sh else none
    | _ => none
  | 12 => match st with
    | v :: st => if isW v = false then goN nx ls st M sh else none
    | _ => none
  | 13 => match st with
    | v :: st => if isW v = false then goN nx ls (v :: v :: st) M sh else none
    | _ => none
  | 14 => match st with
    | u :: v :: st => if isW u = false ∧ isW v = false then goN nx ls (u :: v :: u :: v :: st) M sh else none
    | _ => none
  | _ => none
def ex2 (op : Nat) (x y : Int) : Option AV :=
  match op with
  | 15 => some (vI (x + y))
  | 16 => some (vI (x - y))
  | 17 => some (vI (x * y))
  | 19 => if 0 < y ∧ -2147483648 ≤ x ∧ x < 2147483648 ∧ y < 2147483648 then some (vI (x.tmod y)) else none
  | 20 => some (vI (and32 x y))
  | 21 => some (vI (or32 x y))
  | 22 => if 0 ≤ y ∧ y < 32 then some (vI (x * 2 ^ y.toNat)) else none
  | 23 => if 0 ≤ y ∧ y < 32 ∧ -2147483648 ≤ x ∧ x < 2147483648 then some (vI (x / 2 ^ y.toNat)) else none
  | 24 => if 0 ≤ y ∧ y < 32 then some (vI (x % 4294967296 / 2 ^ y.toNat)) else none
  | _ => none
def exL (op : Nat) (x y : Int) : Option AV :=
  match op with
  | 25 => some (vL (x + y))
  | 26 => some (vL (x - y))
  | 27 => some (vL (x * y))
  | 28 => if 0 ≤ x ∧ x < 9223372036854775808 ∧ 0 < y ∧ y < 9223372036854775808 then some (vL (x / y)) else none
  | 29 => if 0 ≤ x ∧ x < 9223372036854775808 ∧ 0 < y ∧ y < 9223372036854775808 then some (vL (x % y)) else none
  | 30 => some (vL (and64 x y))
  | 31 => some (vL (or64 x y))
  | 34 => if in64 x ∧ in64 y then some (vI (if x < y then -1 else if x = y then 0 else 1)) else none
  | _ => none
def exLS (op : Nat) (x y : Int) : Option AV :=
  match op with
  | 32 => if 0 ≤ y ∧ y < 64 then some (vL (x * 2 ^ y.toNat)) else none
  | 33 => if 0 ≤ y ∧ y < 64 then some (vL (x % 18446744073709551616 / 2 ^ y.toNat)) else none
  | _ => none
def ex1 (op : Nat) (v : AV) : Option AV :=
  match op, v with
  | 18, .inl x => some (vI (-x))
  | 35, .inl x => some (vL (wr32 x))
  | 36, .inr (.inl x) => some (vI x)
  | 37, .inl x => some (vI ((x + 128) % 256 - 128))
  | 38, .inl x => some (vI (x % 65536))
  | _, _ => none
def exB (op : Nat) (nx : Nat) (ls : Lo) (st : List AV) (M : Mem) (sh : Sh) : Option Nx :=
  if op = 18 ∨ 35 ≤ op then match st with
    | v :: st => (ex1 op v).bind fun w => goN nx ls (w :: st) M sh
    | _ => none
  else if op ≤ 24 then match st with
    | .inl y :: .inl x :: st => (ex2 op x y).bind fun w => goN nx ls (w :: st) M sh
    | _ => none
  else if op = 32 ∨ op = 33 then match st with
    | .inl y :: .inr (.inl x) :: st => (exLS op x y).bind fun w => goN nx ls (w :: st) M sh
    | _ => none
  else match st with
    | .inr (.inl y) :: .inr (.inl x) :: st => (exL op x y).bind fun w => goN nx ls (w :: st) M sh
    | _ => none
def swL (x : Int) (d : Nat) : List (Int × Nat) → Nat
  | [] => d
  | (k, t) :: l => if x = k then t else swL x d l
def exC (sw : List (Int × Nat)) (op : Nat) (a b : Int) (nx : Nat) (ls : Lo) (st : List AV) (M : Mem) (sh : Sh) : Option Nx :=
  match op with
  | 40 => match st with
    | .inl x :: st => if inR x then goN (if cmpB a x 0 = true then b.toNat else nx) ls st M sh else none
    | _ => none
  | 41 => match st with
    | .inl y :: .inl x :: st => if inR x ∧ inR y then goN (if cmpB a x y = true then b.toNat else nx) ls st M sh else goN (if cmpB a (wr32 x) (wr32 y) = true then b.toNat else nx) ls st M sh
    | _ => none
  | 42 => match st with
    | .inr (.inr x) :: st => if x ≠ -1000 then goN (if x = 0 then b.toNat else nx) ls st M sh else none
    | _ => none
  | 43 => match st with
    | .inr (.inr x) :: st => if x ≠ -1000 then goN (if x = 0 then nx else b.toNat) ls st M sh else none
    | _ => none
  | 44 => goN b.toNat ls st M sh
  | 45 => match st with
    | .inl x :: st => if inR x then goN (swL x b.toNat sw) ls st M sh else none
    | _ => none
  | _ => none
def exD (y : Nat) (op : Nat) (a b : Int) (nx : Nat) (ls : Lo) (st : List AV) (M : Mem) (sh : Sh) : Option Nx :=
  match op with
  | 49 => goN nx ls (vR (-1000) :: st) M sh
  | 50 => match st with
    | .inr (.inr k) :: st => if 0 < k ∧ (shA sh k).1 = a.toNat then goN nx ls (vI (M k b) :: st) M sh else none
    | _ => none
  | 51 => match st with
    | .inr (.inr k) :: st => if 0 < k ∧ (shA sh k).1 = a.toNat then goN nx ls (vL (M k b) :: st) M sh else none
    | _ => none
  | 52 => match st with
    | .inr (.inr k) :: st => if 0 < k ∧ (shA sh k).1 = a.toNat then goN nx ls (vR (M k b) :: st) M sh else none
    | _ => none
  | 53 => match st with
    | .inl v :: .inr (.inr k) :: st => if 0 < k ∧ (shA sh k).1 = a.toNat then goN nx ls st (upM M k b v) sh else none
    | _ => none
  | 54 => match st with
    | .inr (.inl v) :: .inr (.inr k) :: st => if 0 < k ∧ (shA sh k).1 = a.toNat then goN nx ls st (upM M k b v) sh else none
    | _ => none
  | 55 => match st with
    | .inr (.inr v) :: .inr (.inr k) :: st => if 0 < k ∧ (shA sh k).1 = a.toNat ∧ 0 ≤ v then goN nx ls st (upM M k b v) sh else none
    | _ => none
  | 56 => match st with
    | .inl v :: .inr (.inr k) :: st => if 0 < k ∧ (shA sh k).1 = a.toNat ∧ (v = 0 ∨ v = 1) then goN nx ls st (upM M k b v) sh else none
    | _ => none
  | 57 => match st with
    | .inr (.inr k) :: st => if (shA sh k).1 = 40 then goN nx ls ((if a = 0 then vR (k - 100) else vI 0) :: st) M sh else none
    | _ => none
  | 58 => goN nx ls (vL a :: st) M sh
  | 59 => goN nx ls (vI a :: st) M sh
  | 60 => match st with
    | .inr (.inr k) :: st => if k = -2000 then (if y = LAWN then goN nx ls (vI (M k (-1)) :: st) M sh else none) else if 20 ≤ (shA sh k).1 ∧ (shA sh k).1 ≤ 41 ∧ (shA sh k).1 ≠ 40 then goN nx ls (vI (shA sh k).2 :: st) M sh else none
    | _ => none
  | 61 => match st with
    | .inl i :: .inr (.inr k) :: st => if k = -2000 then (if y = LAWN ∧ 0 ≤ i ∧ i < M k (-1) then goN nx ls (vI (M k i) :: st) M sh else none) else if (shA sh k).1 = 20 ∧ 0 ≤ i ∧ i < (shA sh k).2 then goN nx ls (vI (M k i) :: st) M sh else none
    | _ => none
  | 62 => match st with
    | .inl v :: .inl i :: .inr (.inr k) :: st => if (shA sh k).1 = 20 ∧ 0 ≤ i ∧ i < (shA sh k).2 then goN nx ls st (upM M k i v) sh else none
    | _ => none
  | 63 => match st with
    | .inl i :: .inr (.inr k) :: st => if ((shA sh k).1 = 21 ∨ (shA sh k).1 = 22) ∧ 0 ≤ i ∧ i < (shA sh k).2 then goN nx ls (vI (M k i) :: st) M sh
      else if (shA sh k).1 = 41 ∧ 0 ≤ i ∧ i < (shA sh k).2 then goN nx ls (vI (strB (-101 - k) i) :: st) M sh else none
    | _ => none
  | 64 => match st with
    | .inl v :: .inl i :: .inr (.inr k) :: st => if (((shA sh k).1 = 21 ∧ -128 ≤ v ∧ v < 128) ∨ ((shA sh k).1 = 22 ∧ 0 ≤ v ∧ v ≤ 1)) ∧ 0 ≤ i ∧ i < (shA sh k).2 then goN nx ls st (upM M k i v) sh else none
    | _ => none
  | 67 => match st with
    | .inl i :: .inr (.inr k) :: st => if (shA sh k).1 = 23 ∧ 0 ≤ i ∧ i < (shA sh k).2 then goN nx ls (vL (M k i) :: st) M sh else none
    | _ => none
  | 68 => match st with
    | .inr (.inl v) :: .inl i :: .inr (.inr k) :: st => if (shA sh k).1 = 23 ∧ 0 ≤ i ∧ i < (shA sh k).2 then goN nx ls st (upM M k i v) sh else none
    | _ => none
  | 69 => match st with
    | .inl i :: .inr (.inr k) :: st => if ((shA sh k).1 = 24 ∨ (shA sh k).1 = 25 ∨ (shA sh k).1 = 26) ∧ 0 ≤ i ∧ i < (shA sh k).2 then goN nx ls (vR (M k i) :: st) M sh else none
    | _ => none
  | 70 => match st with
    | .inr (.inr v) :: .inl i :: .inr (.inr k) :: st => if (shA sh k).1 = 24 ∧ 0 < v ∧ (shA sh v).1 = 5 ∧ 0 ≤ i ∧ i < (shA sh k).2 then goN nx ls st (upM M k i v) sh else none
    | _ => none
  | 71 => if a.toNat < 13 then goN nx ls (vR (sh.length + 1) :: st) (zeM M (sh.length + 1)) (sh ++ [(a.toNat, nF a.toNat)]) else none
  | 72 => match st with
    | .inl n :: st => if 20 ≤ a ∧ a ≤ 23 ∧ 0 ≤ n ∧ n ≤ 10000 then goN nx ls (vR (sh.length + 1) :: st) (zeM M (sh.length + 1)) (sh ++ [(a.toNat, n.toNat)]) else none
    | _ => none
  | 73 => match st with
    | .inl n :: st => if a = 24 ∧ 0 ≤ n ∧ n ≤ 10000 then goN nx ls (vR (sh.length + 1) :: st) (zeM M (sh.length + 1)) (sh ++ [(a.toNat, n.toNat)]) else none
    | _ => none
  | 74 => match st with
    | .inl k :: .inl n :: st => if ((a = 25 ∧ b = 23) ∨ (a = 26 ∧ b = 20)) ∧ 0 ≤ n ∧ n ≤ 100 ∧ 0 ≤ k ∧ k ≤ 10000 then
        goN nx ls (vR (sh.length + 1) :: st) (fun p j => if p = sh.length + 1 then (if 0 ≤ j ∧ j < n then sh.length + 2 + j else 0) else if sh.length + 1 < p ∧ p ≤ sh.length + 1 + n then 0 else M p j) (sh ++ (a.toNat, n.toNat) :: List.replicate n.toNat (b.toNat, k.toNat)) else none
    | _ => none
  | _ => none
def exE (clsOf : Nat → Nat) (op : Nat) (a b : Int) (nx : Nat) (ls : Lo) (st : List AV) (M : Mem) (sh : Sh) : Option Nx :=
  match op with
  | 80 => match st.drop b.toNat with
    | .inr (.inr r) :: rest => if b.toNat ≤ st.length ∧ (shA sh r).1 = clsOf a.toNat ∧ wsum rest ≤ 8 then some (.inr (.inl (a.toNat, vR r :: (st.take b.toNat).reverse, nx, rest))) else none
    | _ => none
  | 81 => match st.drop b.toNat with
    | .inr (.inr r) :: rest => if b.toNat ≤ st.length ∧ 0 < r ∧ (shA sh r).1 = clsOf a.toNat ∧ wsum rest ≤ 8 then some (.inr (.inl (a.toNat, vR r :: (st.take b.toNat).reverse, nx, rest))) else none
    | _ => none
  | 82 => if b.toNat ≤ st.length ∧ wsum (st.drop b.toNat) ≤ 8 then some (.inr (.inl (a.toNat, (st.take b.toNat).reverse, nx, st.drop b.toNat))) else none
  | 83 => match st with
    | .inr (.inr r) :: rest => if 0 < r ∧ wsum rest ≤ 8 then goN nx ls rest M sh else none
    | _ => none
  | 84 => match st with
    | .inl y :: .inl x :: st => if inR x ∧ inR y ∧ wsum st ≤ 8 then goN nx ls (vI (min x y) :: st) M sh else none
    | _ => none
  | 85 => match st with
    | .inl y :: .inl x :: st => if inR x ∧ inR y ∧ wsum st ≤ 8 then goN nx ls (vI (max x y) :: st) M sh else none
    | _ => none
  | 86 => match st with
    | .inl x :: st => if -2147483648 < x ∧ x < 2147483648 ∧ wsum st ≤ 8 then goN nx ls (vI (if x < 0 then -x else x) :: st) M sh else none
    | _ => none
  | 87 => match st with
    | .inl n :: .inl dp :: .inr (.inr kd) :: .inl sp :: .inr (.inr ks) :: st => if (shA sh ks).1 = 20 ∧ (shA sh kd).1 = 20 ∧ ks ≠ kd ∧ 0 ≤ n ∧ 0 ≤ sp ∧ 0 ≤ dp ∧ sp + n ≤ (shA sh ks).2 ∧ dp + n ≤ (shA sh kd).2 ∧ n ≤ 10000 ∧ sp ≤ 10000 ∧ dp ≤ 10000 ∧ wsum st ≤ 8 then
        goN nx ls st (fun p j => if p = kd ∧ dp ≤ j ∧ j < dp + n then M ks (sp + (j - dp)) else M p j) sh else none
    | _ => none
  | _ => none
def exR (op : Nat) (a : Int) (st : List AV) : Option AV :=
  match op, st with
  | 90, [] => some (vI 0)
  | 91, [.inl x] => if a = 1 ∨ (a = 2 ∧ 0 ≤ x ∧ x ≤ 1) ∨ (a = 5 ∧ -128 ≤ x ∧ x < 128) ∨ (a = 6 ∧ 0 ≤ x ∧ x < 65536) then some (vI x) else none
  | 92, [.inr (.inl x)] => some (vL x)
  | 93, [.inr (.inr x)] => if 0 ≤ x then some (vR x) else none
  | _, _ => none
/-- one instruction -/
def exStep (clsOf : Nat → Nat) (sw : List (Int × Nat)) (y : Nat) (i : Ins) (ls : Lo) (st : List AV) (M : Mem) (sh : Sh) : Option Nx :=
  if i.1 < 15 then exA i.1 i.2.1 i.2.2.1 i.2.2.2 ls st M sh
  else if i.1 < 40 then exB i.1 i.2.2.2 ls st M sh
  else if i.1 < 48 then exC sw i.1 i.2.1 i.2.2.1 i.2.2.2 ls st M sh
  else if i.1 < 80 then exD y i.1 i.2.1 i.2.2.1 i.2.2.2 ls st M sh
  else if i.1 < 90 then exE clsOf i.1 i.2.1 i.2.2.1 i.2.2.2 ls st M sh
  else (exR i.1 i.2.1 st).map fun v => .inr (.inr v)
