/-! a machine of small steps over whole numbers: what the bytecode does, as a function -/
abbrev zV : Type := Nat × Int
abbrev zI (x : Int) : zV := (0, x)
abbrev zL (x : Int) : zV := (1, x)
abbrev zR (x : Int) : zV := (2, x)
abbrev zJ : zV := (3, 0)
abbrev zO : zV := (4, 0)
/-- the script's length; the shapes of our cells in the order of their making; what all cells hold -/
abbrev zHp : Type := Nat × List (Nat × Nat) × (Int → Int → Int)
def w32 (x : Int) : Int := Int.bmod x 4294967296
def w64 (x : Int) : Int := Int.bmod x 18446744073709551616
def zand (x y : Int) : Int := (Int32.ofInt x &&& Int32.ofInt y).toInt
def zor (x y : Int) : Int := (Int32.ofInt x ||| Int32.ofInt y).toInt
def zshl (x y : Int) : Int := (Int32.ofInt x <<< (Int32.ofInt y &&& 31)).toInt
def zshr (x y : Int) : Int := (Int32.ofInt x >>> (Int32.ofInt y &&& 31)).toInt
def zushr (x y : Int) : Int := ((Int32.ofInt x).toUInt32 >>> ((Int32.ofInt y).toUInt32 &&& Int32.toUInt32 31)).toInt32.toInt
def zandL (x y : Int) : Int := (Int64.ofInt x &&& Int64.ofInt y).toInt
def zorL (x y : Int) : Int := (Int64.ofInt x ||| Int64.ofInt y).toInt
def zshlL (x y : Int) : Int := (Int64.ofInt x <<< ((Int32.ofInt y).toInt64 &&& 63)).toInt
def zushrL (x y : Int) : Int := ((Int64.ofInt x).toUInt64 >>> ((Int32.ofInt y).toInt64.toUInt64 &&& Int64.toUInt64 63)).toInt64.toInt
def zIar (op : Nat) (x y : Int) : Option Int := match op with
  | 0 => some (w32 (x + y))
  | 1 => some (w32 (x - y))
  | 2 => some (w32 (x * y))
  | 3 => some (zand x y)
  | 4 => some (zor x y)
  | 6 => if y = 0 then none else some (w32 (Int.tdiv x y))
  | 7 => if y = 0 then none else some (Int.tmod x y)
  | 8 => some (zshl x y)
  | 9 => some (zshr x y)
  | 10 => some (zushr x y)
  | _ => none
def zLar (op : Nat) (x y : Int) : Option Int := match op with
  | 0 => some (w64 (x + y))
  | 1 => some (w64 (x - y))
  | 2 => some (w64 (x * y))
  | 3 => some (zandL x y)
  | 4 => some (zorL x y)
  | 6 => if y = 0 then none else some (w64 (Int.tdiv x y))
  | 7 => if y = 0 then none else some (Int.tmod x y)
  | _ => none
def zcmp (x y : Int) : Int := if y < x then 1 else if x = y then 0 else -1
def zcond (op : Nat) (x y : Int) : Bool := match op with
  | 0 => decide (x = y)
  | 1 => decide (¬ x = y)
  | 2 => decide (x < y)
  | 3 => decide (y ≤ x)
  | 4 => decide (y < x)
  | _ => decide (x ≤ y)
def zstrs : List (List Int) := [[114, 111, 119], [98, 111, 117, 110, 100], [115, 116, 101, 112, 115], [108, 97, 119], [112, 108, 97, 105, 110], [117, 110, 105, 116, 97, 114, 121], [114, 101, 100, 117, 99, 101, 100], [98, 97, 114, 101], [108, 97, 119, 32], [59, 98, 111, 117, 110, 100, 32], [59, 115, 116, 101, 112, 115, 32], [114, 111, 119, 32]]
def zF (L : Nat) (a : Int) : Option (Nat × Nat) := if a = 0 then some (100, L) else if a = 1 then some (100, 168) else if a < 10 then some (90, 2) else if a < 18 then some (91, (zstrs.getD (a - 10).toNat []).length) else if a < 22 then some (90, 2) else if a < 26 then some (91, (zstrs.getD (a - 14).toNat []).length) else if a = 26 then some (92, 4) else if a < 29 then some (93, 100) else none
def zsh (S : zHp) (a : Int) : Option (Nat × Nat) := if a < 0 then none else if a < 32 then zF S.1 a else S.2.1[(a - 32).toNat]?
def zup (H : Int → Int → Int) (a j x : Int) : Int → Int → Int := fun a' j' => if a' = a ∧ j' = j then x else H a' j'
def znew (H : Int → Int → Int) (a : Int) (f : Int → Int) : Int → Int → Int := fun a' j' => if a' = a then f j' else H a' j'
/-- a byte's range -/
def zb8 (x : Int) : Bool := decide (-128 ≤ x) && decide (x ≤ 127)
/-- n places from p on in b are those of f -/
def zcpy (H : Int → Int → Int) (b p n : Int) (f : Int → Int) : Int → Int → Int := fun a' j' => if a' = b ∧ p ≤ j' ∧ j' < p + n then f (j' - p) else H a' j'
/-- the kind of a field: 0 int, 1 long, 2 a reference, 3 boolean, 4 byte -/
def zkind : FieldType → Nat
  | .int => 0
  | .long => 1
  | .boolean => 3
  | .byte => 4
  | _ => 2
def ztys : List (Nat → FieldType) := [tyX0, tyX1, tyX2, tyX3, tyX4, tyX5, tyX6, tyX7]
def zft (ci k : Nat) : Nat := zkind ((ztys.getD ci tyX0) k)
def ztag (ft : Nat) (x : Int) : zV := match ft with
  | 0 => (0, x)
  | 1 => (1, x)
  | 2 => (2, x)
  | _ => (0, x)
def zbool (x : Int) : Bool := decide (x = 0) || decide (x = 1)
def zi8 (x : Int) : Int := (Int32.ofInt x).toInt8.toInt32.toInt
def zcat (v : zV) : Nat := if v.1 = 1 then 2 else 1
def zkill (ls : List zV) (i : Nat) : List zV := match i with
  | 0 => ls
  | k + 1 => if (ls.getD k zJ).1 = 1 then ls.set k zJ else ls
def zset1 (ls : List zV) (i : Nat) (v : zV) : List zV := (zkill ls i).set i v
def zset2 (ls : List zV) (i : Nat) (v : zV) : List zV := ((zkill ls i).set i v).set (i + 1) zJ
abbrev zNx : Type := Nat × List zV × List zV × zHp
abbrev zSem : Type := zC → Nat → List zV → List zV → zHp → Option zNx
def zs_iconst : zSem := fun i pc ls st S => some (pc + i.2.1, ls, zI i.2.2.2.2.1 :: st, S)
def zs_lconst : zSem := fun i pc ls st S => some (pc + i.2.1, ls, zL i.2.2.2.2.1 :: st, S)
def zs_iload : zSem := fun i pc ls st S => match ls[i.2.2.1]? with
  | some (0, x) => some (pc + i.2.1, ls, zI x :: st, S)
  | _ => none
def zs_lload : zSem := fun i pc ls st S => match ls[i.2.2.1]? with
  | some (1, x) => some (pc + i.2.1, ls, zL x :: st, S)
  | _ => none
def zs_aload : zSem := fun i pc ls st S => match ls[i.2.2.1]? with
  | some (2, x) => if x < 0 then none else some (pc + i.2.1, ls, zR x :: st, S)
  | some (4, x) => some (pc + i.2.1, ls, (4, x) :: st, S)
  | _ => none
def zs_istore : zSem := fun i pc ls st S => match st with
  | (0, x) :: st' => if i.2.2.1 < ls.length then some (pc + i.2.1, zset1 ls i.2.2.1 (zI x), st', S) else none
  | _ => none
def zs_lstore : zSem := fun i pc ls st S => match st with
  | (1, x) :: st' => if i.2.2.1 + 1 < ls.length then some (pc + i.2.1, zset2 ls i.2.2.1 (zL x), st', S) else none
  | _ => none
def zs_astore : zSem := fun i pc ls st S => match st with
  | (2, x) :: st' => if x < 0 then none else if i.2.2.1 < ls.length then some (pc + i.2.1, zset1 ls i.2.2.1 (zR x), st', S) else none
  | _ => none
def zs_iinc : zSem := fun i pc ls st S => match ls[i.2.2.1]? with
  | some (0, x) => some (pc + i.2.1, zset1 ls i.2.2.1 (zI (w32 (x + i.2.2.2.2.1))), st, S)
  | _ => none
def zs_iar : zSem := fun i pc ls st S => match st with
  | (0, y) :: (0, x) :: st' => (zIar i.2.2.1 x y).map fun r => (pc + i.2.1, ls, zI r :: st', S)
  | _ => none
def zs_lar : zSem := fun i pc ls st S => match st with
  | (1, y) :: (1, x) :: st' => (zLar i.2.2.1 x y).map fun r => (pc + i.2.1, ls, zL r :: st', S)
  | _ => none
def zs_lsh : zSem := fun i pc ls st S => match st with
  | (0, y) :: (1, x) :: st' => some (pc + i.2.1, ls, zL (if i.2.2.1 = 0 then zshlL x y else zushrL x y) :: st', S)
  | _ => none
def zs_un : zSem := fun i pc ls st S => match i.2.2.1, st with
  | 0, (0, x) :: st' => some (pc + i.2.1, ls, zI (w32 (-x)) :: st', S)
  | 1, (0, x) :: st' => some (pc + i.2.1, ls, zL x :: st', S)
  | 2, (1, x) :: st' => some (pc + i.2.1, ls, zI (w32 x) :: st', S)
  | 3, (0, x) :: st' => some (pc + i.2.1, ls, zI (zi8 x) :: st', S)
  | 4, (0, x) :: st' => if 0 ≤ x ∧ x < 65536 then some (pc + i.2.1, ls, zI x :: st', S) else none
  | _, _ => none
def zs_lcmp : zSem := fun i pc ls st S => match st with
  | (1, y) :: (1, x) :: st' => some (pc + i.2.1, ls, zI (zcmp x y) :: st', S)
  | _ => none
def zs_if : zSem := fun i pc ls st S => match st with
  | (0, x) :: st' => some (if zcond i.2.2.1 x 0 = true then i.2.2.2.1 else pc + i.2.1, ls, st', S)
  | _ => none
def zs_icmp : zSem := fun i pc ls st S => match st with
  | (0, y) :: (0, x) :: st' => some (if zcond i.2.2.1 x y = true then i.2.2.2.1 else pc + i.2.1, ls, st', S)
  | _ => none
def zs_goto : zSem := fun i pc ls st S => some (i.2.2.2.1, ls, st, S)
def zs_get : zSem := fun i pc ls st S => match st with
  | (2, a) :: st' => match zsh S a with
    | some (c, n) => if c = i.2.2.1 ∧ i.2.2.2.1 < n ∧ 32 ≤ a then some (pc + i.2.1, ls, ztag (zft i.2.2.1 i.2.2.2.1) (S.2.2 a i.2.2.2.1) :: st', S) else none
    | none => none
  | _ => none
def zokv (ft : Nat) (v : zV) : Bool := match ft with
  | 0 => v.1 == 0
  | 1 => v.1 == 1
  | 2 => v.1 == 2
  | 4 => v.1 == 0 && zb8 v.2
  | _ => v.1 == 0 && zbool v.2
def zs_put : zSem := fun i pc ls st S => match st with
  | v :: (2, a) :: st' => match zsh S a with
    | some (c, n) => if c = i.2.2.1 ∧ i.2.2.2.1 < n ∧ 32 ≤ a ∧ zokv (zft i.2.2.1 i.2.2.2.1) v = true then some (pc + i.2.1, ls, st', S.1, S.2.1, zup S.2.2 a i.2.2.2.1 v.2) else none
    | none => none
  | _ => none
def zs_alen : zSem := fun i pc ls st S => match st with
  | (2, a) :: st' => match zsh S a with
    | some (c, n) => if 91 ≤ c then some (pc + i.2.1, ls, zI n :: st', S) else none
    | none => none
  | _ => none
def zldok (t c : Nat) : Bool := match t with
  | 0 => c == 100
  | 1 => c == 101
  | 2 => c == 102 || c == 91 || c == 93
  | _ => c == 104 || c == 105 || c == 92
def zs_ald : zSem := fun i pc ls st S => match st with
  | (0, j) :: (2, a) :: st' => match zsh S a with
    | some (c, n) => if zldok i.2.2.1 c = true ∧ 0 ≤ j ∧ j < n then some (pc + i.2.1, ls, ztag (if i.2.2.1 = 4 then 2 else if i.2.2.1 = 1 then 1 else 0) (S.2.2 a j) :: st', S) else none
    | none => none
  | _ => none
def zs_iast : zSem := fun i pc ls st S => match st with
  | (0, x) :: (0, j) :: (2, a) :: st' => match zsh S a with
    | some (c, n) => if c = 100 ∧ 0 ≤ j ∧ j < n ∧ 32 ≤ a then some (pc + i.2.1, ls, st', S.1, S.2.1, zup S.2.2 a j x) else none
    | none => none
  | _ => none
def zs_last : zSem := fun i pc ls st S => match st with
  | (1, x) :: (0, j) :: (2, a) :: st' => match zsh S a with
    | some (c, n) => if c = 101 ∧ 0 ≤ j ∧ j < n ∧ 32 ≤ a then some (pc + i.2.1, ls, st', S.1, S.2.1, zup S.2.2 a j x) else none
    | none => none
  | _ => none
def zs_bast : zSem := fun i pc ls st S => match st with
  | (0, x) :: (0, j) :: (2, a) :: st' => match zsh S a with
    | some (c, n) => if c = 102 ∧ 0 ≤ j ∧ j < n ∧ 32 ≤ a then some (pc + i.2.1, ls, st', S.1, S.2.1, zup S.2.2 a j (zi8 x)) else none
    | none => none
  | _ => none
def zs_aast : zSem := fun i pc ls st S => match st with
  | (2, x) :: (0, j) :: (2, a) :: st' => match zsh S a, zsh S x with
    | some (c, n), some (c2, n2) => if ((c = 104 ∧ c2 = 0) ∨ (c = 105 ∧ c2 = 4)) ∧ 0 ≤ j ∧ j < n ∧ 32 ≤ a ∧ 32 ≤ x then some (pc + i.2.1, ls, st', S.1, S.2.1, zup S.2.2 a j x) else none
    | _, _ => none
  | _ => none
def zs_xast : zSem := fun i pc ls st S => match i.2.2.1 with
  | 0 => zs_iast i pc ls st S
  | 1 => zs_last i pc ls st S
  | 2 => zs_bast i pc ls st S
  | 4 => zs_aast i pc ls st S
  | _ => none
def zs_dup : zSem := fun i pc ls st S => match st with
  | v :: st' => if zcat v = 1 then some (pc + i.2.1, ls, v :: v :: st', S) else none
  | _ => none
def zs_dup2 : zSem := fun i pc ls st S => match st with
  | v :: st' => if zcat v = 2 then some (pc + i.2.1, ls, v :: v :: st', S) else match st' with
    | u :: st2 => if zcat u = 1 then some (pc + i.2.1, ls, v :: u :: v :: u :: st2, S) else none
    | _ => none
  | _ => none
def zs_newa : zSem := fun i pc ls st S => match st with
  | (0, n) :: st' => if 0 ≤ n ∧ n ≤ 100000 ∧ i.2.2.1 < 3 then some (pc + i.2.1, ls, zR (32 + S.2.1.length) :: st', S.1, S.2.1 ++ [(100 + i.2.2.1, n.toNat)], znew S.2.2 (32 + S.2.1.length) (fun _ => 0)) else none
  | _ => none
def zs_newq : zSem := fun i pc ls st S => match st with
  | (0, n) :: st' => if 0 ≤ n ∧ n ≤ 100000 ∧ (i.2.2.1 = 4 ∨ i.2.2.1 = 5) then some (pc + i.2.1, ls, zR (32 + S.2.1.length) :: st', S.1, S.2.1 ++ [(100 + i.2.2.1, n.toNat)], znew S.2.2 (32 + S.2.1.length) (fun _ => -1)) else none
  | _ => none
def znf : List Nat := [5, 2, 4, 11, 5, 15, 4, 4]
def zs_new : zSem := fun i pc ls st S => if i.2.2.1 < 8 then some (pc + i.2.1, ls, zR (32 + S.2.1.length) :: st, S.1, S.2.1 ++ [(i.2.2.1, znf.getD i.2.2.1 0)], znew S.2.2 (32 + S.2.1.length) (fun j => if zft i.2.2.1 j.toNat = 2 then -1 else 0)) else none
def zs_table : zSem := fun i pc ls st S => match st with
  | (0, x) :: st' => if x < i.2.2.2.2.1 ∨ i.2.2.2.2.1 + i.2.2.2.2.2.length ≤ x then some (i.2.2.2.1, ls, st', S) else some ((i.2.2.2.2.2.getD (x - i.2.2.2.2.1).toNat 0).toNat, ls, st', S)
  | _ => none
def zlook (df : Nat) (x : Int) : List Int → Nat
  | k :: t :: r => if x = k then t.toNat else zlook df x r
  | _ => df
def zs_look : zSem := fun i pc ls st S => match st with
  | (0, x) :: st' => some (zlook i.2.2.2.1 x i.2.2.2.2.2, ls, st', S)
  | _ => none
def zs_stat : zSem := fun i pc ls st S => match i.2.2.1 with
  | 0 => some (pc + i.2.1, ls, zR 1 :: st, S)
  | 1 => some (pc + i.2.1, ls, zI 1 :: st, S)
  | 3 => some (pc + i.2.1, ls, zR 26 :: st, S)
  | 4 => some (pc + i.2.1, ls, zR 27 :: st, S)
  | 5 => some (pc + i.2.1, ls, zR 28 :: st, S)
  | _ => some (pc + i.2.1, ls, zO :: st, S)
def zs_ldcs : zSem := fun i pc ls st S => if i.2.2.1 < 8 then some (pc + i.2.1, ls, zR (2 + i.2.2.1) :: st, S) else if i.2.2.1 < 12 then some (pc + i.2.1, ls, zR (10 + i.2.2.1) :: st, S) else none
def zs_pop : zSem := fun i pc ls st S => match st with
  | v :: st' => if zcat v = 1 then some (pc + i.2.1, ls, st', S) else none
  | _ => none
def zs_obj : zSem := fun i pc ls st S => match st with
  | (2, a) :: st' => if 0 ≤ a ∧ (st'.map zcat).sum ≤ 8 then some (pc + i.2.1, ls, st', S) else none
  | _ => none
def zs_sget : zSem := fun i pc ls st S => match st with
  | (2, a) :: st' => if 2 ≤ a ∧ a < 10 then some (pc + i.2.1, ls, (if i.2.2.1 = 0 then zR (a + 8) else zI 0) :: st', S) else if 18 ≤ a ∧ a < 22 then some (pc + i.2.1, ls, (if i.2.2.1 = 0 then zR (a + 4) else zI 0) :: st', S) else match zsh S a with
    | some (c, n) => if c = 7 ∧ n = 4 ∧ 32 ≤ a then some (pc + i.2.1, ls, (if i.2.2.1 = 0 then zR (S.2.2 a 0) else zI (S.2.2 a 1)) :: st', S) else none
    | none => none
  | _ => none
def zs_math : Nat → zSem := fun q i pc ls st S => match q, st with
  | 0, (0, y) :: (0, x) :: st' => if (st'.map zcat).sum ≤ 8 then some (pc + i.2.1, ls, zI (if x < y then y else x) :: st', S) else none
  | 1, (0, y) :: (0, x) :: st' => if (st'.map zcat).sum ≤ 8 then some (pc + i.2.1, ls, zI (if y < x then y else x) :: st', S) else none
  | 2, (1, y) :: (1, x) :: st' => if (st'.map zcat).sum ≤ 8 then some (pc + i.2.1, ls, zL (if y < x then x else y) :: st', S) else none
  | _, _ => none
def zs_null : zSem := fun i pc ls st S => some (pc + i.2.1, ls, zR (-1) :: st, S)
def zs_dupx : zSem := fun i pc ls st S => match st with
  | v :: u :: st' => if zcat v = 1 ∧ zcat u = 1 then some (pc + i.2.1, ls, v :: u :: v :: st', S) else none
  | _ => none
def zs_acopy : zSem := fun i pc ls st S => match st with
  | [(0, n), (0, dp), (2, b), (0, sp), (2, a)] => match zsh S a, zsh S b with
    | some (c1, n1), some (c2, n2) => if ((c1 = 102 ∧ 32 ≤ a) ∨ c1 = 91) ∧ c2 = 102 ∧ 32 ≤ b ∧ 0 ≤ sp ∧ 0 ≤ dp ∧ 0 ≤ n ∧ sp + n ≤ n1 ∧ dp + n ≤ n2 ∧ (List.range n.toNat).all (fun k => zb8 (S.2.2 a (sp + (k : Int)))) = true then some (pc + i.2.1, ls, [], S.1, S.2.1, zcpy S.2.2 b dp n (fun k => S.2.2 a (sp + k))) else none
    | _, _ => none
  | _ => none
def zs_nonnull : zSem := fun i pc ls st S => match st with
  | (2, x) :: st' => some (if x < 0 then pc + i.2.1 else i.2.2.2.1, ls, st', S)
  | _ => none
def zs_clone : zSem := fun i pc ls st S => match st with
  | (2, a) :: st' => match zsh S a with
    | some (c, n) => if c = 102 ∧ 32 ≤ a ∧ (st'.map zcat).sum ≤ 8 ∧ (List.range n).all (fun k => zb8 (S.2.2 a (k : Int))) = true then some (pc + i.2.1, ls, zR (32 + S.2.1.length) :: st', S.1, S.2.1 ++ [(102, n)], znew S.2.2 (32 + S.2.1.length) (S.2.2 a)) else none
    | none => none
  | _ => none
def zs_cast : zSem := fun i pc ls st S => match st with
  | (2, a) :: st' => match zsh S a with
    | some (c, n) => if c = 102 ∧ 32 ≤ a then some (pc + i.2.1, ls, zR a :: st', S) else none
    | none => none
  | _ => none
def zs_no : zSem := fun _ _ _ _ _ => none
def zsems : List zSem := [zs_no, zs_iconst, zs_lconst, zs_iload, zs_lload, zs_aload, zs_istore, zs_lstore, zs_astore, zs_iinc, zs_iar, zs_lar, zs_lsh, zs_un, zs_lcmp, zs_if, zs_icmp, zs_goto, zs_get, zs_put, zs_alen, zs_ald, zs_xast, zs_dup, zs_dup2, zs_newa, zs_newq, zs_new, zs_no, zs_no, zs_table, zs_stat, zs_ldcs, zs_pop, zs_obj, zs_sget, zs_look, zs_math 0, zs_math 1, zs_math 2, zs_null, zs_dupx, zs_acopy, zs_nonnull, zs_clone, zs_cast]
def zstep : zSem := fun i pc ls st S => (zsems.getD i.1 zs_no) i pc ls st S
/-- the methods' words -/
def zMd : MethodName × ByteArray × Nat × Option FieldType × List Nat := (⟨"", "", ""⟩, ⟨#[]⟩, 0, none, [])
def zmn (y : Nat) : MethodName := (zMs.getD y zMd).1
def zby (y : Nat) : ByteArray := (zMs.getD y zMd).2.1
def zml (y : Nat) : Nat := (zMs.getD y zMd).2.2.1
def zrt (y : Nat) : Option FieldType := (zMs.getD y zMd).2.2.2.1
def zin (y k : Nat) : Nat := (zMs.getD y zMd).2.2.2.2.getD k 0
def zargs : List zV → List zV
  | [] => []
  | v :: vs => if v.1 = 1 then v :: zJ :: zargs vs else v :: zargs vs
def zentry (y : Nat) (as : List zV) : List zV := zargs as ++ List.replicate (zml y - (zargs as).length) zJ
def zrecv (S : zHp) (b y : Nat) (as : List zV) : Bool := if b % 4 = 1 then true else match as with
  | (2, a) :: _ => match zsh S a with
    | some (c, _) => c == zin y 2 || (zin y 2 == 90 && c == 7)
    | none => false
  | _ => false
def zrefok (v : zV) : Bool := decide (v.1 < 5) && !(v.1 == 3)
def zcall (i : zC) (st : List zV) (S : zHp) : Option (List zV × List zV) :=
  let n := i.2.2.2.2.1.toNat
  let as := (st.take n).reverse
  if as.length = n ∧ ((st.drop n).map zcat).sum ≤ 8 ∧ (zargs as).length ≤ zml i.2.2.1 ∧ zrecv S i.2.2.2.1 i.2.2.1 as = true ∧ as.all zrefok = true then some (as, st.drop n) else none
def zret (a : Nat) (st : List zV) : Option zV := match a, st with
  | 0, [] => some zJ
  | 1, [(0, x)] => some (zI x)
  | 2, [(1, x)] => some (zL x)
  | 3, [(2, x)] => if x < 0 then none else some (zR x)
  | 4, [(0, x)] => if zbool x = true then some (zI x) else none
  | 5, [(0, x)] => if 0 ≤ x ∧ x < 65536 then some (zI x) else none
  | 6, [(0, x)] => if -128 ≤ x ∧ x < 128 then some (zI x) else none
  | _, _ => none
def zfetch (y pc : Nat) : Option zC := (zprog.getD y []).getD pc none
def ex : Nat → Nat → Nat → Nat → List zV → List zV → zHp → Option (zV × zHp)
  | 0, _, _, _, _, _, _ => none
  | n + 1, d, y, pc, ls, st, S =>
    match zfetch y pc with
    | none => none
    | some i =>
      if i.1 = 100 then (zret i.2.2.1 st).map fun r => (r, S)
      else if i.1 = 101 then
        match d with
        | 0 => none
        | d' + 1 =>
          match zcall i st S with
          | none => none
          | some (as, st') =>
            match ex n d' i.2.2.1 0 (zentry i.2.2.1 as) [] S with
            | none => none
            | some (r, S') => ex n (d' + 1) y (pc + i.2.1) ls (if r.1 = 3 then st' else r :: st') S'
      else match zstep i pc ls st S with
        | none => none
        | some (pc', ls', st', S') => ex n d y pc' ls' st' S'
theorem ex_test : (ex 5000 20 1 0 (zentry 1 [zR 32]) [] (0, [(5, 15)], fun _ _ => 0)).isSome = true := by decide +kernel
