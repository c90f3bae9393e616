/-! every method's code is the table's, by the kernel -/
/-- of a plain instruction, a call, a return: it is the machine's -/
def zret_ok (y a : Nat) : Bool := match a with
  | 0 => decide (zrt y = none)
  | 1 => decide (zrt y = some .int)
  | 2 => decide (zrt y = some .long)
  | 3 => match zrt y with
    | some (.object _) => true
    | some (.array _) => true
    | _ => false
  | 4 => decide (zrt y = some .boolean)
  | 5 => decide (zrt y = some .char)
  | 6 => decide (zrt y = some .byte)
  | _ => false
def zret_i (a : Nat) : Instr := match a with
  | 0 => .return_
  | 2 => .lreturn
  | 3 => .areturn
  | _ => .ireturn
noncomputable def zone (y pc : Nat) (i : zC) : Bool :=
  if i.1 = 100 then zret_ok y i.2.2.1 && zdc y pc (zret_i i.2.2.1) 1
  else if i.1 = 101 then
    let ix := (i.2.2.2.2.2.getD 0 0).toNat
    let p := (i.2.2.2.2.2.getD 1 0).toNat
    let t := i.2.2.1
    i.2.1 == 3 && decide (i.2.2.2.2.1.toNat = zin t 0 + (if i.2.2.2.1 % 4 = 1 then 0 else 1)) && decide (t < zMs.length) && decide (0 < t) &&
    (match i.2.2.2.1 with
    | 0 => zdc y pc (.invokevirtual ix) 3 && zw p (.methodLink (zmn y).cls ix (zmn t)) && zin t 1 == 0 && decide (¬ (zmn t).name = "<init>") && !(zin t 5 == 9999)
    | 1 => zdc y pc (.invokestatic ix) 3 && zw p (.methodLink (zmn y).cls ix (zmn t)) && zin t 1 == 1
    | 2 => zdc y pc (.invokespecial ix) 3 && zw p (.methodLink (zmn y).cls ix (zmn t)) && zin t 1 == 0 && decide ((zmn t).name = "<init>") && decide (zrt t = none)
    | 6 => zdc y pc (.invokespecial ix) 3 && decide (.methodLinkNest (zmn y).cls ix (zmn t) "SumWalker" ∈ zNw) && zin t 1 == 0 && decide ((zmn t).name = "<init>") && decide (zrt t = none)
    | 8 => zdc y pc (.invokevirtual ix) 3 && zw p (.methodLink (zmn y).cls ix (zmn t)) && zin t 1 == 0 && decide (¬ (zmn t).name = "<init>") && zin t 2 == 6 && zw (i.2.2.2.2.2.getD 2 0).toNat (.selects RX6 (zmn t) (zmn t)) && zw (i.2.2.2.2.2.getD 3 0).toNat (.sameMethod (zmn t).cls (zmn t).cls (zmn t).name (zmn t).desc)
    | 12 =>
      let x := (i.2.2.2.2.2.getD 6 0).toNat
      zdc y pc (.invokevirtual ix) 3 && zw p (.methodLink (zmn y).cls ix (zmn x)) && zin t 1 == 0 && decide (¬ (zmn t).name = "<init>") && zin t 2 == 6 && zw (i.2.2.2.2.2.getD 2 0).toNat (.selects RX6 (zmn x) (zmn t)) && zw (i.2.2.2.2.2.getD 3 0).toNat (.sameMethod (zmn x).cls (zmn x).cls (zmn x).name (zmn x).desc) && zw (i.2.2.2.2.2.getD 4 0).toNat (.instanceMethod (zmn x)) && zw (i.2.2.2.2.2.getD 5 0).toNat (.code (zmn x) (zby x) (zml x) (zrt x)) && decide ((zmn x).cls ≠ "java/lang/invoke/MethodHandle") && decide ((zmn x).cls ≠ "java/lang/invoke/VarHandle") && decide ((parseMethodDescriptor (zmn x).desc).map (fun d => d.parameters.length) = some (zin t 0))
    | 10 => zdc y pc (.invokespecial ix) 3 && zw p (.methodLink (zmn y).cls ix (zmn t)) && zin t 1 == 0 && decide (¬ (zmn t).name = "<init>") && zin t 2 == 6 && zw (i.2.2.2.2.2.getD 2 0).toNat (.superclass (zmn y).cls (zmn t).cls) && zw (i.2.2.2.2.2.getD 3 0).toNat (.sameMethod (zmn t).cls (zmn t).cls (zmn t).name (zmn t).desc)
    | _ => false)
  else zchk y pc i
noncomputable def zcode : List (Option zC) → Nat → Nat → Bool
  | [], _, _ => true
  | none :: r, y, pc => zcode r y (pc + 1)
  | some i :: r, y, pc => zone y pc i && zcode r y (pc + 1)
/-- a method's own words: its code, how it is called -/
def zclname (k : Nat) : String := if k < 8 then zCn k else "java/lang/String"
noncomputable def zmeta (y : Nat) : Bool :=
  zw (zin y 3) (.code (zmn y) (zby y) (zml y) (zrt y)) && zw (zin y 6) (.initialized (zmn y).cls) && plainName (zmn y).cls && decide ((zmn y).cls ≠ "java/lang/invoke/MethodHandle") && decide ((zmn y).cls ≠ "java/lang/invoke/VarHandle") && decide ((parseMethodDescriptor (zmn y).desc).map (fun d => d.parameters.length) = some (zin y 0)) && decide (zml y ≤ 20) &&
  (if zin y 1 = 1 then zw (zin y 4) (.static (zmn y)) else zw (zin y 4) (.instanceMethod (zmn y)) && (decide ((zmn y).name = "<init>") || zin y 5 == 9999 || (zw (zin y 5) (.selects (zmn y).cls (zmn y) (zmn y)) && decide (zclname (zin y 2) = (zmn y).cls))))
theorem zk_ok0 : zcode zk0 0 0 = true := by decide +kernel
theorem zk_ok1 : zcode zk1 1 0 = true := by decide +kernel
theorem zk_ok2 : zcode zk2 2 0 = true := by decide +kernel
theorem zk_ok3 : zcode zk3 3 0 = true := by decide +kernel
theorem zk_ok4 : zcode zk4 4 0 = true := by decide +kernel
theorem zk_ok5 : zcode zk5 5 0 = true := by decide +kernel
theorem zk_ok6 : zcode zk6 6 0 = true := by decide +kernel
theorem zk_ok7 : zcode zk7 7 0 = true := by decide +kernel
theorem zk_ok8 : zcode zk8 8 0 = true := by decide +kernel
theorem zk_ok9 : zcode zk9 9 0 = true := by decide +kernel
theorem zk_ok10 : zcode zk10 10 0 = true := by decide +kernel
theorem zk_ok11 : zcode zk11 11 0 = true := by decide +kernel
theorem zk_ok12 : zcode zk12 12 0 = true := by decide +kernel
theorem zk_ok13 : zcode zk13 13 0 = true := by decide +kernel
theorem zk_ok14 : zcode zk14 14 0 = true := by decide +kernel
theorem zk_ok15 : zcode zk15 15 0 = true := by decide +kernel
theorem zk_ok16 : zcode zk16 16 0 = true := by decide +kernel
theorem zk_ok17 : zcode zk17 17 0 = true := by decide +kernel
theorem zk_ok18 : zcode zk18 18 0 = true := by decide +kernel
theorem zk_ok19 : zcode zk19 19 0 = true := by decide +kernel
theorem zk_ok20 : zcode zk20 20 0 = true := by decide +kernel
theorem zk_ok21 : zcode zk21 21 0 = true := by decide +kernel
theorem zk_ok22 : zcode zk22 22 0 = true := by decide +kernel
theorem zk_ok23 : zcode zk23 23 0 = true := by decide +kernel
theorem zk_ok24 : zcode zk24 24 0 = true := by decide +kernel
theorem zk_ok25 : zcode zk25 25 0 = true := by decide +kernel
theorem zk_ok26 : zcode zk26 26 0 = true := by decide +kernel
theorem zk_ok27 : zcode zk27 27 0 = true := by decide +kernel
theorem zk_ok28 : zcode zk28 28 0 = true := by decide +kernel
theorem zk_ok29 : zcode zk29 29 0 = true := by decide +kernel
theorem zk_ok30 : zcode zk30 30 0 = true := by decide +kernel
theorem zk_ok31 : zcode zk31 31 0 = true := by decide +kernel
theorem zk_ok32 : zcode zk32 32 0 = true := by decide +kernel
theorem zk_ok33 : zcode zk33 33 0 = true := by decide +kernel
theorem zk_ok34 : zcode zk34 34 0 = true := by decide +kernel
theorem zk_ok35 : zcode zk35 35 0 = true := by decide +kernel
theorem zk_ok36 : zcode zk36 36 0 = true := by decide +kernel
theorem zk_ok37 : zcode zk37 37 0 = true := by decide +kernel
theorem zk_ok38 : zcode zk38 38 0 = true := by decide +kernel
theorem zk_ok39 : zcode zk39 39 0 = true := by decide +kernel
theorem zk_ok40 : zcode zk40 40 0 = true := by decide +kernel
theorem zk_ok41 : zcode zk41 41 0 = true := by decide +kernel
theorem zk_ok42 : zcode zk42 42 0 = true := by decide +kernel
theorem zk_ok43 : zcode zk43 43 0 = true := by decide +kernel
theorem zk_ok44 : zcode zk44 44 0 = true := by decide +kernel
theorem zk_ok45 : zcode zk45 45 0 = true := by decide +kernel
theorem zk_ok46 : zcode zk46 46 0 = true := by decide +kernel
theorem zk_ok47 : zcode zk47 47 0 = true := by decide +kernel
theorem zk_ok48 : zcode zk48 48 0 = true := by decide +kernel
theorem zk_ok49 : zcode zk49 49 0 = true := by decide +kernel
theorem zk_ok50 : zcode zk50 50 0 = true := by decide +kernel
theorem zk_ok51 : zcode zk51 51 0 = true := by decide +kernel
theorem zk_ok52 : zcode zk52 52 0 = true := by decide +kernel
theorem zk_ok53 : zcode zk53 53 0 = true := by decide +kernel
theorem zk_ok54 : zcode zk54 54 0 = true := by decide +kernel
theorem zk_ok55 : zcode zk55 55 0 = true := by decide +kernel
theorem zk_ok56 : zcode zk56 56 0 = true := by decide +kernel
theorem zk_ok57 : zcode zk57 57 0 = true := by decide +kernel
theorem zk_ok58 : zcode zk58 58 0 = true := by decide +kernel
theorem zk_ok59 : zcode zk59 59 0 = true := by decide +kernel
theorem zk_ok60 : zcode zk60 60 0 = true := by decide +kernel
theorem zk_ok61 : zcode zk61 61 0 = true := by decide +kernel
theorem zk_ok62 : zcode zk62 62 0 = true := by decide +kernel
theorem zk_ok63 : zcode zk63 63 0 = true := by decide +kernel
theorem zk_ok64 : zcode zk64 64 0 = true := by decide +kernel
theorem zk_ok65 : zcode zk65 65 0 = true := by decide +kernel
theorem zk_ok66 : zcode zk66 66 0 = true := by decide +kernel
theorem zk_ok67 : zcode zk67 67 0 = true := by decide +kernel
theorem zk_ok68 : zcode zk68 68 0 = true := by decide +kernel
theorem zk_ok69 : zcode zk69 69 0 = true := by decide +kernel
theorem zk_ok70 : zcode zk70 70 0 = true := by decide +kernel
theorem zk_ok71 : zcode zk71 71 0 = true := by decide +kernel
theorem zk_ok72 : zcode zk72 72 0 = true := by decide +kernel
theorem zk_ok76 : zcode zk76 76 0 = true := by decide +kernel
theorem zk_ok77 : zcode zk77 77 0 = true := by decide +kernel
theorem zk_ok94 : zcode zk94 94 0 = true := by decide +kernel
theorem zk_ok105 : zcode zk105 105 0 = true := by decide +kernel
theorem zk_ok106 : zcode zk106 106 0 = true := by decide +kernel
theorem zk_ok107 : zcode zk107 107 0 = true := by decide +kernel
theorem zk_ok108 : zcode zk108 108 0 = true := by decide +kernel
theorem zk_ok109 : zcode zk109 109 0 = true := by decide +kernel
theorem zk_ok110 : zcode zk110 110 0 = true := by decide +kernel
theorem zk_ok111 : zcode zk111 111 0 = true := by decide +kernel
theorem zk_ok112 : zcode zk112 112 0 = true := by decide +kernel
theorem zk_ok113 : zcode zk113 113 0 = true := by decide +kernel
theorem zk_ok114 : zcode zk114 114 0 = true := by decide +kernel
theorem zk_ok170 : zcode zk170 170 0 = true := by decide +kernel
theorem zk_ok171 : zcode zk171 171 0 = true := by decide +kernel
theorem zk_ok172 : zcode zk172 172 0 = true := by decide +kernel
theorem zk_ok173 : zcode zk173 173 0 = true := by decide +kernel
theorem zk_ok174 : zcode zk174 174 0 = true := by decide +kernel
theorem zk_ok175 : zcode zk175 175 0 = true := by decide +kernel
theorem zk_ok176 : zcode zk176 176 0 = true := by decide +kernel
theorem zk_ok177 : zcode zk177 177 0 = true := by decide +kernel
theorem zk_ok178 : zcode zk178 178 0 = true := by decide +kernel
theorem zk_ok179 : zcode zk179 179 0 = true := by decide +kernel
theorem zk_ok180 : zcode zk180 180 0 = true := by decide +kernel
theorem zk_ok181 : zcode zk181 181 0 = true := by decide +kernel
theorem zk_ok182 : zcode zk182 182 0 = true := by decide +kernel
theorem zk_ok183 : zcode zk183 183 0 = true := by decide +kernel
theorem zk_ok184 : zcode zk184 184 0 = true := by decide +kernel
theorem zk_ok185 : zcode zk185 185 0 = true := by decide +kernel
theorem zk_ok186 : zcode zk186 186 0 = true := by decide +kernel
theorem zk_ok187 : zcode zk187 187 0 = true := by decide +kernel
theorem zk_ok188 : zcode zk188 188 0 = true := by decide +kernel
theorem zk_ok189 : zcode zk189 189 0 = true := by decide +kernel
theorem zk_ok190 : zcode zk190 190 0 = true := by decide +kernel
theorem zk_ok191 : zcode zk191 191 0 = true := by decide +kernel
theorem zk_ok192 : zcode zk192 192 0 = true := by decide +kernel
theorem zk_ok193 : zcode zk193 193 0 = true := by decide +kernel
theorem zk_ok194 : zcode zk194 194 0 = true := by decide +kernel
theorem zk_ok195 : zcode zk195 195 0 = true := by decide +kernel
theorem zk_ok196 : zcode zk196 196 0 = true := by decide +kernel
theorem zk_ok197 : zcode zk197 197 0 = true := by decide +kernel
theorem zk_ok198 : zcode zk198 198 0 = true := by decide +kernel
theorem zk_ok199 : zcode zk199 199 0 = true := by decide +kernel
theorem zk_ok200 : zcode zk200 200 0 = true := by decide +kernel
theorem zk_ok201 : zcode zk201 201 0 = true := by decide +kernel
theorem zk_ok202 : zcode zk202 202 0 = true := by decide +kernel
theorem zk_ok203 : zcode zk203 203 0 = true := by decide +kernel
theorem zk_ok204 : zcode zk204 204 0 = true := by decide +kernel
theorem zk_ok205 : zcode zk205 205 0 = true := by decide +kernel
theorem zk_ok206 : zcode zk206 206 0 = true := by decide +kernel
theorem zk_ok207 : zcode zk207 207 0 = true := by decide +kernel
theorem zk_ok208 : zcode zk208 208 0 = true := by decide +kernel
theorem zk_ok209 : zcode zk209 209 0 = true := by decide +kernel
