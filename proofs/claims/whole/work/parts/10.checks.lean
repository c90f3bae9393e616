/-! every method's code is the table's, by the kernel -/
/-- of a plain instruction, a call, a return: it is the machine's -/
def zret_ok (y a : Nat) : Bool := match a with
  | 0 => decide (zrt y = none)
  | 1 => decide (zrt y = some .int)
  | 2 => decide (zrt y = some .long)
  | 3 => match zrt y with
    | some (.object _) => true
    | _ => false
  | 4 => decide (zrt y = some .boolean)
  | 5 => decide (zrt y = some .char)
  | 6 => decide (zrt y = some .byte)
  | _ => false
def zret_i (a : Nat) : Instr := match a with
  | 0 => .return_
  | 2 => .lreturn
  | 3 => .areturn
  | _ => .ireturn
noncomputable def zone (y pc : Nat) (i : zC) : Bool :=
  if i.1 = 100 then zret_ok y i.2.2.1 && zdc y pc (zret_i i.2.2.1) 1
  else if i.1 = 101 then
    let ix := (i.2.2.2.2.2.getD 0 0).toNat
    let p := (i.2.2.2.2.2.getD 1 0).toNat
    let t := i.2.2.1
    i.2.1 == 3 && decide (i.2.2.2.2.1.toNat = zin t 0 + (if i.2.2.2.1 % 4 = 1 then 0 else 1)) && decide (t < zMs.length) && decide (0 < t) &&
    (match i.2.2.2.1 with
    | 0 => zdc y pc (.invokevirtual ix) 3 && zw p (.methodLink (zmn y).cls ix (zmn t)) && zin t 1 == 0 && decide (¬ (zmn t).name = "<init>")
    | 1 => zdc y pc (.invokestatic ix) 3 && zw p (.methodLink (zmn y).cls ix (zmn t)) && zin t 1 == 1
    | 2 => zdc y pc (.invokespecial ix) 3 && zw p (.methodLink (zmn y).cls ix (zmn t)) && zin t 1 == 0 && decide ((zmn t).name = "<init>") && decide (zrt t = none)
    | 6 => zdc y pc (.invokespecial ix) 3 && decide (.methodLinkNest (zmn y).cls ix (zmn t) "SumWalker" ∈ zNw) && zin t 1 == 0 && decide ((zmn t).name = "<init>") && decide (zrt t = none)
    | _ => false)
  else zchk y pc i
noncomputable def zcode : List (Option zC) → Nat → Nat → Bool
  | [], _, _ => true
  | none :: r, y, pc => zcode r y (pc + 1)
  | some i :: r, y, pc => zone y pc i && zcode r y (pc + 1)
/-- a method's own words: its code, how it is called -/
def zclname (k : Nat) : String := if k < 7 then zCn k else "java/lang/String"
noncomputable def zmeta (y : Nat) : Bool :=
  zw (zin y 3) (.code (zmn y) (zby y) (zml y) (zrt y)) && zw (zin y 6) (.initialized (zmn y).cls) && plainName (zmn y).cls && decide ((zmn y).cls ≠ "java/lang/invoke/MethodHandle") && decide ((zmn y).cls ≠ "java/lang/invoke/VarHandle") && decide ((parseMethodDescriptor (zmn y).desc).map (fun d => d.parameters.length) = some (zin y 0)) && decide (zml y ≤ 20) &&
  (if zin y 1 = 1 then zw (zin y 4) (.static (zmn y)) else zw (zin y 4) (.instanceMethod (zmn y)) && (decide ((zmn y).name = "<init>") || (zw (zin y 5) (.selects (zmn y).cls (zmn y) (zmn y)) && decide (zclname (zin y 2) = (zmn y).cls))))
theorem zk_ok1 : zcode zk1 1 0 = true := by decide +kernel
theorem zk_ok2 : zcode zk2 2 0 = true := by decide +kernel
theorem zk_ok3 : zcode zk3 3 0 = true := by decide +kernel
theorem zk_ok4 : zcode zk4 4 0 = true := by decide +kernel
theorem zk_ok5 : zcode zk5 5 0 = true := by decide +kernel
theorem zk_ok6 : zcode zk6 6 0 = true := by decide +kernel
theorem zk_ok7 : zcode zk7 7 0 = true := by decide +kernel
theorem zk_ok8 : zcode zk8 8 0 = true := by decide +kernel
theorem zk_ok9 : zcode zk9 9 0 = true := by decide +kernel
theorem zk_ok10 : zcode zk10 10 0 = true := by decide +kernel
theorem zk_ok11 : zcode zk11 11 0 = true := by decide +kernel
theorem zk_ok12 : zcode zk12 12 0 = true := by decide +kernel
theorem zk_ok13 : zcode zk13 13 0 = true := by decide +kernel
theorem zk_ok14 : zcode zk14 14 0 = true := by decide +kernel
theorem zk_ok15 : zcode zk15 15 0 = true := by decide +kernel
theorem zk_ok16 : zcode zk16 16 0 = true := by decide +kernel
theorem zk_ok17 : zcode zk17 17 0 = true := by decide +kernel
theorem zk_ok18 : zcode zk18 18 0 = true := by decide +kernel
theorem zk_ok19 : zcode zk19 19 0 = true := by decide +kernel
theorem zk_ok20 : zcode zk20 20 0 = true := by decide +kernel
theorem zk_ok21 : zcode zk21 21 0 = true := by decide +kernel
theorem zk_ok22 : zcode zk22 22 0 = true := by decide +kernel
theorem zk_ok23 : zcode zk23 23 0 = true := by decide +kernel
theorem zk_ok24 : zcode zk24 24 0 = true := by decide +kernel
theorem zk_ok25 : zcode zk25 25 0 = true := by decide +kernel
theorem zk_ok26 : zcode zk26 26 0 = true := by decide +kernel
theorem zk_ok27 : zcode zk27 27 0 = true := by decide +kernel
theorem zk_ok28 : zcode zk28 28 0 = true := by decide +kernel
theorem zk_ok29 : zcode zk29 29 0 = true := by decide +kernel
theorem zk_ok30 : zcode zk30 30 0 = true := by decide +kernel
theorem zk_ok31 : zcode zk31 31 0 = true := by decide +kernel
theorem zk_ok32 : zcode zk32 32 0 = true := by decide +kernel
theorem zk_ok33 : zcode zk33 33 0 = true := by decide +kernel
theorem zk_ok34 : zcode zk34 34 0 = true := by decide +kernel
theorem zk_ok35 : zcode zk35 35 0 = true := by decide +kernel
theorem zk_ok36 : zcode zk36 36 0 = true := by decide +kernel
theorem zk_ok37 : zcode zk37 37 0 = true := by decide +kernel
theorem zk_ok38 : zcode zk38 38 0 = true := by decide +kernel
theorem zk_ok39 : zcode zk39 39 0 = true := by decide +kernel
theorem zk_ok40 : zcode zk40 40 0 = true := by decide +kernel
theorem zk_ok41 : zcode zk41 41 0 = true := by decide +kernel
theorem zk_ok42 : zcode zk42 42 0 = true := by decide +kernel
theorem zk_ok43 : zcode zk43 43 0 = true := by decide +kernel
theorem zk_ok44 : zcode zk44 44 0 = true := by decide +kernel
theorem zk_ok45 : zcode zk45 45 0 = true := by decide +kernel
theorem zk_ok46 : zcode zk46 46 0 = true := by decide +kernel
theorem zk_ok47 : zcode zk47 47 0 = true := by decide +kernel
theorem zk_ok48 : zcode zk48 48 0 = true := by decide +kernel
theorem zk_ok49 : zcode zk49 49 0 = true := by decide +kernel
theorem zk_ok50 : zcode zk50 50 0 = true := by decide +kernel
theorem zk_ok51 : zcode zk51 51 0 = true := by decide +kernel
theorem zk_ok52 : zcode zk52 52 0 = true := by decide +kernel
theorem zk_ok53 : zcode zk53 53 0 = true := by decide +kernel
theorem zk_ok54 : zcode zk54 54 0 = true := by decide +kernel
theorem zk_ok55 : zcode zk55 55 0 = true := by decide +kernel
theorem zk_ok56 : zcode zk56 56 0 = true := by decide +kernel
theorem zk_ok57 : zcode zk57 57 0 = true := by decide +kernel
theorem zk_ok58 : zcode zk58 58 0 = true := by decide +kernel
theorem zk_ok59 : zcode zk59 59 0 = true := by decide +kernel
theorem zk_ok60 : zcode zk60 60 0 = true := by decide +kernel
theorem zk_ok61 : zcode zk61 61 0 = true := by decide +kernel
theorem zk_ok62 : zcode zk62 62 0 = true := by decide +kernel
theorem zk_ok63 : zcode zk63 63 0 = true := by decide +kernel
theorem zk_ok64 : zcode zk64 64 0 = true := by decide +kernel
theorem zk_ok65 : zcode zk65 65 0 = true := by decide +kernel
theorem zk_ok66 : zcode zk66 66 0 = true := by decide +kernel
theorem zk_ok67 : zcode zk67 67 0 = true := by decide +kernel
theorem zk_ok68 : zcode zk68 68 0 = true := by decide +kernel
theorem zk_ok69 : zcode zk69 69 0 = true := by decide +kernel
theorem zk_ok70 : zcode zk70 70 0 = true := by decide +kernel
theorem zk_ok71 : zcode zk71 71 0 = true := by decide +kernel
theorem zk_ok72 : zcode zk72 72 0 = true := by decide +kernel
theorem zk_ok73 : zcode zk73 73 0 = true := by decide +kernel
theorem zk_ok74 : zcode zk74 74 0 = true := by decide +kernel
theorem zk_ok75 : zcode zk75 75 0 = true := by decide +kernel
theorem zk_ok76 : zcode zk76 76 0 = true := by decide +kernel
theorem zk_ok77 : zcode zk77 77 0 = true := by decide +kernel
theorem zk_ok78 : zcode zk78 78 0 = true := by decide +kernel
theorem zk_ok79 : zcode zk79 79 0 = true := by decide +kernel
theorem zk_ok80 : zcode zk80 80 0 = true := by decide +kernel
theorem zk_ok81 : zcode zk81 81 0 = true := by decide +kernel
theorem zk_ok82 : zcode zk82 82 0 = true := by decide +kernel
theorem zk_ok83 : zcode zk83 83 0 = true := by decide +kernel
theorem zk_ok84 : zcode zk84 84 0 = true := by decide +kernel
theorem zk_ok85 : zcode zk85 85 0 = true := by decide +kernel
theorem zk_ok86 : zcode zk86 86 0 = true := by decide +kernel
theorem zk_ok87 : zcode zk87 87 0 = true := by decide +kernel
theorem zk_ok88 : zcode zk88 88 0 = true := by decide +kernel
theorem zk_ok89 : zcode zk89 89 0 = true := by decide +kernel
theorem zk_ok90 : zcode zk90 90 0 = true := by decide +kernel
theorem zk_ok91 : zcode zk91 91 0 = true := by decide +kernel
theorem zk_ok92 : zcode zk92 92 0 = true := by decide +kernel
theorem zk_ok93 : zcode zk93 93 0 = true := by decide +kernel
theorem zk_ok94 : zcode zk94 94 0 = true := by decide +kernel
theorem zk_ok95 : zcode zk95 95 0 = true := by decide +kernel
theorem zk_ok96 : zcode zk96 96 0 = true := by decide +kernel
theorem zk_ok97 : zcode zk97 97 0 = true := by decide +kernel
theorem zk_ok98 : zcode zk98 98 0 = true := by decide +kernel
theorem zk_ok99 : zcode zk99 99 0 = true := by decide +kernel
theorem zk_ok100 : zcode zk100 100 0 = true := by decide +kernel
theorem zk_ok101 : zcode zk101 101 0 = true := by decide +kernel
theorem zk_ok102 : zcode zk102 102 0 = true := by decide +kernel
theorem zk_ok103 : zcode zk103 103 0 = true := by decide +kernel
theorem zk_ok104 : zcode zk104 104 0 = true := by decide +kernel
theorem zk_ok105 : zcode zk105 105 0 = true := by decide +kernel
theorem zk_ok106 : zcode zk106 106 0 = true := by decide +kernel
theorem zk_ok107 : zcode zk107 107 0 = true := by decide +kernel
theorem zk_ok108 : zcode zk108 108 0 = true := by decide +kernel
theorem zk_ok109 : zcode zk109 109 0 = true := by decide +kernel
theorem zk_ok110 : zcode zk110 110 0 = true := by decide +kernel
theorem zk_ok111 : zcode zk111 111 0 = true := by decide +kernel
theorem zk_ok112 : zcode zk112 112 0 = true := by decide +kernel
theorem zk_ok113 : zcode zk113 113 0 = true := by decide +kernel
theorem zk_ok114 : zcode zk114 114 0 = true := by decide +kernel
theorem zk_ok115 : zcode zk115 115 0 = true := by decide +kernel
theorem zk_ok116 : zcode zk116 116 0 = true := by decide +kernel
theorem zk_ok117 : zcode zk117 117 0 = true := by decide +kernel
theorem zk_ok118 : zcode zk118 118 0 = true := by decide +kernel
theorem zk_ok119 : zcode zk119 119 0 = true := by decide +kernel
theorem zk_ok120 : zcode zk120 120 0 = true := by decide +kernel
theorem zk_ok121 : zcode zk121 121 0 = true := by decide +kernel
theorem zk_ok122 : zcode zk122 122 0 = true := by decide +kernel
theorem zk_ok123 : zcode zk123 123 0 = true := by decide +kernel
theorem zk_ok124 : zcode zk124 124 0 = true := by decide +kernel
theorem zk_ok125 : zcode zk125 125 0 = true := by decide +kernel
theorem zk_ok126 : zcode zk126 126 0 = true := by decide +kernel
theorem zk_ok127 : zcode zk127 127 0 = true := by decide +kernel
theorem zk_ok128 : zcode zk128 128 0 = true := by decide +kernel
theorem zk_ok129 : zcode zk129 129 0 = true := by decide +kernel
theorem zk_ok130 : zcode zk130 130 0 = true := by decide +kernel
theorem zk_ok131 : zcode zk131 131 0 = true := by decide +kernel
theorem zk_ok132 : zcode zk132 132 0 = true := by decide +kernel
theorem zk_ok133 : zcode zk133 133 0 = true := by decide +kernel
theorem zk_ok134 : zcode zk134 134 0 = true := by decide +kernel
theorem zk_ok135 : zcode zk135 135 0 = true := by decide +kernel
theorem zk_ok136 : zcode zk136 136 0 = true := by decide +kernel
theorem zk_ok137 : zcode zk137 137 0 = true := by decide +kernel
theorem zk_ok138 : zcode zk138 138 0 = true := by decide +kernel
theorem zk_ok139 : zcode zk139 139 0 = true := by decide +kernel
theorem zk_ok140 : zcode zk140 140 0 = true := by decide +kernel
theorem zk_ok141 : zcode zk141 141 0 = true := by decide +kernel
theorem zk_ok142 : zcode zk142 142 0 = true := by decide +kernel
theorem zk_ok143 : zcode zk143 143 0 = true := by decide +kernel
theorem zk_ok144 : zcode zk144 144 0 = true := by decide +kernel
theorem zk_ok145 : zcode zk145 145 0 = true := by decide +kernel
theorem zk_ok146 : zcode zk146 146 0 = true := by decide +kernel
theorem zk_ok147 : zcode zk147 147 0 = true := by decide +kernel
theorem zk_ok148 : zcode zk148 148 0 = true := by decide +kernel
theorem zk_ok149 : zcode zk149 149 0 = true := by decide +kernel
theorem zk_ok150 : zcode zk150 150 0 = true := by decide +kernel
theorem zk_ok151 : zcode zk151 151 0 = true := by decide +kernel
theorem zk_ok152 : zcode zk152 152 0 = true := by decide +kernel
theorem zk_ok153 : zcode zk153 153 0 = true := by decide +kernel
theorem zk_ok154 : zcode zk154 154 0 = true := by decide +kernel
theorem zk_ok155 : zcode zk155 155 0 = true := by decide +kernel
theorem zk_ok156 : zcode zk156 156 0 = true := by decide +kernel
theorem zk_ok157 : zcode zk157 157 0 = true := by decide +kernel
theorem zk_ok158 : zcode zk158 158 0 = true := by decide +kernel
theorem zk_ok159 : zcode zk159 159 0 = true := by decide +kernel
theorem zk_ok160 : zcode zk160 160 0 = true := by decide +kernel
theorem zk_ok161 : zcode zk161 161 0 = true := by decide +kernel
theorem zk_ok162 : zcode zk162 162 0 = true := by decide +kernel
theorem zk_ok163 : zcode zk163 163 0 = true := by decide +kernel
theorem zk_ok164 : zcode zk164 164 0 = true := by decide +kernel
theorem zk_ok165 : zcode zk165 165 0 = true := by decide +kernel
theorem zk_ok166 : zcode zk166 166 0 = true := by decide +kernel
theorem zk_ok167 : zcode zk167 167 0 = true := by decide +kernel
theorem zk_ok168 : zcode zk168 168 0 = true := by decide +kernel
theorem zk_ok169 : zcode zk169 169 0 = true := by decide +kernel
theorem zk_ok170 : zcode zk170 170 0 = true := by decide +kernel
theorem zk_ok171 : zcode zk171 171 0 = true := by decide +kernel
theorem zk_ok172 : zcode zk172 172 0 = true := by decide +kernel
theorem zk_ok173 : zcode zk173 173 0 = true := by decide +kernel
theorem zk_ok174 : zcode zk174 174 0 = true := by decide +kernel
theorem zk_ok175 : zcode zk175 175 0 = true := by decide +kernel
theorem zk_ok176 : zcode zk176 176 0 = true := by decide +kernel
theorem zk_ok177 : zcode zk177 177 0 = true := by decide +kernel
theorem zk_ok178 : zcode zk178 178 0 = true := by decide +kernel
theorem zk_ok179 : zcode zk179 179 0 = true := by decide +kernel
theorem zk_ok180 : zcode zk180 180 0 = true := by decide +kernel
theorem zk_ok181 : zcode zk181 181 0 = true := by decide +kernel
theorem zk_ok182 : zcode zk182 182 0 = true := by decide +kernel
theorem zk_ok183 : zcode zk183 183 0 = true := by decide +kernel
theorem zk_ok184 : zcode zk184 184 0 = true := by decide +kernel
theorem zk_ok185 : zcode zk185 185 0 = true := by decide +kernel
theorem zk_ok186 : zcode zk186 186 0 = true := by decide +kernel
theorem zk_ok187 : zcode zk187 187 0 = true := by decide +kernel
theorem zk_ok188 : zcode zk188 188 0 = true := by decide +kernel
theorem zk_ok189 : zcode zk189 189 0 = true := by decide +kernel
theorem zk_ok190 : zcode zk190 190 0 = true := by decide +kernel
theorem zk_ok191 : zcode zk191 191 0 = true := by decide +kernel
theorem zk_ok192 : zcode zk192 192 0 = true := by decide +kernel
theorem zk_ok193 : zcode zk193 193 0 = true := by decide +kernel
theorem zk_ok194 : zcode zk194 194 0 = true := by decide +kernel
theorem zk_ok195 : zcode zk195 195 0 = true := by decide +kernel
theorem zk_ok196 : zcode zk196 196 0 = true := by decide +kernel
theorem zk_ok197 : zcode zk197 197 0 = true := by decide +kernel
theorem zk_ok198 : zcode zk198 198 0 = true := by decide +kernel
theorem zk_ok199 : zcode zk199 199 0 = true := by decide +kernel
theorem zk_ok200 : zcode zk200 200 0 = true := by decide +kernel
theorem zk_ok201 : zcode zk201 201 0 = true := by decide +kernel
theorem zk_ok202 : zcode zk202 202 0 = true := by decide +kernel
theorem zk_ok203 : zcode zk203 203 0 = true := by decide +kernel
theorem zk_ok204 : zcode zk204 204 0 = true := by decide +kernel
theorem zk_ok205 : zcode zk205 205 0 = true := by decide +kernel
theorem zk_ok206 : zcode zk206 206 0 = true := by decide +kernel
theorem zk_ok207 : zcode zk207 207 0 = true := by decide +kernel
theorem zk_ok208 : zcode zk208 208 0 = true := by decide +kernel
theorem zk_ok209 : zcode zk209 209 0 = true := by decide +kernel
theorem zk_ok210 : zcode zk210 210 0 = true := by decide +kernel
theorem zk_ok211 : zcode zk211 211 0 = true := by decide +kernel
theorem zk_ok212 : zcode zk212 212 0 = true := by decide +kernel
theorem zk_ok213 : zcode zk213 213 0 = true := by decide +kernel
theorem zk_ok214 : zcode zk214 214 0 = true := by decide +kernel
theorem zk_ok215 : zcode zk215 215 0 = true := by decide +kernel
theorem zk_ok216 : zcode zk216 216 0 = true := by decide +kernel
theorem zk_ok217 : zcode zk217 217 0 = true := by decide +kernel
theorem zk_ok218 : zcode zk218 218 0 = true := by decide +kernel
theorem zk_ok219 : zcode zk219 219 0 = true := by decide +kernel
theorem zk_ok220 : zcode zk220 220 0 = true := by decide +kernel
theorem zk_ok221 : zcode zk221 221 0 = true := by decide +kernel
theorem zk_ok222 : zcode zk222 222 0 = true := by decide +kernel
theorem zk_ok223 : zcode zk223 223 0 = true := by decide +kernel
theorem zk_ok224 : zcode zk224 224 0 = true := by decide +kernel
theorem zk_ok225 : zcode zk225 225 0 = true := by decide +kernel
theorem zk_ok226 : zcode zk226 226 0 = true := by decide +kernel
theorem zk_ok227 : zcode zk227 227 0 = true := by decide +kernel
theorem zk_ok228 : zcode zk228 228 0 = true := by decide +kernel
theorem zk_ok229 : zcode zk229 229 0 = true := by decide +kernel
theorem zk_ok230 : zcode zk230 230 0 = true := by decide +kernel
theorem zk_ok231 : zcode zk231 231 0 = true := by decide +kernel
theorem zk_ok232 : zcode zk232 232 0 = true := by decide +kernel
theorem zk_ok233 : zcode zk233 233 0 = true := by decide +kernel
theorem zk_ok234 : zcode zk234 234 0 = true := by decide +kernel
theorem zk_ok235 : zcode zk235 235 0 = true := by decide +kernel
theorem zk_ok236 : zcode zk236 236 0 = true := by decide +kernel
theorem zk_ok237 : zcode zk237 237 0 = true := by decide +kernel
theorem zk_ok238 : zcode zk238 238 0 = true := by decide +kernel
theorem zk_ok239 : zcode zk239 239 0 = true := by decide +kernel
theorem zk_ok240 : zcode zk240 240 0 = true := by decide +kernel
theorem zk_ok241 : zcode zk241 241 0 = true := by decide +kernel
theorem zk_ok242 : zcode zk242 242 0 = true := by decide +kernel
theorem zk_ok243 : zcode zk243 243 0 = true := by decide +kernel
theorem zk_ok244 : zcode zk244 244 0 = true := by decide +kernel
theorem zk_ok245 : zcode zk245 245 0 = true := by decide +kernel
theorem zk_ok246 : zcode zk246 246 0 = true := by decide +kernel
theorem zk_ok247 : zcode zk247 247 0 = true := by decide +kernel
theorem zk_ok248 : zcode zk248 248 0 = true := by decide +kernel
theorem zk_ok249 : zcode zk249 249 0 = true := by decide +kernel
theorem zk_ok250 : zcode zk250 250 0 = true := by decide +kernel
theorem zk_ok251 : zcode zk251 251 0 = true := by decide +kernel
theorem zk_ok252 : zcode zk252 252 0 = true := by decide +kernel
theorem zk_ok253 : zcode zk253 253 0 = true := by decide +kernel
theorem zk_ok254 : zcode zk254 254 0 = true := by decide +kernel
theorem zk_ok255 : zcode zk255 255 0 = true := by decide +kernel
theorem zk_ok256 : zcode zk256 256 0 = true := by decide +kernel
theorem zk_ok257 : zcode zk257 257 0 = true := by decide +kernel
theorem zk_ok258 : zcode zk258 258 0 = true := by decide +kernel
theorem zk_ok259 : zcode zk259 259 0 = true := by decide +kernel
theorem zk_ok260 : zcode zk260 260 0 = true := by decide +kernel
theorem zk_ok261 : zcode zk261 261 0 = true := by decide +kernel
theorem zk_ok262 : zcode zk262 262 0 = true := by decide +kernel
theorem zk_ok263 : zcode zk263 263 0 = true := by decide +kernel
theorem zk_ok264 : zcode zk264 264 0 = true := by decide +kernel
theorem zk_ok265 : zcode zk265 265 0 = true := by decide +kernel
theorem zk_ok266 : zcode zk266 266 0 = true := by decide +kernel
theorem zk_ok267 : zcode zk267 267 0 = true := by decide +kernel
theorem zk_ok268 : zcode zk268 268 0 = true := by decide +kernel
theorem zk_ok269 : zcode zk269 269 0 = true := by decide +kernel
theorem zk_ok270 : zcode zk270 270 0 = true := by decide +kernel
theorem zk_ok271 : zcode zk271 271 0 = true := by decide +kernel
theorem zk_ok272 : zcode zk272 272 0 = true := by decide +kernel
theorem zk_ok273 : zcode zk273 273 0 = true := by decide +kernel
theorem zk_ok274 : zcode zk274 274 0 = true := by decide +kernel
theorem zk_ok275 : zcode zk275 275 0 = true := by decide +kernel
theorem zk_ok276 : zcode zk276 276 0 = true := by decide +kernel
theorem zk_ok277 : zcode zk277 277 0 = true := by decide +kernel
theorem zk_ok278 : zcode zk278 278 0 = true := by decide +kernel
theorem zk_ok279 : zcode zk279 279 0 = true := by decide +kernel
theorem zk_ok280 : zcode zk280 280 0 = true := by decide +kernel
theorem zk_ok281 : zcode zk281 281 0 = true := by decide +kernel
theorem zk_ok282 : zcode zk282 282 0 = true := by decide +kernel
theorem zk_ok283 : zcode zk283 283 0 = true := by decide +kernel
theorem zk_ok284 : zcode zk284 284 0 = true := by decide +kernel
theorem zk_ok285 : zcode zk285 285 0 = true := by decide +kernel
theorem zk_ok286 : zcode zk286 286 0 = true := by decide +kernel
theorem zk_ok287 : zcode zk287 287 0 = true := by decide +kernel
theorem zk_ok288 : zcode zk288 288 0 = true := by decide +kernel
theorem zk_ok289 : zcode zk289 289 0 = true := by decide +kernel
