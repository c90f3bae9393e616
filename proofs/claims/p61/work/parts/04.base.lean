/-! numbers, and how a state of the small machine stands for cells -/
def r32 (x : Int) : Prop := -2147483648 ≤ x ∧ x ≤ 2147483647
def r64 (x : Int) : Prop := -9223372036854775808 ≤ x ∧ x ≤ 9223372036854775807
theorem z32 {x : Int} (h : r32 x) : (Int32.ofInt x).toInt = x := Int32.toInt_ofInt_of_le (by have := h.1; omega) (by have := h.2; omega)
theorem z64 {x : Int} (h : r64 x) : (Int64.ofInt x).toInt = x := Int64.toInt_ofInt_of_le (by have := h.1; omega) (by have := h.2; omega)
theorem r32_i (x : Int32) : r32 x.toInt := ⟨by have := x.le_toInt; omega, by have := x.toInt_lt; omega⟩
theorem r64_i (x : Int64) : r64 x.toInt := ⟨by have := x.le_toInt; omega, by have := x.toInt_lt; omega⟩
theorem w32_eq (x : Int) : w32 x = (Int32.ofInt x).toInt := by rw [Int32.toInt_ofInt]; rfl
theorem w64_eq (x : Int) : w64 x = (Int64.ofInt x).toInt := by rw [Int64.toInt_ofInt]; rfl
theorem w32_of (x : Int) : Int32.ofInt (w32 x) = Int32.ofInt x := by rw [w32_eq, Int32.ofInt_toInt]
theorem w64_of (x : Int) : Int64.ofInt (w64 x) = Int64.ofInt x := by rw [w64_eq, Int64.ofInt_toInt]
theorem w32_r (x : Int) : r32 (w32 x) := by rw [w32_eq]; exact r32_i _
theorem w64_r (x : Int) : r64 (w64 x) := by rw [w64_eq]; exact r64_i _
theorem z32_inj {x y : Int} (hx : r32 x) (hy : r32 y) : Int32.ofInt x = Int32.ofInt y ↔ x = y := ⟨fun h => by rw [← z32 hx, ← z32 hy, h], fun h => by rw [h]⟩
theorem z64_inj {x y : Int} (hx : r64 x) (hy : r64 y) : Int64.ofInt x = Int64.ofInt y ↔ x = y := ⟨fun h => by rw [← z64 hx, ← z64 hy, h], fun h => by rw [h]⟩
theorem z32_lt {x y : Int} (hx : r32 x) (hy : r32 y) : Int32.ofInt x < Int32.ofInt y ↔ x < y := by rw [Int32.lt_iff_toInt_lt, z32 hx, z32 hy]
theorem z32_le {x y : Int} (hx : r32 x) (hy : r32 y) : Int32.ofInt x ≤ Int32.ofInt y ↔ x ≤ y := by rw [Int32.le_iff_toInt_le, z32 hx, z32 hy]
theorem z64_lt {x y : Int} (hx : r64 x) (hy : r64 y) : Int64.ofInt x < Int64.ofInt y ↔ x < y := by rw [Int64.lt_iff_toInt_lt, z64 hx, z64 hy]
theorem z32_0 : Int32.ofInt 0 = 0 := rfl
theorem z32_ne0 {y : Int} (hy : r32 y) (h : ¬ y = 0) : ¬ Int32.ofInt y = 0 := fun q => h ((z32_inj hy ⟨by decide, by decide⟩).mp q)
theorem z64_ne0 {y : Int} (hy : r64 y) (h : ¬ y = 0) : ¬ Int64.ofInt y = 0 := fun q => h ((z64_inj hy ⟨by decide, by decide⟩).mp q)
theorem z32_div {x y : Int} (hx : r32 x) (hy : r32 y) : Int32.ofInt x / Int32.ofInt y = Int32.ofInt (w32 (Int.tdiv x y)) := by
  apply Int32.toInt_inj.mp
  rw [Int32.toInt_div, z32 hx, z32 hy, w32_of, ← w32_eq]; rfl
theorem z64_div {x y : Int} (hx : r64 x) (hy : r64 y) : Int64.ofInt x / Int64.ofInt y = Int64.ofInt (w64 (Int.tdiv x y)) := by
  apply Int64.toInt_inj.mp
  rw [Int64.toInt_div, z64 hx, z64 hy, w64_of, ← w64_eq]; rfl
theorem z32_rem {x y : Int} (hx : r32 x) (hy : r32 y) : Int32.ofInt x - Int32.ofInt x / Int32.ofInt y * Int32.ofInt y = Int32.ofInt (Int.tmod x y) := by
  rw [z32_div hx hy, w32_of, ← Int32.ofInt_mul, ← Int32.ofInt_sub]
  congr 1
  have := Int.tmod_add_mul_tdiv x y
  rw [Int.mul_comm] at this
  omega
theorem z64_rem {x y : Int} (hx : r64 x) (hy : r64 y) : Int64.ofInt x - Int64.ofInt x / Int64.ofInt y * Int64.ofInt y = Int64.ofInt (Int.tmod x y) := by
  rw [z64_div hx hy, w64_of, ← Int64.ofInt_mul, ← Int64.ofInt_sub]
  congr 1
  have := Int.tmod_add_mul_tdiv x y
  rw [Int.mul_comm] at this
  omega
theorem r32_tmod {x y : Int} (hx : r32 x) (hy : r32 y) : r32 (Int.tmod x y) := by
  have h : Int.tmod x y = (Int32.ofInt x % Int32.ofInt y).toInt := by rw [Int32.toInt_mod, z32 hx, z32 hy]
  rw [h]; exact r32_i _
theorem r64_tmod {x y : Int} (hx : r64 x) (hy : r64 y) : r64 (Int.tmod x y) := by
  have h : Int.tmod x y = (Int64.ofInt x % Int64.ofInt y).toInt := by rw [Int64.toInt_mod, z64 hx, z64 hy]
  rw [h]; exact r64_i _
theorem z_clamp {j : Int} (hj : r32 j) (h0 : 0 ≤ j) : (Int32.ofInt j).toNatClampNeg = j.toNat := by
  show (Int32.ofInt j).toInt.toNat = j.toNat
  rw [z32 hj]
theorem z_in {j : Int} {n : Nat} (hj : r32 j) (h0 : 0 ≤ j) (h : j < n) : vp_in (Int32.ofInt j) n := by
  intro q
  rcases q with q | q
  · rw [← z32_0, z32_lt hj ⟨by decide, by decide⟩] at q; omega
  · rw [z_clamp hj h0] at q; omega
-- the parts of the world that stay
abbrev zG : Type := Nat × Nat × Nat × (Nat → Int32) × va_G × (Nat → ClassId) × Nat × (Nat → Nat) × (Nat → Nat) × Value × (Nat → Nat)
def gb (G : zG) : Nat := G.1
def gB (G : zG) : Nat := G.2.1
def gL (G : zG) : Nat := G.2.2.1
def gx (G : zG) : Nat → Int32 := G.2.2.2.1
def gD (G : zG) : va_G := G.2.2.2.2.1
def gA (G : zG) : Nat → ClassId := G.2.2.2.2.2.1
def gT (G : zG) : Nat := G.2.2.2.2.2.2.1
def gK (G : zG) : Nat → Nat := G.2.2.2.2.2.2.2.1
def gV (G : zG) : Nat → Nat := G.2.2.2.2.2.2.2.2.1
def gf (G : zG) : Value := G.2.2.2.2.2.2.2.2.2.1
/-- LAWS, DigitOnes, DigitTens -/
def gE (G : zG) : Nat → Nat := G.2.2.2.2.2.2.2.2.2.2
def zA (G : zG) : Nat → Prop := fun q => gB G ≤ q
def zTys (G : zG) : List (ClassId × FieldType) := [(gA G 0, .int), (gA G 1, .long), (gA G 2, .byte), (gA G 3, .int), (gA G 4, .object RX0), (gA G 5, .object RX4)]
def zsmall : List Int := [2, 3, 5, 7, 11, 13, 17, 19, 23, 29, 31, 37, 41, 43, 47, 53, 59, 61, 67, 71, 73, 79, 83, 89, 97, 101, 103, 107, 109, 113, 127, 131, 137, 139, 149, 151, 157, 163, 167, 173, 179, 181, 191, 193, 197, 199, 211, 223, 227, 229, 233, 239, 241, 251, 257, 263, 269, 271, 277, 281, 283, 293, 307, 311, 313, 317, 331, 337, 347, 349, 353, 359, 367, 373, 379, 383, 389, 397, 401, 409, 419, 421, 431, 433, 439, 443, 449, 457, 461, 463, 467, 479, 487, 491, 499, 503, 509, 521, 523, 541, 547, 557, 563, 569, 571, 577, 587, 593, 599, 601, 607, 613, 617, 619, 631, 641, 643, 647, 653, 659, 661, 673, 677, 683, 691, 701, 709, 719, 727, 733, 739, 743, 751, 757, 761, 769, 773, 787, 797, 809, 811, 821, 823, 827, 829, 839, 853, 857, 859, 863, 877, 881, 883, 887, 907, 911, 919, 929, 937, 941, 947, 953, 967, 971, 977, 983, 991, 997]
def zstrlen : List Nat := zstrs.map List.length
def zstrbyt : List (List Int32) := zstrs.map (fun l => l.map Int32.ofInt)
def zstrix : List Nat := [132, 138, 139, 140, 141, 143, 145, 147, 35, 56, 61, 66]
def zstrow (i : Nat) : String := if i < 8 then "SumWalker$Reader" else "SumWalkerLaw"
def zstrtx : List String := ["row", "bound", "steps", "law", "plain", "unitary", "reduced", "bare", "law ", ";bound ", ";steps ", "row "]
def zNw : List Cond := [.methodLinkNest "SumWalker" 9 ⟨"SumWalker$Reader", "<init>", "()V"⟩ "SumWalker", .methodLinkNest "SumWalker" 18 ⟨"SumWalker$Primes", "<init>", "()V"⟩ "SumWalker", .methodLinkNest "SumWalker" 43 ⟨"SumWalker$Walk", "<init>", "()V"⟩ "SumWalker", .methodLinkNest "SumWalker" 50 ⟨"SumWalker$Ink", "<init>", "()V"⟩ "SumWalker"]
def zFmt : String × String × String := ("jdk/internal/util/Preconditions", "SIOOBE_FORMATTER", "Ljava/util/function/BiFunction;")
/-- the bytes and references of the foreign rows, the texts' bytes -/
def zcn (a j : Int) : Int := if 10 ≤ a ∧ a < 18 then (zstrs.getD (a - 10).toNat []).getD j.toNat 0 else if 22 ≤ a ∧ a < 26 then (zstrs.getD (a - 14).toNat []).getD j.toNat 0 else if a = 26 then 6 + j else if a = 27 then 48 + j % 10 else if a = 28 then 48 + j / 10 else 0
def zCln : Cond := .castable "[B" "java/lang/Cloneable"
def zFixB (G : zG) (U : State) : Prop :=
  (va_Z "SumWalkerLaw" "LAWS" "[Ljava/lang/String;" (.ref (gE G 0)) (zA G) U U.heap ∧ va_T (.object "java/lang/String") (gE G 0) 4 (fun j => .ref (gK G (4 + j))) (zA G) U U.heap) ∧
  (va_Z "java/lang/Integer" "DigitOnes" "[B" (.ref (gE G 1)) (zA G) U U.heap ∧ va_T .byte (gE G 1) 100 (fun j => .int (Int32.ofInt (zcn 27 j))) (zA G) U U.heap) ∧
  (va_Z "java/lang/Integer" "DigitTens" "[B" (.ref (gE G 2)) (zA G) U U.heap ∧ va_T .byte (gE G 2) 100 (fun j => .int (Int32.ofInt (zcn 28 j))) (zA G) U U.heap) ∧ va_Nw zCln U
theorem zFixB.to {G : zG} {s U : State} (h : zFixB G s) (hW : s.WarmedH U.vm) (hq : ∀ a : Nat, a < s.heap.size → ¬ zA G a → U.heap[a]? = s.heap[a]?) : zFixB G U := by
  obtain ⟨⟨h1, h2⟩, ⟨h3, h4⟩, ⟨h5, h6⟩, h7⟩ := h
  have al := hW.alike
  exact ⟨⟨(h1.kept hq).moved al, (h2.kept hq).moved al⟩, ⟨(h3.kept hq).moved al, (h4.kept hq).moved al⟩, ⟨(h5.kept hq).moved al, (h6.kept hq).moved al⟩, va_Nw.warmC hW h7⟩
theorem zFixB.same {G : zG} {u U : State} (h : zFixB G u) (hv : U.vm = u.vm) (hh : U.heap = u.heap) : zFixB G U := by
  obtain ⟨⟨h1, h2⟩, ⟨h3, h4⟩, ⟨h5, h6⟩, h7⟩ := h
  have al : u.vm.Alike U.vm := by rw [hv]; exact Vm.Alike.refl _
  refine ⟨⟨by rw [hh]; exact h1.moved al, by rw [hh]; exact h2.moved al⟩, ⟨by rw [hh]; exact h3.moved al, by rw [hh]; exact h4.moved al⟩, ⟨by rw [hh]; exact h5.moved al, by rw [hh]; exact h6.moved al⟩, va_Nw.same rfl hv.symm h7⟩
def zFix (G : zG) (U : State) : Prop :=
  va_K (gD G) vwCl (zTys G) U ∧ va_X (gb G) (gL G) (gx G) U U.heap ∧ (gb G < gB G ∧ gB G ≤ U.heap.size) ∧
  va_Z "SumWalker$Primes" "SMALL" "[I" (.ref (gT G)) (zA G) U U.heap ∧ va_T .int (gT G) 168 (fun j => .int (Int32.ofInt (zsmall.getD j 0))) (zA G) U U.heap ∧
  va_Z "java/lang/String" "COMPACT_STRINGS" "Z" (.int 1) (zA G) U U.heap ∧ va_Z zFmt.1 zFmt.2.1 zFmt.2.2 (gf G) (zA G) U U.heap ∧ (gf G = .null ∨ ∃ t, gf G = .ref t) ∧
  vk_S 12 zstrlen zstrbyt (gK G) (gV G) (zA G) U U.heap ∧ (∀ i, i < 12 → vk_R (zstrow i) (zstrix.getD i 0) (zstrtx.getD i "") (gK G i) U) ∧
  (∀ w ∈ zNw, va_Nw w U) ∧ va_AO RX0 U ∧ va_AO RX4 U ∧ zFixB G U
theorem zFix.to {G : zG} {s U : State} (h : zFix G s) (hW : s.WarmedH U.vm) (hz : s.heap.size ≤ U.heap.size) (hq : ∀ a : Nat, a < s.heap.size → ¬ zA G a → U.heap[a]? = s.heap[a]?) : zFix G U := by
  obtain ⟨h1, h2, h3, h4, h5, h6, h7, h8, h9, h10, h11, h12, h13, h14⟩ := h
  have al := hW.alike
  refine ⟨h1.moved al, (h2.kept (hq _ (by omega) (by unfold zA; omega))).moved al, ⟨h3.1, by omega⟩, (h4.kept hq).moved al, (h5.kept hq).moved al, (h6.kept hq).moved al, (h7.kept hq).moved al, h8, (h9.kept hq).moved al, fun i hi => vk_R.warm hW (h10 i hi), fun w hw => ?_, va_AO.moved al h12, va_AO.moved al h13, h14.to hW hq⟩
  have hw1 := h11 w hw
  simp only [zNw, List.mem_cons, List.not_mem_nil, or_false] at hw
  rcases hw with rfl | rfl | rfl | rfl <;> exact va_Nw.warmM hW hw1
theorem zFix.same {G : zG} {u U : State} (h : zFix G u) (hv : U.vm = u.vm) (hh : U.heap = u.heap) : zFix G U := by
  obtain ⟨h1, h2, h3, h4, h5, h6, h7, h8, h9, h10, h11, h12, h13, h14⟩ := h
  have al : u.vm.Alike U.vm := by rw [hv]; exact Vm.Alike.refl _
  refine ⟨h1.moved al, by rw [hh]; exact h2.moved al, by rw [hh]; exact h3, by rw [hh]; exact h4.moved al, by rw [hh]; exact h5.moved al, by rw [hh]; exact h6.moved al, by rw [hh]; exact h7.moved al, h8, by rw [hh]; exact h9.moved al, fun i hi => vk_R.same hv (h10 i hi), fun w hw => ?_, va_AO.moved al h12, va_AO.moved al h13, h14.same hv hh⟩
  have hw1 := h11 w hw
  simp only [zNw, List.mem_cons, List.not_mem_nil, or_false] at hw
  rcases hw with rfl | rfl | rfl | rfl <;> exact va_Nw.same rfl hv.symm hw1
def zad (G : zG) (a : Int) : Nat := if a < 32 then (if a = 0 then gb G else if a = 1 then gT G else if a < 10 then gK G (a - 2).toNat else if a < 18 then gV G (a - 10).toNat else if a < 22 then gK G (a - 10).toNat else if a < 26 then gV G (a - 14).toNat else gE G (a - 26).toNat) else gB G + (a - 32).toNat
def zcv (G : zG) (v : zV) : Value := match v with
  | (0, x) => .int (Int32.ofInt x)
  | (1, x) => .long (Int64.ofInt x)
  | (2, a) => if a < 0 then .null else .ref (zad G a)
  | (4, _) => gf G
  | _ => .null
def zwf (v : zV) : Prop := (v.1 = 0 → r32 v.2) ∧ (v.1 = 1 → r64 v.2)
def zvt (k j : Nat) : Nat := if k < 100 then (ztag (zft k j) 0).1 else if k = 101 then 1 else if k < 104 then 0 else 2
def zrg (k j : Nat) (x : Int) : Prop := (zvt k j = 0 → r32 x) ∧ (zvt k j = 1 → r64 x)
def zarr (G : zG) (k : Nat) (f : Int → Int) : (Nat → Int32) ⊕ (Nat → Int64) ⊕ (Nat → UInt32) ⊕ (Nat → UInt64) ⊕ (Nat → Option Nat) :=
  if k = 101 then .inr (.inl fun j => Int64.ofInt (f j)) else if k < 104 then .inl fun j => Int32.ofInt (f j) else .inr (.inr (.inr (.inr fun j => if f j < 0 then none else some (zad G (f j)))))
def zcell (G : zG) (k n : Nat) (f : Int → Int) : va_E := if k < 100 then .inr (k, (List.range n).map fun j => zcv G (ztag (zft k j) (f j))) else .inl (gA G (k - 100), n, zarr G k f)
def zws (G : zG) (S : zHp) : va_W := (List.range S.2.1.length).map fun i => (gB G + i, zcell G (S.2.1.getD i (0, 0)).1 (S.2.1.getD i (0, 0)).2 (S.2.2 (32 + i)))
def zInv (G : zG) (S : zHp) : Prop :=
  (S.1 = gL G ∧ gL G < 2147483648) ∧ (∀ j : Nat, S.2.2 0 j = (gx G j).toInt) ∧ (∀ j : Nat, j < 168 → S.2.2 1 j = zsmall.getD j 0) ∧ (∀ a j : Nat, 2 ≤ a → a < 32 → S.2.2 a j = zcn a j) ∧
  ∀ (i k n : Nat), S.2.1[i]? = some (k, n) → n < 2147483648 ∧ (k < 8 ∧ n = znf.getD k 0 ∨ (100 ≤ k ∧ k < 106) ∧ k ≠ 103) ∧ ∀ j : Nat, zrg k j (S.2.2 (32 + i) j)
def zRel (G : zG) (S : zHp) (H : Heap) : Prop := H.size = gB G + S.2.1.length ∧ va_P (gD G) vwCl (zws G S) H ∧ zInv G S
theorem zws_get {G : zG} {S : zHp} {i k n : Nat} (h : S.2.1[i]? = some (k, n)) : (zws G S)[i]? = some (gB G + i, zcell G k n (S.2.2 (32 + i))) := by
  have hl : i < S.2.1.length := (List.getElem?_eq_some_iff.mp h).1
  unfold zws
  rw [List.getElem?_map, List.getElem?_range hl, Option.map_some, List.getD_eq_getElem?_getD, h]
  rfl
theorem zws_len (G : zG) (S : zHp) : (zws G S).length = S.2.1.length := by simp [zws]
theorem zws_at {G : zG} {S : zHp} {i : Nat} {q : Nat × va_E} (h : (zws G S)[i]? = some q) : i < S.2.1.length ∧ q.1 = gB G + i := by
  have hl : i < (zws G S).length := (List.getElem?_eq_some_iff.mp h).1
  rw [zws_len] at hl
  unfold zws at h
  rw [List.getElem?_map, List.getElem?_range hl] at h
  cases h
  exact ⟨hl, rfl⟩
theorem zws_D (G : zG) (S : zHp) : va_D (zA G) (zws G S) := by
  refine ⟨fun i j x y hi hj hxy => ?_, fun k q hk => ?_⟩
  · have h1 := (zws_at hi).2; have h2 := (zws_at hj).2; omega
  · have h1 := (zws_at hk).2
    show gB G ≤ q.1
    omega
theorem zsh_own {G : zG} {S : zHp} {a : Int} {q : Nat × Nat} (ha : 32 ≤ a) (h : zsh S a = some q) : S.2.1[(a - 32).toNat]? = some q ∧ a = 32 + ((a - 32).toNat : Int) ∧ zad G a = gB G + (a - 32).toNat := by
  unfold zsh at h
  rw [if_neg (by omega), if_neg (by omega)] at h
  refine ⟨h, by omega, ?_⟩
  unfold zad
  rw [if_neg (by omega)]
theorem zws_up {G : zG} {S : zHp} {a : Int} {j x : Int} {k n : Nat} (ha : 32 ≤ a) (h : S.2.1[(a - 32).toNat]? = some (k, n)) :
    zws G (S.1, S.2.1, zup S.2.2 a j x) = (zws G S).set (a - 32).toNat (gB G + (a - 32).toNat, zcell G k n (zup S.2.2 a j x a)) := by
  have hl : (a - 32).toNat < S.2.1.length := (List.getElem?_eq_some_iff.mp h).1
  apply List.ext_getElem?
  intro q
  rw [List.getElem?_set, zws_len, if_pos hl]
  by_cases hq : (a - 32).toNat = q
  · subst hq
    rw [if_pos rfl]
    refine (zws_get (G := G) (S := (S.1, S.2.1, zup S.2.2 a j x)) (k := k) (n := n) h).trans ?_
    rw [show (32 : Int) + ((a - 32).toNat : Int) = a by omega]
  · rw [if_neg hq]
    unfold zws
    rw [List.getElem?_map, List.getElem?_map]
    by_cases hq2 : q < S.2.1.length
    · rw [List.getElem?_range hq2]
      have e : (zup S.2.2 a j x) (32 + (q : Int)) = S.2.2 (32 + (q : Int)) := by
        funext t
        unfold zup
        rw [if_neg]
        omega
      show some (gB G + q, zcell G _ _ (zup S.2.2 a j x (32 + (q : Int)))) = some (gB G + q, zcell G _ _ (S.2.2 (32 + (q : Int))))
      rw [e]
    · have e1 : (List.range S.2.1.length)[q]? = none := by simp; omega
      show Option.map _ ((List.range S.2.1.length)[q]?) = _
      rw [e1]; rfl
theorem zws_push {G : zG} {S : zHp} {k n : Nat} {f : Int → Int} : zws G (S.1, S.2.1 ++ [(k, n)], znew S.2.2 (32 + S.2.1.length) f) = zws G S ++ [(gB G + S.2.1.length, zcell G k n f)] := by
  unfold zws
  show List.map _ (List.range (S.2.1 ++ [(k, n)]).length) = _
  rw [List.length_append, List.length_singleton, List.range_succ, List.map_append]
  congr 1
  · apply List.map_congr_left
    intro i hi
    have hl := List.mem_range.mp hi
    have e : (znew S.2.2 (32 + (S.2.1.length : Int)) f) (32 + (i : Int)) = S.2.2 (32 + (i : Int)) := by
      funext t
      unfold znew
      rw [if_neg]
      omega
    show (gB G + i, zcell G ((S.2.1 ++ [(k, n)]).getD i (0, 0)).1 ((S.2.1 ++ [(k, n)]).getD i (0, 0)).2 (znew S.2.2 (32 + (S.2.1.length : Int)) f (32 + (i : Int)))) = _
    rw [e, List.getD_eq_getElem?_getD, List.getElem?_append_left hl, List.getD_eq_getElem?_getD]
  · show [(gB G + S.2.1.length, zcell G ((S.2.1 ++ [(k, n)]).getD S.2.1.length (0, 0)).1 ((S.2.1 ++ [(k, n)]).getD S.2.1.length (0, 0)).2 (znew S.2.2 (32 + (S.2.1.length : Int)) f (32 + (S.2.1.length : Int))))] = _
    have e : (znew S.2.2 (32 + (S.2.1.length : Int)) f) (32 + (S.2.1.length : Int)) = f := by
      funext t
      unfold znew
      rw [if_pos rfl]
    rw [e, List.getD_eq_getElem?_getD, List.getElem?_append_right (Nat.le_refl _), Nat.sub_self]
    rfl
-- locals
def zloc (G : zG) : Nat → List zV → List (Nat × Value)
  | _, [] => []
  | i, v :: vs => if v.1 = 3 then zloc G (i + 1) vs else (i, zcv G v) :: zloc G (i + 1) vs
theorem zloc_mem {G : zG} : ∀ (ls : List zV) (i : Nat) (q : Nat × Value), q ∈ zloc G i ls ↔ ∃ (j : Nat) (v : zV), ls[j]? = some v ∧ v.1 ≠ 3 ∧ q = (i + j, zcv G v)
  | [], i, q => by simp [zloc]
  | v :: vs, i, q => by
    have ih := zloc_mem (G := G) vs (i + 1) q
    have key : (∃ (j : Nat) (w : zV), vs[j]? = some w ∧ w.1 ≠ 3 ∧ q = (i + 1 + j, zcv G w)) ↔ ∃ (j : Nat) (w : zV), (v :: vs)[j + 1]? = some w ∧ w.1 ≠ 3 ∧ q = (i + (j + 1), zcv G w) := by
      constructor
      · rintro ⟨j, w, h1, h2, h3⟩
        exact ⟨j, w, by simpa using h1, h2, by rw [h3]; congr 1; omega⟩
      · rintro ⟨j, w, h1, h2, h3⟩
        exact ⟨j, w, by simpa using h1, h2, by rw [h3]; congr 1; omega⟩
    rw [zloc]
    split
    · rename_i h3
      rw [ih, key]
      constructor
      · rintro ⟨j, w, h⟩; exact ⟨j + 1, w, h⟩
      · rintro ⟨j, w, h1, h2, h4⟩
        cases j with
        | zero => simp at h1; rw [h1] at h3; exact absurd h3 h2
        | succ j => exact ⟨j, w, h1, h2, h4⟩
    · rename_i h3
      rw [List.mem_cons, ih, key]
      constructor
      · rintro (h | ⟨j, w, h⟩)
        · exact ⟨0, v, rfl, h3, by simpa using h⟩
        · exact ⟨j + 1, w, h⟩
      · rintro ⟨j, w, h1, h2, h4⟩
        cases j with
        | zero => simp at h1; left; rw [h4, h1]; rfl
        | succ j => right; exact ⟨j, w, h1, h2, h4⟩
theorem lv_mono {ls : Array Slot} {nL : Nat} {l l' : List (Nat × Value)} (h : lv_has ls nL l) (hl : ∀ q ∈ l', q ∈ l) : lv_has ls nL l' := ⟨h.1, h.2.1, fun q hq => h.2.2 q (hl q hq)⟩
theorem zloc_at {G : zG} {lm : Array Slot} {nL : Nat} {ls : List zV} {i : Nat} {v : zV} (h : lv_has lm nL (zloc G 0 ls)) (hi : ls[i]? = some v) (hv : v.1 ≠ 3) : lm[i]? = some (.val (zcv G v)) := by
  have := h.2.2 (i, zcv G v) ((zloc_mem ls 0 _).mpr ⟨i, v, hi, hv, by simp⟩)
  exact this
theorem zkill_get (ls : List zV) (i j : Nat) (w : zV) (h : (zkill ls i)[j]? = some w) (hw : w.1 ≠ 3) : ls[j]? = some w ∧ ¬ (j + 1 = i ∧ w.1 = 1) := by
  unfold zkill at h
  cases i with
  | zero => exact ⟨h, by omega⟩
  | succ k =>
    dsimp only at h
    split at h
    · rename_i hk
      rw [List.getElem?_set] at h
      split at h
      · split at h
        · cases h; exact absurd rfl hw
        · cases h
      · rename_i hne
        exact ⟨h, fun q => hne (by omega)⟩
    · rename_i hk
      refine ⟨h, fun q => hk ?_⟩
      have : j = k := by omega
      subst this
      rw [List.getD_eq_getElem?_getD, h]
      exact q.2
theorem zcv_cat (G : zG) (v : zV) (h : gf G = .null ∨ ∃ t, gf G = .ref t) : (zcv G v).category = zcat v := by
  obtain ⟨k, x⟩ := v
  unfold zcv zcat
  split
  · rename_i e; cases e; rfl
  · rename_i e; cases e; rfl
  · rename_i a e
    cases e
    split <;> rfl
  · rename_i e
    cases e
    rcases h with h | ⟨t, h⟩ <;> rw [h] <;> rfl
  · rename_i h0 h1 h2 h4
    have : k ≠ 1 := fun q => h1 x (by rw [q])
    simp [this, Value.category]
theorem zset1_loc {G : zG} {ls : List zV} {i : Nat} {v : zV} (hg : gf G = .null ∨ ∃ t, gf G = .ref t) : ∀ q ∈ zloc G 0 (zset1 ls i v), q ∈ (i, zcv G v) :: (zloc G 0 ls).filter (fun q => !(q.1 == i) && !(q.1 + 1 == i && q.2.category == 2)) := by
  intro q hq
  obtain ⟨j, w, h1, h2, h3⟩ := (zloc_mem _ 0 q).mp hq
  rw [Nat.zero_add] at h3
  subst h3
  unfold zset1 at h1
  rw [List.getElem?_set] at h1
  split at h1
  · rename_i e
    split at h1
    · cases h1; rw [e]; exact List.mem_cons_self
    · cases h1
  · rename_i hne
    obtain ⟨g1, g2⟩ := zkill_get _ _ _ _ h1 h2
    refine List.mem_cons_of_mem _ (List.mem_filter.mpr ⟨(zloc_mem ls 0 _).mpr ⟨j, w, g1, h2, by simp⟩, ?_⟩)
    rw [zcv_cat G w hg]
    simp only [Bool.and_eq_true, Bool.not_eq_true', beq_eq_false_iff_ne, ne_eq, Bool.and_eq_false_iff]
    refine ⟨fun e => hne e.symm, ?_⟩
    by_cases e : j + 1 = i
    · right
      unfold zcat
      rw [if_neg (fun z => g2 ⟨e, z⟩)]
      decide
    · left; exact e
theorem zset2_loc {G : zG} {ls : List zV} {i : Nat} {v : zV} (hg : gf G = .null ∨ ∃ t, gf G = .ref t) : ∀ q ∈ zloc G 0 (zset2 ls i v), q ∈ (i, zcv G v) :: (zloc G 0 ls).filter (fun q => !(q.1 == i) && (!(q.1 == i + 1) && !(q.1 + 1 == i && q.2.category == 2))) := by
  intro q hq
  obtain ⟨j, w, h1, h2, h3⟩ := (zloc_mem _ 0 q).mp hq
  rw [Nat.zero_add] at h3
  subst h3
  unfold zset2 at h1
  rw [List.getElem?_set] at h1
  split at h1
  · split at h1
    · cases h1; exact absurd rfl h2
    · cases h1
  · rename_i hne1
    rw [List.getElem?_set] at h1
    split at h1
    · rename_i e
      split at h1
      · cases h1; rw [e]; exact List.mem_cons_self
      · cases h1
    · rename_i hne
      obtain ⟨g1, g2⟩ := zkill_get _ _ _ _ h1 h2
      refine List.mem_cons_of_mem _ (List.mem_filter.mpr ⟨(zloc_mem ls 0 _).mpr ⟨j, w, g1, h2, by simp⟩, ?_⟩)
      rw [zcv_cat G w hg]
      simp only [Bool.and_eq_true, Bool.not_eq_true', beq_eq_false_iff_ne, ne_eq, Bool.and_eq_false_iff]
      refine ⟨fun e => hne e.symm, fun e => hne1 e.symm, ?_⟩
      by_cases e : j + 1 = i
      · right
        unfold zcat
        rw [if_neg (fun z => g2 ⟨e, z⟩)]
        decide
      · left; exact e
theorem zkill_len (ls : List zV) (i : Nat) : (zkill ls i).length = ls.length := by
  unfold zkill
  cases i with
  | zero => rfl
  | succ k => dsimp only; split <;> simp
theorem zset1_len (ls : List zV) (i : Nat) (v : zV) : (zset1 ls i v).length = ls.length := by simp [zset1, zkill_len]
theorem zset2_len (ls : List zV) (i : Nat) (v : zV) : (zset2 ls i v).length = ls.length := by simp [zset2, zkill_len]
theorem zwfJ : zwf zJ := ⟨fun h => absurd h (by decide), fun h => absurd h (by decide)⟩
theorem zkill_wf {ls : List zV} {i : Nat} (h : ∀ v ∈ ls, zwf v) : ∀ v ∈ zkill ls i, zwf v := by
  unfold zkill
  cases i with
  | zero => exact h
  | succ k =>
    dsimp only
    split
    · intro v hv
      rcases List.mem_or_eq_of_mem_set hv with q | q
      · exact h v q
      · rw [q]; exact zwfJ
    · exact h
theorem zset1_wf {ls : List zV} {i : Nat} {x : zV} (h : ∀ v ∈ ls, zwf v) (hx : zwf x) : ∀ v ∈ zset1 ls i x, zwf v := by
  intro v hv
  rcases List.mem_or_eq_of_mem_set hv with q | q
  · exact zkill_wf h v q
  · rw [q]; exact hx
theorem zset2_wf {ls : List zV} {i : Nat} {x : zV} (h : ∀ v ∈ ls, zwf v) (hx : zwf x) : ∀ v ∈ zset2 ls i x, zwf v := by
  intro v hv
  rcases List.mem_or_eq_of_mem_set hv with q | q
  · rcases List.mem_or_eq_of_mem_set q with q | q
    · exact zkill_wf h v q
    · rw [q]; exact hx
  · rw [q]; exact zwfJ
