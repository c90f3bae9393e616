/-! the whole claim out of a run of the small machine -/
/-- the cells that are there at the start -/
def zH0 (xs : Nat → Int32) : Int → Int → Int := fun a j =>
  if a = 0 then (xs j.toNat).toInt else if a = 1 then zsmall.getD j.toNat 0 else if 10 ≤ a ∧ a < 18 then (zstrs.getD (a - 10).toNat []).getD j.toNat 0 else zcn a j
def zRun (L : Nat) (xs : Nat → Int32) : Prop := ∃ (n : Nat) (S' : zHp), ex n 2000 0 0 [zR 0, zJ, zJ, zJ] [] (L, [], zH0 xs) = some (zI 1, S') ∧ S'.2.1.length ≤ 600000 ∧ zslots S' ≤ 7302250
def zGiven : List Cond := flatC (Jvm.Cond.and given_1 narrow_1)
theorem zg_in {args : Array Value} {s : State} (h : (Jvm.Cond.and given_1 narrow_1).before args s = true) (p : Nat) (w : Cond) (hw : zat zGiven p = some w) : w.before args s = true := flat_of_before _ h _ (zat_mem _ _ _ hw)
theorem zg_small : (List.range 168).all (fun j => decide (zat zGiven (7 + j) = some (Cond.eq (.elem (.static "SumWalker$Primes" "SMALL" "[I") (.int (Int32.ofNat j))) (.int (Int32.ofInt (zsmall.getD j 0)))))) = true := by decide +kernel
def zspl : List Nat := [407, 414, 424, 435, 445, 458, 474, 491, 506, 522, 542, 563]
def ztm (i : Nat) : Term := .string (zstrow i) (zstrix.getD i 0)
theorem zg_str : (List.range 12).all (fun i => decide (zat zGiven (zspl.getD i 0) = some (Cond.exactly (ztm i) "java/lang/String")) && decide (zat zGiven (zspl.getD i 0 + 1) = some (Cond.eq (.field (ztm i) "java/lang/String" "coder" "B") (.int 0))) && decide (zat zGiven (zspl.getD i 0 + 2) = some (Cond.arrayOf (.field (ztm i) "java/lang/String" "value" "[B") .byte)) &&
  decide (zat zGiven (zspl.getD i 0 + 3) = some (Cond.eq (.length (.field (ztm i) "java/lang/String" "value" "[B")) (.int (Int32.ofNat (zstrlen.getD i 0))))) && (List.range (zstrlen.getD i 0)).all (fun j => decide (zat zGiven (zspl.getD i 0 + 4 + j) = some (Cond.eq (.elem (.field (ztm i) "java/lang/String" "value" "[B") (.int (Int32.ofNat j))) (.int ((zstrbyt.getD i []).getD j 0)))))) = true := by decide +kernel
def znepl : List Nat := [423, 433, 434, 442, 443, 444, 454, 455, 456, 457, 469, 470, 471, 472, 473, 485, 486, 487, 488, 489, 490, 499, 500, 501, 502, 503, 504, 505, 514, 515, 516, 517, 518, 519, 520, 521, 533, 534, 535, 536, 537, 538, 539, 540, 541, 553, 554, 555, 556, 557, 558, 559, 560, 561, 562, 571, 572, 573, 574, 575, 576, 577, 578, 579, 580, 581]
def znepr : List (Nat × Nat) := [(0, 1), (0, 2), (1, 2), (0, 3), (1, 3), (2, 3), (0, 4), (1, 4), (2, 4), (3, 4), (0, 5), (1, 5), (2, 5), (3, 5), (4, 5), (0, 6), (1, 6), (2, 6), (3, 6), (4, 6), (5, 6), (0, 7), (1, 7), (2, 7), (3, 7), (4, 7), (5, 7), (6, 7), (0, 8), (1, 8), (2, 8), (3, 8), (4, 8), (5, 8), (6, 8), (7, 8), (0, 9), (1, 9), (2, 9), (3, 9), (4, 9), (5, 9), (6, 9), (7, 9), (8, 9), (0, 10), (1, 10), (2, 10), (3, 10), (4, 10), (5, 10), (6, 10), (7, 10), (8, 10), (9, 10), (0, 11), (1, 11), (2, 11), (3, 11), (4, 11), (5, 11), (6, 11), (7, 11), (8, 11), (9, 11), (10, 11)]
theorem zg_ne : (znepr.zip znepl).all (fun q => decide (zat zGiven q.2 = some (Cond.not (Cond.eq (ztm q.1.1) (ztm q.1.2))))) = true := by decide +kernel
theorem znepr_all : ∀ i j : Nat, i < 12 → j < 12 → i < j → ∃ q ∈ znepr.zip znepl, q.1 = (i, j) ∨ q.1 = (j, i) := by
  have h : (List.range 12).all (fun j => (List.range j).all fun i => (znepr.zip znepl).any fun q => decide (q.1 = (i, j) ∨ q.1 = (j, i))) = true := by decide +kernel
  intro i j hi hj hij
  have h1 := List.all_eq_true.mp (List.all_eq_true.mp h j (List.mem_range.mpr hj)) i (List.mem_range.mpr hij)
  obtain ⟨q, hq, e⟩ := List.any_eq_true.mp h1
  exact ⟨q, hq, of_decide_eq_true e⟩
theorem zg_dig : (List.range 100).all (fun j => decide (zat zGiven (190 + j) = some (Cond.eq (.elem (.static "java/lang/Integer" "DigitOnes" "[B") (.int (Int32.ofNat j))) (.int (Int32.ofInt (zcn 27 j))))) && decide (zat zGiven (293 + j) = some (Cond.eq (.elem (.static "java/lang/Integer" "DigitTens" "[B") (.int (Int32.ofNat j))) (.int (Int32.ofInt (zcn 28 j)))))) = true := by decide +kernel
theorem zg_laws : (List.range 4).all (fun j => decide (zat zGiven (183 + j) = some (Cond.eq (.elem (.static "SumWalkerLaw" "LAWS" "[Ljava/lang/String;") (.int (Int32.ofNat j))) (.string "SumWalkerLaw" (151 + 2 * j)))) && decide (zat zGiven (([595, 619, 644, 667] : List Nat).getD j 0) = some (Cond.eq (ztm (4 + j)) (.string "SumWalkerLaw" (151 + 2 * j))))) = true := by decide +kernel
def R_law : String := "SumWalkerLaw"
def lw_P (b : Addr) (xs : List Int32) (args : Array Value) (s : State) : Prop := args = #[.ref b] ∧ s.IntsAt b xs ∧ xs.length ≤ 260 ∧ (Jvm.Cond.and given_1 narrow_1).before args s = true
def lw_Q (_ : Array Value) (s : State) (o : Outcome) (t : State) : Prop := o = .returned (some (.int 1)) ∧ Framed s o t [] 600000 7302250
def lw_Z (below : List Frame) (a : Array Value) (s : State) : State → Prop := fun t => ∃ o, t.status = .running ∧ Ended t below o ∧ lw_Q a s o t
/-- the law's own end, with 1 on the stack, nothing written that was there before, its room as the claim has it -/
theorem lw_ret {p : Program} {l : Launch} {e : Env} {s : State} {m : MethodId} {below : List Frame} {meth : Method} {c : Code} {b : Nat} (hx : p.tables.exec = Jvm.exec) (hb : c.code = code) (hr : meth.sig.returnType = ret) (hlocks : meth.locks = false) {pc : Nat} {H : Heap} {ls : Array Slot} (hdg : decode code pc = .ok (.ireturn, 1)) : W p l e room_1 s m #[Value.ref b] below meth c H [] 600000 7302250 (lw_Z below #[Value.ref b] s) (F0 m pc ls [.int 1]) := by
  intro T hT X
  obtain ⟨fs, hret, hrun, hended, hW, hframe⟩ := X.leave (v := some (.int 1)) (hlocks := hlocks) (fun h => by rw [hr] at h; cases h)
  have hmeth' : T.vm.method? m = some meth := X.method'
  refine ⟨T.setFrames fs, ?_, .returned (some (.int 1)), hrun, hended, rfl, ⟨_, rfl⟩, hW, hframe⟩
  jvm_step X.here [X.here.top, hx, hb, hdg, hmeth', hr, ret, narrow_b1]
  (try refine ⟨rfl, ?_⟩); (try refine ⟨rfl, ?_⟩)
  first | (intro acts; rw [hret _ acts rfl rfl rfl]) | rw [hret _ _ rfl rfl rfl]
  exact Steps.refl _
/-- what holds at the law's entry: the machine, the code, the tables' words (any of lw_tbl by 'hts w (by decide +kernel)'), the script of L ints xs at the cell b, what the Statement gives of the start (any of its parts by flat_of_before) -/
def lw_At (p : Program) (s : State) (m : MethodId) (meth : Method) (c : Code) (b L : Nat) (xs : Nat → Int32) : Prop :=
  p.tables.exec = Jvm.exec ∧ c.code = code ∧ meth.sig.returnType = ret ∧ c.maxLocals = 4 ∧ s.vm.findClass R_law = some m.cls ∧ (∀ w ∈ lw_tbl, w.before #[Value.ref b] s = true) ∧ va_X b L xs s s.heap ∧ b < s.heap.size ∧ meth.locks = false ∧ (Jvm.Cond.and given_1 narrow_1).before #[Value.ref b] s = true
theorem zpart_in4 (k : Nat) (hk : k < 5) (w : Cond) (h : w ∈ zpart k) : w ∈ lw_tbl := by
  have hl : lw_tbl = k2_sels lw_privs ++ (tables_1_1 ++ (tables_1_2 ++ (tables_1_3 ++ tables_1_4))) := rfl
  rw [hl]
  simp only [List.mem_append]
  match k, hk with
  | 0, _ => exact Or.inl h
  | 1, _ => exact Or.inr (Or.inl h)
  | 2, _ => exact Or.inr (Or.inr (Or.inl h))
  | 3, _ => exact Or.inr (Or.inr (Or.inr (Or.inl h)))
  | 4, _ => exact Or.inr (Or.inr (Or.inr (Or.inr h)))
  | n + 5, h => omega
theorem zl_in {args : Array Value} {s : State} (hts : ∀ w ∈ lw_tbl, w.before args s = true) (p : Nat) (w : Cond) (h : p / 1024 < 5 ∧ zat (zpart (p / 1024)) (p % 1024) = some w) : w.before args s = true := hts w (zpart_in4 _ h.1 _ (zat_mem _ _ _ h.2))
theorem zXsel_in {args : Array Value} {s : State} (hts : ∀ w ∈ lw_tbl, w.before args s = true) : ∀ w ∈ zXsel ++ lw_tbl, w.before args s = true := by
  have h0 : (Cond.selects RX6 (zXy "isLatin1" "()Z") (zXy "isLatin1" "()Z")).before args s = true := zl_in hts 3210 _ (by decide +kernel)
  have h1 : (Cond.instanceMethod (zXy "isLatin1" "()Z")).before args s = true := zl_in hts 3208 _ (by decide +kernel)
  intro w hw
  rcases List.mem_append.mp hw with hw | hw
  · simp only [zXsel, List.mem_cons, List.not_mem_nil, or_false] at hw
    rcases hw with rfl | rfl | rfl | rfl
    · exact zXsel_of h0 h1 rfl ⟨by decide, by decide⟩ (zl_in hts 3178 _ (by decide +kernel)) (zl_in hts 3179 _ (by decide +kernel))
    · exact zXsel_of h0 h1 rfl ⟨by decide, by decide⟩ (zl_in hts 3182 _ (by decide +kernel)) (zl_in hts 3183 _ (by decide +kernel))
    · exact zXsel_of h0 h1 rfl ⟨by decide, by decide⟩ (zl_in hts 3229 _ (by decide +kernel)) (zl_in hts 3230 _ (by decide +kernel))
    · exact zXsel_of h0 h1 rfl ⟨by decide, by decide⟩ (zl_in hts 3233 _ (by decide +kernel)) (zl_in hts 3234 _ (by decide +kernel))
  · exact hts w hw
theorem zInv0 {G : zG} (hL : gL G ≤ 260) : zInv G (gL G, [], zH0 (gx G)) := by
  refine ⟨⟨rfl, by omega⟩, fun j => ?_, fun j hj => ?_, fun a j ha1 ha2 => ?_, fun i k n h => by simp at h⟩
  · show zH0 (gx G) 0 j = _
    unfold zH0
    rw [if_pos rfl]; rfl
  · show zH0 (gx G) 1 j = _
    unfold zH0
    rw [if_neg (by decide), if_pos rfl]; rfl
  · show zH0 (gx G) a j = _
    unfold zH0
    rw [if_neg (by omega), if_neg (by omega)]
    split
    · rename_i h
      unfold zcn
      rw [if_pos h]
    · rfl
set_option maxHeartbeats 4000000 in
theorem whole_open {p : Program} {e : Env} {s : State} {m : MethodId} {below : List Frame} {meth : Method} {c : Code} (l : Launch) {b L : Nat} {xs : Nat → Int32} (hL : L ≤ 260) (C0 : lw_At p s m meth c b L xs) (hrun : zRun L xs) : W p l e room_1 s m #[Value.ref b] below meth c s.heap [] 0 0 (lw_Z below #[Value.ref b] s) (entryFrame m ([Value.ref b] : List Value).toArray 4) := by
  obtain ⟨hx, hb, hr, hml, hown, hts, hX, hbl, hlocks, hgv⟩ := id C0
  have htz : ∀ w ∈ zTs, w.before #[Value.ref b] s = true := fun w hw => zXsel_in hts w (List.mem_filter.mp hw).1
  have zk : ∀ ci, ci < 8 → ∀ C T N ty, zCl ci C T N ty → ∃ (cC : ClassId) (iS : Nat → Nat), u_Kn s C T N cC iS := by
    intro ci hci C T N ty hCl
    have hi := (zinst_in hci).1
    have hCn : zCn ci = C := by unfold zCn; rw [List.getD_eq_getElem?_getD, hCl.1]; rfl
    rw [hCn] at hi
    exact u_known htz hCl.2.1 (htz _ hi)
  have hall : ∀ ci : Nat, ∃ (q : ClassId × (Nat → Nat)), ∀ r : vw_C, vwCl[ci]? = some r → u_Kn s r.1 r.2.1 r.2.2 q.1 q.2 := by
    intro ci
    by_cases hci : ci < 8
    · obtain ⟨C, T, N, ty, hCl⟩ := zCl_all hci
      obtain ⟨cC, iS, hK⟩ := zk ci hci C T N ty hCl
      refine ⟨(cC, iS), fun r hr => ?_⟩
      cases hCl.1.symm.trans hr
      exact hK
    · exact ⟨(0, fun _ => 0), fun r hr => by
        rw [List.getElem?_eq_none (by show 8 ≤ ci; omega)] at hr
        cases hr⟩
  obtain ⟨dq, hdq⟩ := Classical.axiomOfChoice hall
  -- array classes
  have arr : ∀ t : FieldType, Cond.arrayClass t ∈ zTs → ∃ cA : ClassId, ArrOfT s cA t ∧ s.vm.findClass ("[" ++ t.toString) = some cA := by
    intro t ht
    obtain ⟨cA, k, comp, h1, h2, h3⟩ := Cond.arrayClass_spec (show (Cond.arrayClass t).holds #[Value.ref b] s none s [] = true from htz _ ht)
    exact ⟨cA, fun n z => ⟨fun k h => (by cases h), k, h2, comp, h3⟩, h1⟩
  obtain ⟨a0, A0, B0⟩ := arr _ zw_int
  obtain ⟨a1, A1, B1⟩ := arr _ zw_long
  obtain ⟨a2, A2, B2⟩ := arr _ zw_byte
  have arq : ∀ C : String, (Cond.arrayOver (.object C)).before #[Value.ref b] s = true → ∃ cA : ClassId, ArrOfT s cA (.object C) ∧ va_RA s cA (.object C) := by
    intro C hC
    obtain ⟨comp, cA, k, h1, -, h3, h4, h5⟩ := Cond.arrayOver_spec (show (Cond.arrayOver (.object C)).holds #[Value.ref b] s none s [] = true from hC)
    exact ⟨cA, fun n z => ⟨fun k h => (by cases h), k, h3, comp, h4⟩, k, comp, h3, h4, h1, h5⟩
  have o4 : (Cond.arrayOver (.object RX0)).before #[Value.ref b] s = true := zl_in hts 1155 _ (by decide +kernel)
  have o5 : (Cond.arrayOver (.object RX4)).before #[Value.ref b] s = true := zl_in hts 1157 _ (by decide +kernel)
  obtain ⟨a4, A4, B4⟩ := arq _ o4
  obtain ⟨a5, A5, B5⟩ := arq _ o5
  have hA : ∀ a : Nat, a < s.heap.size → ¬ s.heap.size ≤ a := fun a h q => by omega
  -- the table, the statics
  obtain ⟨tS, htS, hTS⟩ := va_Tof (s := s) (args := #[Value.ref b]) (tm := .static "SumWalker$Primes" "SMALL" "[I") (ty := .int) (N := 168) (f := fun j => .int (Int32.ofInt (zsmall.getD j 0))) (A := fun q => s.heap.size ≤ q) (by decide)
    (zg_in hgv 5 _ (by decide +kernel)) (va_eqt (zg_in hgv 6 _ (by decide +kernel)))
    (fun j hj => va_eqt (zg_in hgv (7 + j) _ (by
      have := List.all_eq_true.mp zg_small j (List.mem_range.mpr hj)
      simpa using this))) hA
  have hZS := va_Zref (s := s) (args := #[Value.ref b]) (A := fun q => s.heap.size ≤ q) (zl_in hts 2063 (.laysStatic "SumWalker$Primes" "SMALL" "[I") (by decide +kernel)) (zl_in hts 1027 (.initialized "SumWalker$Primes") (by decide +kernel)) htS hA
  have hZC := va_Zof (s := s) (args := #[Value.ref b]) (A := fun q => s.heap.size ≤ q) (zl_in hts 2215 (.laysStatic "java/lang/String" "COMPACT_STRINGS" "Z") (by decide +kernel)) (zl_in hts 1033 (.initialized "java/lang/String") (by decide +kernel)) (va_eqi (zg_in hgv 175 (.eq (.static "java/lang/String" "COMPACT_STRINGS" "Z") (.int 1)) (by decide +kernel))) hA
  have hZF := va_Zqof (s := s) (args := #[Value.ref b]) (A := fun q => s.heap.size ≤ q) (zl_in hts 2231 (.laysStatic zFmt.1 zFmt.2.1 zFmt.2.2) (by decide +kernel)) (zl_in hts 1039 (.initialized zFmt.1) (by decide +kernel)) (zg_in hgv 176 _ (by decide +kernel)) hA
  obtain ⟨fv, hfv, hZf⟩ : ∃ fv : Value, (fv = .null ∨ ∃ t, fv = .ref t) ∧ va_Z zFmt.1 zFmt.2.1 zFmt.2.2 fv (fun q => s.heap.size ≤ q) s s.heap := by
    rcases hZF with h | ⟨t, h⟩
    · exact ⟨_, Or.inl rfl, h⟩
    · exact ⟨_, Or.inr ⟨t, rfl⟩, h⟩
  -- texts
  have hstr := fun i (hi : i < 12) => List.all_eq_true.mp zg_str i (List.mem_range.mpr hi)
  obtain ⟨adK, adV, hST, hev⟩ := vk_Sof (s := s) (args := #[Value.ref b]) (N := 12) (tm := ztm) (len := zstrlen) (byt := zstrbyt) (A := fun q => s.heap.size ≤ q)
    (fun i hi => by rw [zstr_len hi]; have : ∀ j, j < 12 → (zstrs.getD j []).length < 2 ^ 31 := by decide
                    exact this i hi)
    (fun i hi => by have := hstr i hi; simp only [Bool.and_eq_true, decide_eq_true_eq] at this; exact zg_in hgv _ _ this.1.1.1.1)
    (fun i hi => by have := hstr i hi; simp only [Bool.and_eq_true, decide_eq_true_eq] at this; exact zg_in hgv _ _ this.1.1.1.2)
    (fun i hi => by have := hstr i hi; simp only [Bool.and_eq_true, decide_eq_true_eq] at this; exact zg_in hgv _ _ this.1.1.2)
    (fun i hi => by have := hstr i hi; simp only [Bool.and_eq_true, decide_eq_true_eq] at this; exact zg_in hgv _ _ this.1.2)
    (fun i hi j hj => by
      have := hstr i hi
      simp only [Bool.and_eq_true, decide_eq_true_eq] at this
      have h2 := List.all_eq_true.mp this.2 j (List.mem_range.mpr hj)
      simp only [decide_eq_true_eq] at h2
      exact zg_in hgv _ _ h2)
    (fun i j hi hj hij => by
      have key : ∀ i j : Nat, i < 12 → j < 12 → i < j → (Cond.not (Cond.eq (ztm i) (ztm j))).before #[Value.ref b] s = true ∨ (Cond.not (Cond.eq (ztm j) (ztm i))).before #[Value.ref b] s = true := by
        intro i j hi hj hij
        obtain ⟨q, hq, e⟩ := znepr_all i j hi hj hij
        have := List.all_eq_true.mp zg_ne _ hq
        simp only [decide_eq_true_eq] at this
        have h2 := zg_in hgv _ _ this
        rcases e with e | e
        · rw [e] at h2; exact Or.inl h2
        · rw [e] at h2; exact Or.inr h2
      rcases Nat.lt_or_ge i j with q | q
      · exact key i j hi hj q
      · exact (key j i hj hi (by omega)).symm)
    hA
  -- LAWS, the digits
  have hlw := fun j (hj : j < 4) => List.all_eq_true.mp zg_laws j (List.mem_range.mpr hj)
  obtain ⟨tL, htL, hTL⟩ := va_Tof (s := s) (args := #[Value.ref b]) (tm := .static "SumWalkerLaw" "LAWS" "[Ljava/lang/String;") (ty := .object "java/lang/String") (N := 4) (f := fun j => .ref (adK (4 + j))) (A := fun q => s.heap.size ≤ q) (by decide)
    (zg_in hgv 181 _ (by decide +kernel)) (va_eqt (zg_in hgv 182 _ (by decide +kernel)))
    (fun j hj => by
      have h1 := hlw j hj
      simp only [Bool.and_eq_true, decide_eq_true_eq] at h1
      exact va_eqv (zg_in hgv _ _ h1.1) (va_eqR (zg_in hgv _ _ h1.2) (hev (4 + j) (by omega)))) hA
  have hZL := va_Zref (s := s) (args := #[Value.ref b]) (A := fun q => s.heap.size ≤ q) (zl_in hts 3274 (.laysStatic "SumWalkerLaw" "LAWS" "[Ljava/lang/String;") (by decide +kernel)) (zl_in hts 1024 (.initialized "SumWalkerLaw") (by decide +kernel)) htL hA
  have hdg := fun j (hj : j < 100) => List.all_eq_true.mp zg_dig j (List.mem_range.mpr hj)
  obtain ⟨tO, htO, hTO⟩ := va_Tof (s := s) (args := #[Value.ref b]) (tm := .static "java/lang/Integer" "DigitOnes" "[B") (ty := .byte) (N := 100) (f := fun j => .int (Int32.ofInt (zcn 27 j))) (A := fun q => s.heap.size ≤ q) (by decide)
    (zg_in hgv 188 _ (by decide +kernel)) (va_eqt (zg_in hgv 189 _ (by decide +kernel)))
    (fun j hj => va_eqt (zg_in hgv (190 + j) _ (by
      have h1 := hdg j hj
      simp only [Bool.and_eq_true, decide_eq_true_eq] at h1
      exact h1.1))) hA
  have hZO := va_Zref (s := s) (args := #[Value.ref b]) (A := fun q => s.heap.size ≤ q) (zl_in hts 3294 (.laysStatic "java/lang/Integer" "DigitOnes" "[B") (by decide +kernel)) (zl_in hts 1041 (.initialized "java/lang/Integer") (by decide +kernel)) htO hA
  obtain ⟨tE, htE, hTE⟩ := va_Tof (s := s) (args := #[Value.ref b]) (tm := .static "java/lang/Integer" "DigitTens" "[B") (ty := .byte) (N := 100) (f := fun j => .int (Int32.ofInt (zcn 28 j))) (A := fun q => s.heap.size ≤ q) (by decide)
    (zg_in hgv 291 _ (by decide +kernel)) (va_eqt (zg_in hgv 292 _ (by decide +kernel)))
    (fun j hj => va_eqt (zg_in hgv (293 + j) _ (by
      have h1 := hdg j hj
      simp only [Bool.and_eq_true, decide_eq_true_eq] at h1
      exact h1.2))) hA
  have hZE := va_Zref (s := s) (args := #[Value.ref b]) (A := fun q => s.heap.size ≤ q) (zl_in hts 3296 (.laysStatic "java/lang/Integer" "DigitTens" "[B") (by decide +kernel)) (zl_in hts 1041 (.initialized "java/lang/Integer") (by decide +kernel)) htE hA
  let G : zG := (b, s.heap.size, L, xs, (fun k => (dq k).1, fun k => (dq k).2), (fun k => if k = 0 then a0 else if k = 1 then a1 else if k = 2 then a2 else if k = 3 then a0 else if k = 4 then a4 else a5), tS, adK, adV, fv, fun k => if k = 0 then tL else if k = 1 then tO else tE)
  have hfix : zFix G s := by
    refine ⟨⟨fun k q hq => hdq k q hq, fun k q hq => ?_⟩, hX, ⟨hbl, Nat.le_refl _⟩, hZS, hTS, hZC, hZf, hfv, hST, fun i hi => ?_, fun w hw => ?_, va_AO.of o4, va_AO.of o5, ⟨hZL, hTL⟩, ⟨hZO, hTO⟩, ⟨hZE, hTE⟩, va_Nw.of rfl (zl_in hts 3201 _ (by decide +kernel))⟩
    · match k, hq with
      | 0, hq => cases hq; exact ⟨A0, B0⟩
      | 1, hq => cases hq; exact ⟨A1, B1⟩
      | 2, hq => cases hq; exact ⟨A2, B2⟩
      | 3, hq => cases hq; exact ⟨A0, B0⟩
      | 4, hq => cases hq; exact ⟨A4, B4⟩
      | 5, hq => cases hq; exact ⟨A5, B5⟩
      | k + 6, hq => simp [zTys] at hq
    · refine vk_R.of (A := #[Value.ref b]) ?_ (hev i hi)
      match i, hi with
      | 0, _ => exact zl_in hts 3086 (.stringRef "SumWalker$Reader" 132 "row") (by decide +kernel)
      | 1, _ => exact zl_in hts 3092 (.stringRef "SumWalker$Reader" 138 "bound") (by decide +kernel)
      | 2, _ => exact zl_in hts 3093 (.stringRef "SumWalker$Reader" 139 "steps") (by decide +kernel)
      | 3, _ => exact zl_in hts 3094 (.stringRef "SumWalker$Reader" 140 "law") (by decide +kernel)
      | 4, _ => exact zl_in hts 3106 (.stringRef "SumWalker$Reader" 141 "plain") (by decide +kernel)
      | 5, _ => exact zl_in hts 3107 (.stringRef "SumWalker$Reader" 143 "unitary") (by decide +kernel)
      | 6, _ => exact zl_in hts 3108 (.stringRef "SumWalker$Reader" 145 "reduced") (by decide +kernel)
      | 7, _ => exact zl_in hts 3109 (.stringRef "SumWalker$Reader" 147 "bare") (by decide +kernel)
      | 8, _ => exact zl_in hts 3141 (.stringRef "SumWalkerLaw" 35 "law ") (by decide +kernel)
      | 9, _ => exact zl_in hts 3279 (.stringRef "SumWalkerLaw" 56 ";bound ") (by decide +kernel)
      | 10, _ => exact zl_in hts 3305 (.stringRef "SumWalkerLaw" 61 ";steps ") (by decide +kernel)
      | 11, _ => exact zl_in hts 4103 (.stringRef "SumWalkerLaw" 66 "row ") (by decide +kernel)
      | n + 12, h => omega
    · simp only [zNw, List.mem_cons, List.not_mem_nil, or_false] at hw
      rcases hw with rfl | rfl | rfl | rfl
      · exact va_Nw.of rfl (zl_in hts 1052 _ (by decide +kernel))
      · exact va_Nw.of rfl (zl_in hts 1097 _ (by decide +kernel))
      · exact va_Nw.of rfl (zl_in hts 1159 _ (by decide +kernel))
      · exact va_Nw.of rfl (zl_in hts 1186 _ (by decide +kernel))
  obtain ⟨n, S', hex, hcl, hsl⟩ := hrun
  have hgb : gf G = .null ∨ ∃ t, gf G = .ref t := hfv
  have hl := lv_entry ([.ref b]) (n := 4) (Nat.le_of_ble_eq_true rfl)
  rw [lg_entry_eq]
  generalize (lg_sl ([.ref b]) ++ List.replicate (4 - (lg_sl ([.ref b])).length) Slot.unset).toArray = lm at hl ⊢
  have hat : zAt G 0 s lm s.heap [] [zR 0, zJ, zJ, zJ] [] (L, [], zH0 xs) := by
    refine ⟨⟨rfl, fun k q h => by simp [zws] at h, zInv0 (G := G) hL⟩, va_S.rf, lv_mono hl ?_, rfl, ?_, fun v hv => by cases hv⟩
    · intro q hq
      have : zloc G 0 [zR 0, zJ, zJ, zJ] = [(0, .ref b)] := rfl
      rw [this] at hq
      exact hq
    · intro v hv
      simp only [List.mem_cons, List.not_mem_nil, or_false] at hv
      rcases hv with rfl | rfl | rfl | rfl
      · exact zwfR 0
      · exact zwfJ
      · exact zwfJ
      · exact zwfJ
  have cx : zCtx G 0 p s m #[Value.ref b] meth c := ⟨hx, hb, hml, hown, htz, hfix, fun q => absurd q (by decide)⟩
  have K := ex_walk zgood_ok G n 2000 0 0 [zR 0, zJ, zJ, zJ] [] (L, [], zH0 xs) (zI 1) S' zk_ok0 hex (p := p) (l := l) (e := e) (R := room_1) (s := s) (m := m) (args := #[Value.ref b]) (below := below) (meth := meth) (c := c) (H := s.heap) (locs := []) (Q := lw_Z below #[Value.ref b] s) (lm := lm) 0 0 600000 7302250 cx rfl rfl (Nat.le_of_ble_eq_true rfl) (Nat.le_of_ble_eq_true rfl) hat (Nat.zero_le _) (Nat.zero_le _) hcl hsl ?_
  · exact K
  · intro pc a ls st lm' H' locs' hok hd hz hat'
    have ha4 : a = 4 := by
      have hrt : zrt 0 = some .boolean := rfl
      unfold zret_ok at hok
      rw [hrt] at hok
      split at hok
      · cases hok
      · cases hok
      · cases hok
      · cases hok
      · rfl
      · cases hok
      · cases hok
      · cases hok
    subst ha4
    have hst : st = [(0, 1)] := by
      unfold zret at hz
      split at hz
      · cases hz
      · rename_i h; cases h
      · rename_i h; cases h
      · rename_i h; cases h
      · rename_i x
        split at hz
        · cases hz; rfl
        · cases hz
      · rename_i h; cases h
      · rename_i h; cases h
      · cases hz
    subst hst
    refine va_forget (fun q hq => hat'.2.1.2.2 q hq) ?_
    refine W.widen (k := 600000) (n := 7302250) (by omega) (by omega) ?_
    exact lw_ret hx hb hr hlocks hd
