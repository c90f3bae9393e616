/-! each instruction of the small machine stands for the machine's own: those that touch no cell -/
/-- private methods of AbstractStringBuilder, on a StringBuilder: selected by themselves -/
def zXy (n d : String) : MethodName := ⟨"java/lang/AbstractStringBuilder", n, d⟩
def zXsel : List Cond := [.selects RX6 (zXy "ensureCapacityInternal" "(I)V") (zXy "ensureCapacityInternal" "(I)V"), .selects RX6 (zXy "newCapacity" "(I)I") (zXy "newCapacity" "(I)I"), .selects RX6 (zXy "putStringAt" "(ILjava/lang/String;)V") (zXy "putStringAt" "(ILjava/lang/String;)V"), .selects RX6 (zXy "inflateIfNeededFor" "(Ljava/lang/String;)V") (zXy "inflateIfNeededFor" "(Ljava/lang/String;)V")]
def zTs : List Cond := (zXsel ++ lw_tbl).filter goodWord
theorem zXsel_of {C : String} {y0 y : MethodName} {s : State} {args : Array Value} (h0 : (Cond.selects C y0 y0).before args s = true) (hi0 : (Cond.instanceMethod y0).before args s = true) (hc : y0.cls = y.cls) (hy : y.cls ≠ "java/lang/invoke/MethodHandle" ∧ y.cls ≠ "java/lang/invoke/VarHandle") (hpriv : (Cond.privateMethod y).before args s = true) (hinst : (Cond.instanceMethod y).before args s = true) : (Cond.selects C y y).before args s = true := by
  obtain ⟨mk, methM, hnamed, hmethM, -, -⟩ := Cond.instanceMethod_spec hinst
  obtain ⟨mk0, methM0, hnamed0, hmethM0, -, -⟩ := Cond.instanceMethod_spec hi0
  have hfound : s.methodFound? y.cls y.name y.desc = some mk := State.methodFound?_of_named hnamed hy
  have hcls : mk.cls = mk0.cls := Option.some.inj ((findClass_of_methodNamed hnamed).symm.trans (by rw [← hc]; exact findClass_of_methodNamed hnamed0))
  simp only [Cond.before, Cond.holds, Cond.value] at h0 ⊢
  rw [hnamed0] at h0
  cases hfc : s.vm.findClass C with
  | none => rw [hfc] at h0; simp at h0
  | some c =>
    rw [hfc] at h0
    have hsel : selectMethod {} s.vm c mk = .method mk := selectMethod_private hmethM (Cond.privateMethod_at hpriv mk methM hnamed hmethM)
    rw [hfound, hnamed]
    dsimp only
    rw [hsel]
    cases hf0 : s.methodFound? y0.cls y0.name y0.desc with
    | none => rw [hf0] at h0; simp at h0
    | some r0 =>
      rw [hf0] at h0
      dsimp only at h0
      split at h0
      · simp only [beq_iff_eq, Option.some.injEq, Bool.and_eq_true, decide_eq_true_eq] at h0
        rw [hcls]
        simpa using h0.2
      · simp at h0
/-- what a method's body is proved in -/
def zCtx (G : zG) (y : Nat) (p : Program) (s : State) (m : MethodId) (args : Array Value) (meth : Method) (c : Code) : Prop :=
  p.tables.exec = Jvm.exec ∧ c.code = zby y ∧ c.maxLocals = zml y ∧ s.vm.findClass (zmn y).cls = some m.cls ∧ (∀ w ∈ zTs, w.before args s = true) ∧ zFix G s ∧ ((zmn y).name = "<init>" → meth.name = "<init>")
def zslots (S : zHp) : Nat := (S.2.1.map Prod.snd).sum
/-- the frame at a place of the small machine, and the cells behind it -/
def zAt (G : zG) (y : Nat) (s : State) (lm : Array Slot) (H : Heap) (locs : List Loc) (ls st : List zV) (S : zHp) : Prop :=
  zRel G S H ∧ va_S (zA G) s.heap H locs ∧ lv_has lm (zml y) (zloc G 0 ls) ∧ ls.length = zml y ∧ (∀ v ∈ ls, zwf v) ∧ (∀ v ∈ st, zwf v)
abbrev zChk : Type := Nat → Nat → zC → Bool
def zdc (y pc : Nat) (I : Instr) (len : Nat) : Bool := decide (decode (zby y) pc = .ok (I, len))
/-- a word of a list by its place, quick for the kernel -/
noncomputable def zat (l : List Cond) : Nat → Option Cond := List.rec (motive := fun _ => Nat → Option Cond) (fun _ => none) (fun a _ ih n => Nat.rec (motive := fun _ => Option Cond) (some a) (fun k _ => ih k) n) l
theorem zat_mem : ∀ (l : List Cond) (n : Nat) (w : Cond), zat l n = some w → w ∈ l
  | [], n, w, h => by cases h
  | a :: l, 0, w, h => by cases h; exact List.mem_cons_self
  | a :: l, n + 1, w, h => List.mem_cons_of_mem _ (zat_mem l n w h)
def zpart (k : Nat) : List Cond := match k with
  | 0 => k2_sels lw_privs
  | 1 => tables_1_1
  | 2 => tables_1_2
  | 3 => tables_1_3
  | 4 => tables_1_4
  | _ => zXsel
theorem zpart_in (k : Nat) (w : Cond) (h : w ∈ zpart k) : w ∈ zXsel ++ lw_tbl := by
  have hl : lw_tbl = k2_sels lw_privs ++ (tables_1_1 ++ (tables_1_2 ++ (tables_1_3 ++ tables_1_4))) := rfl
  rw [hl]
  simp only [List.mem_append]
  unfold zpart at h
  split at h
  · exact Or.inr (Or.inl h)
  · exact Or.inr (Or.inr (Or.inl h))
  · exact Or.inr (Or.inr (Or.inr (Or.inl h)))
  · exact Or.inr (Or.inr (Or.inr (Or.inr (Or.inl h))))
  · exact Or.inr (Or.inr (Or.inr (Or.inr (Or.inr h))))
  · exact Or.inl h
noncomputable def zw (p : Nat) (w : Cond) : Bool := decide (zat (zpart (p / 1024)) (p % 1024) = some w) && goodWord w
theorem zw_in {p : Nat} {w : Cond} (h : zw p w = true) : w ∈ zTs := by
  simp only [zw, Bool.and_eq_true, decide_eq_true_eq] at h
  exact List.mem_filter.mpr ⟨zpart_in _ _ (zat_mem _ _ _ h.1), h.2⟩
theorem zdc_eq {y pc : Nat} {I : Instr} {len : Nat} (h : zdc y pc I len = true) : decode (zby y) pc = .ok (I, len) := by simpa [zdc] using h
/-- a semantics and its check: sound, if from the machine's next state on all is well -/
def zSound (q : zSem × zChk) : Prop :=
  ∀ (G : zG) (y : Nat) {p : Program} {l : Launch} {e : Env} {R : Room} {s : State} {m : MethodId} {args : Array Value} {below : List Frame} {meth : Method} {c : Code} {H : Heap} {locs : List Loc} {Q : State → Prop} (n0 m0 nF mF : Nat),
    zCtx G y p s m args meth c → R.cells = nF - n0 → R.slots = mF - m0 → 1 ≤ R.frames → 24 ≤ R.locals →
    ∀ (i : zC) (pc : Nat) (ls st : List zV) (S : zHp) (lm : Array Slot) (pc' : Nat) (ls' st' : List zV) (S' : zHp),
      q.2 y pc i = true → q.1 i pc ls st S = some (pc', ls', st', S') → zAt G y s lm H locs ls st S → n0 ≤ S.2.1.length → m0 ≤ zslots S → S'.2.1.length ≤ nF → zslots S' ≤ mF →
      (∀ (H' : Heap) (locs' : List Loc) (lm' : Array Slot), zAt G y s lm' H' locs' ls' st' S' → W p l e R s m args below meth c H' locs' (S'.2.1.length - n0) (zslots S' - m0) Q (F0 m pc' lm' (st'.map (zcv G)))) →
      W p l e R s m args below meth c H locs (S.2.1.length - n0) (zslots S - m0) Q (F0 m pc lm (st.map (zcv G)))
theorem zAt.st {G : zG} {y : Nat} {s : State} {lm : Array Slot} {H : Heap} {locs : List Loc} {ls st st' : List zV} {S : zHp} (h : zAt G y s lm H locs ls st S) (h' : ∀ v ∈ st', zwf v) : zAt G y s lm H locs ls st' S := ⟨h.1, h.2.1, h.2.2.1, h.2.2.2.1, h.2.2.2.2.1, h'⟩
theorem zwf_cons {v : zV} {st : List zV} (h : zwf v) (h2 : ∀ v ∈ st, zwf v) : ∀ w ∈ v :: st, zwf w := fun w hw => by
  rcases List.mem_cons.mp hw with q | q
  · rw [q]; exact h
  · exact h2 w q
theorem zwfI {x : Int} (h : r32 x) : zwf (zI x) := ⟨fun _ => h, fun q => absurd (show (0 : Nat) = 1 from q) (by decide)⟩
theorem zwfL {x : Int} (h : r64 x) : zwf (zL x) := ⟨fun q => absurd (show (1 : Nat) = 0 from q) (by decide), fun _ => h⟩
theorem zwfR (x : Int) : zwf (zR x) := ⟨fun q => absurd (show (2 : Nat) = 0 from q) (by decide), fun q => absurd (show (2 : Nat) = 1 from q) (by decide)⟩
theorem zwfO (x : Int) : zwf (4, x) := ⟨fun q => absurd (show (4 : Nat) = 0 from q) (by decide), fun q => absurd (show (4 : Nat) = 1 from q) (by decide)⟩
def zi32 (k : Int) : Bool := decide (-2147483648 ≤ k) && decide (k ≤ 2147483647)
theorem zi32_r {k : Int} (h : zi32 k = true) : r32 k := by simpa [zi32, r32] using h
def zi64 (k : Int) : Bool := decide (-9223372036854775808 ≤ k) && decide (k ≤ 9223372036854775807)
theorem zi64_r {k : Int} (h : zi64 k = true) : r64 k := by simpa [zi64, r64] using h
-- constants
noncomputable def zc_iconst : zChk := fun y pc i => zi32 i.2.2.2.2.1 && (match i.2.2.1 with
  | 0 => i.2.1 == 1 && zdc y pc (.iconst i.2.2.2.2.1) 1
  | 1 => i.2.1 == 2 && zdc y pc (.bipush i.2.2.2.2.1) 2 && decide ((Int8.ofInt i.2.2.2.2.1).toInt32 = Int32.ofInt i.2.2.2.2.1)
  | 2 => i.2.1 == 3 && zdc y pc (.sipush i.2.2.2.2.1) 3 && decide ((Int16.ofInt i.2.2.2.2.1).toInt32 = Int32.ofInt i.2.2.2.2.1)
  | 3 => i.2.1 == 2 && zdc y pc (.ldc i.2.2.2.1) 2 && zw (i.2.2.2.2.2.getD 0 0).toNat (.constant (zmn y).cls i.2.2.2.1 (Int32.ofInt i.2.2.2.2.1))
  | _ => i.2.1 == 3 && zdc y pc (.ldc_w i.2.2.2.1) 3 && zw (i.2.2.2.2.2.getD 0 0).toNat (.constant (zmn y).cls i.2.2.2.1 (Int32.ofInt i.2.2.2.2.1)))
theorem zp_iconst : zSound (zs_iconst, zc_iconst) := by
  intro G y p l e R s m args below meth c H locs Q n0 m0 nF mF cx hRc hRs hRf hRl i pc ls st S lm pc' ls' st' S' hc hs hat hn0 hm0 hnF hmF kk
  obtain ⟨hx, hb, hml, hown, hts, hfix, -⟩ := cx
  obtain ⟨op, len, a, b, k, ex⟩ := i
  cases hs
  simp only [zc_iconst, Bool.and_eq_true] at hc
  obtain ⟨hk, hc⟩ := hc
  have K := kk H locs lm (hat.st (zwf_cons (zwfI (zi32_r hk)) hat.2.2.2.2.2))
  dsimp only at hc K
  split at hc
  · simp only [Bool.and_eq_true, beq_iff_eq] at hc
    obtain ⟨rfl, h⟩ := hc
    exact lv_iconst hx hb (zdc_eq h) rfl K
  · simp only [Bool.and_eq_true, beq_iff_eq, decide_eq_true_eq] at hc
    obtain ⟨⟨rfl, h⟩, h2⟩ := hc
    exact lv_bipush hx hb (zdc_eq h) h2 K
  · simp only [Bool.and_eq_true, beq_iff_eq, decide_eq_true_eq] at hc
    obtain ⟨⟨rfl, h⟩, h2⟩ := hc
    exact lv_sipush hx hb (zdc_eq h) h2 K
  · simp only [Bool.and_eq_true, beq_iff_eq] at hc
    obtain ⟨⟨rfl, h⟩, h2⟩ := hc
    exact lv_ldc hx hb hown (hts _ (zw_in h2)) (zdc_eq h) K
  · simp only [Bool.and_eq_true, beq_iff_eq] at hc
    obtain ⟨⟨rfl, h⟩, h2⟩ := hc
    exact lv_ldcw hx hb hown (hts _ (zw_in h2)) (zdc_eq h) K
noncomputable def zc_lconst : zChk := fun y pc i => zi64 i.2.2.2.2.1 && (match i.2.2.1 with
  | 0 => i.2.1 == 1 && ((zdc y pc (.lconst 0) 1 && decide (i.2.2.2.2.1 = 0)) || (zdc y pc (.lconst 1) 1 && decide (i.2.2.2.2.1 = 1)))
  | _ => i.2.1 == 3 && zdc y pc (.ldc2_w i.2.2.2.1) 3 && zw (i.2.2.2.2.2.getD 0 0).toNat (.constantLong (zmn y).cls i.2.2.2.1 (Int64.ofInt i.2.2.2.2.1)))
theorem zp_lconst : zSound (zs_lconst, zc_lconst) := by
  intro G y p l e R s m args below meth c H locs Q n0 m0 nF mF cx hRc hRs hRf hRl i pc ls st S lm pc' ls' st' S' hc hs hat hn0 hm0 hnF hmF kk
  obtain ⟨hx, hb, hml, hown, hts, hfix, -⟩ := cx
  obtain ⟨op, len, a, b, k, ex⟩ := i
  cases hs
  simp only [zc_lconst, Bool.and_eq_true] at hc
  obtain ⟨hk, hc⟩ := hc
  have K := kk H locs lm (hat.st (zwf_cons (zwfL (zi64_r hk)) hat.2.2.2.2.2))
  dsimp only at hc K
  split at hc
  · simp only [Bool.and_eq_true, Bool.or_eq_true, beq_iff_eq, decide_eq_true_eq] at hc
    obtain ⟨rfl, ⟨h, rfl⟩ | ⟨h, rfl⟩⟩ := hc
    · exact lv_lconst hx hb (zdc_eq h) rfl K
    · exact lv_lconst hx hb (zdc_eq h) rfl K
  · simp only [Bool.and_eq_true, beq_iff_eq] at hc
    obtain ⟨⟨rfl, h⟩, h2⟩ := hc
    exact lv_ldc2 hx hb hown (hts _ (zw_in h2)) (zdc_eq h) K
-- loads
def zf4 (a : Nat) : Fin 4 := Fin.ofNat 4 a
theorem zf4_eq {a : Nat} (h : a < 4) : ((zf4 a : Fin 4) : Nat) = a := Nat.mod_eq_of_lt h
def zc_iload : zChk := fun y pc i => (i.2.1 == 1 && decide (i.2.2.1 < 4) && zdc y pc (.iload_n (zf4 i.2.2.1)) 1) || (i.2.1 == 2 && zdc y pc (.iload i.2.2.1) 2)
theorem zp_iload : zSound (zs_iload, zc_iload) := by
  intro G y p l e R s m args below meth c H locs Q n0 m0 nF mF cx hRc hRs hRf hRl i pc ls st S lm pc' ls' st' S' hc hs hat hn0 hm0 hnF hmF kk
  obtain ⟨hx, hb, hml, hown, hts, hfix, -⟩ := cx
  obtain ⟨op, len, a, b, k, ex⟩ := i
  unfold zs_iload at hs
  dsimp only at hs
  split at hs
  · rename_i x hx1
    cases hs
    have hw := hat.2.2.2.2.1 _ (List.mem_of_getElem? hx1)
    have K := kk H locs lm (hat.st (zwf_cons hw hat.2.2.2.2.2))
    have hl := zloc_at hat.2.2.1 hx1 (show (0 : Nat) ≠ 3 by decide)
    simp only [zc_iload, Bool.or_eq_true, Bool.and_eq_true, beq_iff_eq, decide_eq_true_eq] at hc
    rcases hc with ⟨⟨rfl, h4⟩, h⟩ | ⟨rfl, h⟩
    · exact lv_iload_n hx hb (zdc_eq h) (zf4_eq h4) hl K
    · exact lv_iload hx hb (zdc_eq h) hl K
  · cases hs
def zc_lload : zChk := fun y pc i => (i.2.1 == 1 && decide (i.2.2.1 < 4) && zdc y pc (.lload_n (zf4 i.2.2.1)) 1) || (i.2.1 == 2 && zdc y pc (.lload i.2.2.1) 2)
theorem zp_lload : zSound (zs_lload, zc_lload) := by
  intro G y p l e R s m args below meth c H locs Q n0 m0 nF mF cx hRc hRs hRf hRl i pc ls st S lm pc' ls' st' S' hc hs hat hn0 hm0 hnF hmF kk
  obtain ⟨hx, hb, hml, hown, hts, hfix, -⟩ := cx
  obtain ⟨op, len, a, b, k, ex⟩ := i
  unfold zs_lload at hs
  dsimp only at hs
  split at hs
  · rename_i x hx1
    cases hs
    have hw := hat.2.2.2.2.1 _ (List.mem_of_getElem? hx1)
    have K := kk H locs lm (hat.st (zwf_cons hw hat.2.2.2.2.2))
    have hl := zloc_at hat.2.2.1 hx1 (show (1 : Nat) ≠ 3 by decide)
    simp only [zc_lload, Bool.or_eq_true, Bool.and_eq_true, beq_iff_eq, decide_eq_true_eq] at hc
    rcases hc with ⟨⟨rfl, h4⟩, h⟩ | ⟨rfl, h⟩
    · exact lv_lload_n hx hb (zdc_eq h) (zf4_eq h4) hl K
    · exact lv_lload hx hb (zdc_eq h) hl K
  · cases hs
def zc_aload : zChk := fun y pc i => (i.2.1 == 1 && decide (i.2.2.1 < 4) && zdc y pc (.aload_n (zf4 i.2.2.1)) 1) || (i.2.1 == 2 && zdc y pc (.aload i.2.2.1) 2)
theorem zcv_ref {G : zG} {x : Int} (h : ¬ x < 0) : zcv G (zR x) = .ref (zad G x) := by show (if x < 0 then _ else _) = _; rw [if_neg h]
theorem zp_aload : zSound (zs_aload, zc_aload) := by
  intro G y p l e R s m args below meth c H locs Q n0 m0 nF mF cx hRc hRs hRf hRl i pc ls st S lm pc' ls' st' S' hc hs hat hn0 hm0 hnF hmF kk
  obtain ⟨hx, hb, hml, hown, hts, hfix, -⟩ := cx
  obtain ⟨op, len, a, b, k, ex⟩ := i
  unfold zs_aload at hs
  dsimp only at hs
  simp only [zc_aload, Bool.or_eq_true, Bool.and_eq_true, beq_iff_eq, decide_eq_true_eq] at hc
  split at hs
  · rename_i x hx1
    split at hs
    · cases hs
    · rename_i h0
      cases hs
      have K := kk H locs lm (hat.st (zwf_cons (zwfR x) hat.2.2.2.2.2))
      have hl := zloc_at hat.2.2.1 hx1 (show (2 : Nat) ≠ 3 by decide)
      rw [List.map_cons, zcv_ref h0] at K
      rw [zcv_ref h0] at hl
      rcases hc with ⟨⟨rfl, h4⟩, h⟩ | ⟨rfl, h⟩
      · exact lv_aload_n hx hb (zdc_eq h) (zf4_eq h4) hl K
      · exact lv_aload hx hb (zdc_eq h) hl K
  · rename_i x hx1
    cases hs
    have K := kk H locs lm (hat.st (zwf_cons (zwfO x) hat.2.2.2.2.2))
    have hl := zloc_at hat.2.2.1 hx1 (show (4 : Nat) ≠ 3 by decide)
    have e : zcv G (4, x) = gf G := rfl
    rw [List.map_cons, e] at K
    rw [e] at hl
    have hg := hfix.2.2.2.2.2.2.2.1
    rcases hg with hg | ⟨t, hg⟩
    · rw [hg] at K hl
      rcases hc with ⟨⟨rfl, h4⟩, h⟩ | ⟨rfl, h⟩
      · exact lv_aload_nN hx hb (zdc_eq h) (zf4_eq h4) hl K
      · exact lv_aloadN hx hb (zdc_eq h) hl K
    · rw [hg] at K hl
      rcases hc with ⟨⟨rfl, h4⟩, h⟩ | ⟨rfl, h⟩
      · exact lv_aload_n hx hb (zdc_eq h) (zf4_eq h4) hl K
      · exact lv_aload hx hb (zdc_eq h) hl K
  · cases hs
-- stores
theorem zwf_tl {v : zV} {st : List zV} (h : ∀ w ∈ v :: st, zwf w) : ∀ w ∈ st, zwf w := fun w hw => h w (List.mem_cons_of_mem _ hw)
theorem zwf_hd {v : zV} {st : List zV} (h : ∀ w ∈ v :: st, zwf w) : zwf v := h v List.mem_cons_self
theorem zAt.set1 {G : zG} {y : Nat} {s : State} {lm lm' : Array Slot} {H : Heap} {locs : List Loc} {ls st st' : List zV} {S : zHp} {i : Nat} {v : zV} (hg : gf G = .null ∨ ∃ t, gf G = .ref t) (h : zAt G y s lm H locs ls st S) (hv : zwf v) (h' : ∀ v ∈ st', zwf v) (hl : lv_has lm' (zml y) ((i, zcv G v) :: (zloc G 0 ls).filter (fun q => !(q.1 == i) && !(q.1 + 1 == i && q.2.category == 2)))) : zAt G y s lm' H locs (zset1 ls i v) st' S :=
  ⟨h.1, h.2.1, lv_mono hl (zset1_loc hg), (zset1_len ls i v).trans h.2.2.2.1, zset1_wf h.2.2.2.2.1 hv, h'⟩
theorem zAt.set2 {G : zG} {y : Nat} {s : State} {lm lm' : Array Slot} {H : Heap} {locs : List Loc} {ls st st' : List zV} {S : zHp} {i : Nat} {v : zV} (hg : gf G = .null ∨ ∃ t, gf G = .ref t) (h : zAt G y s lm H locs ls st S) (hv : zwf v) (h' : ∀ v ∈ st', zwf v) (hl : lv_has lm' (zml y) ((i, zcv G v) :: (zloc G 0 ls).filter (fun q => !(q.1 == i) && (!(q.1 == i + 1) && !(q.1 + 1 == i && q.2.category == 2))))) : zAt G y s lm' H locs (zset2 ls i v) st' S :=
  ⟨h.1, h.2.1, lv_mono hl (zset2_loc hg), (zset2_len ls i v).trans h.2.2.2.1, zset2_wf h.2.2.2.2.1 hv, h'⟩
def zc_istore : zChk := fun y pc i => (i.2.1 == 1 && decide (i.2.2.1 < 4) && zdc y pc (.istore_n (zf4 i.2.2.1)) 1) || (i.2.1 == 2 && zdc y pc (.istore i.2.2.1) 2)
theorem zp_istore : zSound (zs_istore, zc_istore) := by
  intro G y p l e R s m args below meth c H locs Q n0 m0 nF mF cx hRc hRs hRf hRl i pc ls st S lm pc' ls' st' S' hc hs hat hn0 hm0 hnF hmF kk
  obtain ⟨hx, hb, hml, hown, hts, hfix, -⟩ := cx
  obtain ⟨op, len, a, b, k, ex⟩ := i
  have hg := hfix.2.2.2.2.2.2.2.1
  unfold zs_istore at hs
  dsimp only at hs
  simp only [zc_istore, Bool.or_eq_true, Bool.and_eq_true, beq_iff_eq, decide_eq_true_eq] at hc
  split at hs
  · rename_i x st1
    split at hs
    · rename_i hlt
      cases hs
      rw [hat.2.2.2.1] at hlt
      have hw := hat.2.2.2.2.2
      have K := fun lm' hl => kk H locs lm' (hat.set1 hg (zwf_hd hw) (zwf_tl hw) hl)
      rcases hc with ⟨⟨rfl, h4⟩, h⟩ | ⟨rfl, h⟩
      · exact lv_istore_n hx hb (zdc_eq h) (zf4_eq h4) hat.2.2.1 hlt rfl K
      · exact lv_istore hx hb (zdc_eq h) hat.2.2.1 hlt rfl K
    · cases hs
  · cases hs
def zc_lstore : zChk := fun y pc i => (i.2.1 == 1 && decide (i.2.2.1 < 4) && zdc y pc (.lstore_n (zf4 i.2.2.1)) 1) || (i.2.1 == 2 && zdc y pc (.lstore i.2.2.1) 2)
theorem zp_lstore : zSound (zs_lstore, zc_lstore) := by
  intro G y p l e R s m args below meth c H locs Q n0 m0 nF mF cx hRc hRs hRf hRl i pc ls st S lm pc' ls' st' S' hc hs hat hn0 hm0 hnF hmF kk
  obtain ⟨hx, hb, hml, hown, hts, hfix, -⟩ := cx
  obtain ⟨op, len, a, b, k, ex⟩ := i
  have hg := hfix.2.2.2.2.2.2.2.1
  unfold zs_lstore at hs
  dsimp only at hs
  simp only [zc_lstore, Bool.or_eq_true, Bool.and_eq_true, beq_iff_eq, decide_eq_true_eq] at hc
  split at hs
  · rename_i x st1
    split at hs
    · rename_i hlt
      cases hs
      rw [hat.2.2.2.1] at hlt
      have hw := hat.2.2.2.2.2
      have K := fun lm' hl => kk H locs lm' (hat.set2 hg (zwf_hd hw) (zwf_tl hw) hl)
      rcases hc with ⟨⟨rfl, h4⟩, h⟩ | ⟨rfl, h⟩
      · exact lv_lstore_n hx hb (zdc_eq h) (zf4_eq h4) hat.2.2.1 hlt rfl K
      · exact lv_lstore hx hb (zdc_eq h) hat.2.2.1 hlt rfl K
    · cases hs
  · cases hs
def zc_astore : zChk := fun y pc i => (i.2.1 == 1 && decide (i.2.2.1 < 4) && zdc y pc (.astore_n (zf4 i.2.2.1)) 1) || (i.2.1 == 2 && zdc y pc (.astore i.2.2.1) 2)
theorem zp_astore : zSound (zs_astore, zc_astore) := by
  intro G y p l e R s m args below meth c H locs Q n0 m0 nF mF cx hRc hRs hRf hRl i pc ls st S lm pc' ls' st' S' hc hs hat hn0 hm0 hnF hmF kk
  obtain ⟨hx, hb, hml, hown, hts, hfix, -⟩ := cx
  obtain ⟨op, len, a, b, k, ex⟩ := i
  have hg := hfix.2.2.2.2.2.2.2.1
  unfold zs_astore at hs
  dsimp only at hs
  simp only [zc_astore, Bool.or_eq_true, Bool.and_eq_true, beq_iff_eq, decide_eq_true_eq] at hc
  split at hs
  · rename_i x st1
    split at hs
    · cases hs
    · rename_i h0
      split at hs
      · rename_i hlt
        cases hs
        rw [hat.2.2.2.1] at hlt
        have hw := hat.2.2.2.2.2
        have K := fun lm' hl => kk H locs lm' (hat.set1 (i := a) (v := zR x) hg (zwfR x) (zwf_tl hw) hl)
        rw [List.map_cons, zcv_ref h0]
        rw [zcv_ref h0] at K
        rcases hc with ⟨⟨rfl, h4⟩, h⟩ | ⟨rfl, h⟩
        · exact lv_astore_n hx hb (zdc_eq h) (zf4_eq h4) hat.2.2.1 hlt rfl K
        · exact lv_astore hx hb (zdc_eq h) hat.2.2.1 hlt rfl K
      · cases hs
  · cases hs
def zc_iinc : zChk := fun y pc i => i.2.1 == 3 && zdc y pc (.iinc i.2.2.1 i.2.2.2.2.1) 3
theorem zp_iinc : zSound (zs_iinc, zc_iinc) := by
  intro G y p l e R s m args below meth c H locs Q n0 m0 nF mF cx hRc hRs hRf hRl i pc ls st S lm pc' ls' st' S' hc hs hat hn0 hm0 hnF hmF kk
  obtain ⟨hx, hb, hml, hown, hts, hfix, -⟩ := cx
  obtain ⟨op, len, a, b, k, ex⟩ := i
  have hg := hfix.2.2.2.2.2.2.2.1
  unfold zs_iinc at hs
  dsimp only at hs
  simp only [zc_iinc, Bool.and_eq_true, beq_iff_eq] at hc
  split at hs
  · rename_i x hx1
    cases hs
    obtain ⟨rfl, h⟩ := hc
    have hlt := (List.getElem?_eq_some_iff.mp hx1).1
    rw [hat.2.2.2.1] at hlt
    obtain ⟨j, hj⟩ := List.getElem?_of_mem ((zloc_mem (G := G) ls 0 _).mpr ⟨a, _, hx1, (show (0 : Nat) ≠ 3 by decide), rfl⟩)
    rw [Nat.zero_add] at hj
    refine lv_iinc hx hb (zdc_eq h) hat.2.2.1 hj rfl hlt rfl (fun lm' hl => kk H locs lm' (hat.set1 hg (zwfI (w32_r _)) hat.2.2.2.2.2 ?_))
    show lv_has lm' _ ((a, .int (Int32.ofInt (w32 (x + k)))) :: _)
    rw [w32_of, Int32.ofInt_add]
    exact hl
  · cases hs
