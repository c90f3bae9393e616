/-! a run of the small machine is a run of the machine: calls, returns, the whole -/
def zMono (f : zSem) : Prop := ∀ (i : zC) (pc : Nat) (ls st : List zV) (S : zHp) (q : zNx), f i pc ls st S = some q → S.2.1.length ≤ q.2.2.2.2.1.length ∧ zslots S ≤ zslots q.2.2.2 ∧ q.2.2.2.1 = S.1
theorem zmono_rf (S : zHp) (H : Int → Int → Int) : S.2.1.length ≤ S.2.1.length ∧ zslots S ≤ zslots (S.1, S.2.1, H) ∧ S.1 = S.1 := ⟨Nat.le_refl _, Nat.le_refl _, rfl⟩
theorem zmono_push (S : zHp) (k n : Nat) (H : Int → Int → Int) : S.2.1.length ≤ (S.2.1 ++ [(k, n)]).length ∧ zslots S ≤ zslots (S.1, S.2.1 ++ [(k, n)], H) ∧ S.1 = S.1 := ⟨by simp, by rw [zslots_push]; omega, rfl⟩
theorem zmono_all : ∀ f ∈ zsems, zMono f := by
  intro f hf
  simp only [zsems, List.mem_cons, List.not_mem_nil, or_false] at hf
  rcases hf with rfl | rfl | rfl | rfl | rfl | rfl | rfl | rfl | rfl | rfl | rfl | rfl | rfl | rfl | rfl | rfl | rfl | rfl | rfl | rfl | rfl | rfl | rfl | rfl | rfl | rfl | rfl | rfl | rfl | rfl | rfl | rfl | rfl | rfl | rfl | rfl | rfl | rfl | rfl | rfl <;> intro i pc ls st S q h <;> obtain ⟨op, len, a, b, k, ex⟩ := i
  · cases h
  · cases h; exact zmono_rf S _
  · cases h; exact zmono_rf S _
  · simp only [zs_iload] at h; split at h <;> cases h; exact zmono_rf S _
  · simp only [zs_lload] at h; split at h <;> cases h; exact zmono_rf S _
  · simp only [zs_aload] at h
    split at h
    · split at h <;> cases h; exact zmono_rf S _
    · cases h; exact zmono_rf S _
    · cases h
  · simp only [zs_istore] at h
    split at h
    · split at h <;> cases h; exact zmono_rf S _
    · cases h
  · simp only [zs_lstore] at h
    split at h
    · split at h <;> cases h; exact zmono_rf S _
    · cases h
  · simp only [zs_astore] at h
    split at h
    · split at h
      · cases h
      · split at h <;> cases h; exact zmono_rf S _
    · cases h
  · simp only [zs_iinc] at h; split at h <;> cases h; exact zmono_rf S _
  · simp only [zs_iar] at h
    split at h
    · simp only [Option.map_eq_some_iff] at h; obtain ⟨r, -, h⟩ := h; cases h; exact zmono_rf S _
    · cases h
  · simp only [zs_lar] at h
    split at h
    · simp only [Option.map_eq_some_iff] at h; obtain ⟨r, -, h⟩ := h; cases h; exact zmono_rf S _
    · cases h
  · simp only [zs_lsh] at h; split at h <;> cases h; exact zmono_rf S _
  · simp only [zs_un] at h
    split at h
    · cases h; exact zmono_rf S _
    · cases h; exact zmono_rf S _
    · cases h; exact zmono_rf S _
    · cases h; exact zmono_rf S _
    · split at h <;> cases h; exact zmono_rf S _
    · cases h
  · simp only [zs_lcmp] at h; split at h <;> cases h; exact zmono_rf S _
  · simp only [zs_if] at h; split at h <;> cases h; exact zmono_rf S _
  · simp only [zs_icmp] at h; split at h <;> cases h; exact zmono_rf S _
  · cases h; exact zmono_rf S _
  · simp only [zs_get] at h
    split at h
    · split at h
      · split at h <;> cases h; exact zmono_rf S _
      · cases h
    · cases h
  · simp only [zs_put] at h
    split at h
    · split at h
      · split at h <;> cases h; exact zmono_rf S _
      · cases h
    · cases h
  · simp only [zs_alen] at h
    split at h
    · split at h
      · split at h <;> cases h; exact zmono_rf S _
      · cases h
    · cases h
  · simp only [zs_ald] at h
    split at h
    · split at h
      · split at h <;> cases h; exact zmono_rf S _
      · cases h
    · cases h
  · simp only [zs_xast] at h
    split at h
    · simp only [zs_iast] at h
      split at h
      · split at h
        · split at h <;> cases h; exact zmono_rf S _
        · cases h
      · cases h
    · simp only [zs_last] at h
      split at h
      · split at h
        · split at h <;> cases h; exact zmono_rf S _
        · cases h
      · cases h
    · simp only [zs_bast] at h
      split at h
      · split at h
        · split at h
          · cases h; exact zmono_rf S _
          · split at h <;> cases h; exact zmono_rf S _
        · cases h
      · cases h
    · simp only [zs_aast] at h
      split at h
      · split at h
        · split at h <;> cases h; exact zmono_rf S _
        · cases h
      · cases h
    · cases h
  · simp only [zs_dup] at h
    split at h
    · split at h <;> cases h; exact zmono_rf S _
    · cases h
  · simp only [zs_dup2] at h
    split at h
    · split at h
      · cases h; exact zmono_rf S _
      · split at h
        · split at h <;> cases h; exact zmono_rf S _
        · cases h
    · cases h
  · simp only [zs_newa] at h
    split at h
    · split at h <;> cases h; exact zmono_push S _ _ _
    · cases h
  · simp only [zs_newq] at h
    split at h
    · split at h <;> cases h; exact zmono_push S _ _ _
    · cases h
  · simp only [zs_new] at h
    split at h <;> cases h; exact zmono_push S _ _ _
  · cases h
  · cases h
  · simp only [zs_table] at h
    split at h
    · split at h <;> cases h <;> exact zmono_rf S _
    · cases h
  · simp only [zs_stat] at h; split at h <;> cases h <;> exact zmono_rf S _
  · simp only [zs_ldcs] at h; split at h <;> cases h; exact zmono_rf S _
  · simp only [zs_pop] at h
    split at h
    · split at h <;> cases h; exact zmono_rf S _
    · cases h
  · simp only [zs_obj] at h
    split at h
    · split at h <;> cases h; exact zmono_rf S _
    · cases h
  · simp only [zs_sget] at h
    split at h
    · split at h <;> cases h; exact zmono_rf S _
    · cases h
  · simp only [zs_look] at h; split at h <;> cases h; exact zmono_rf S _
  · simp only [zs_math] at h
    split at h
    · split at h <;> cases h; exact zmono_rf S _
    · split at h <;> cases h; exact zmono_rf S _
    · split at h <;> cases h; exact zmono_rf S _
    · cases h
  · simp only [zs_math] at h
    split at h
    · split at h <;> cases h; exact zmono_rf S _
    · split at h <;> cases h; exact zmono_rf S _
    · split at h <;> cases h; exact zmono_rf S _
    · cases h
  · simp only [zs_math] at h
    split at h
    · split at h <;> cases h; exact zmono_rf S _
    · split at h <;> cases h; exact zmono_rf S _
    · split at h <;> cases h; exact zmono_rf S _
    · cases h
theorem zstep_mono : zMono zstep := by
  intro i pc ls st S q h
  unfold zstep at h
  by_cases hl : i.1 < zsems.length
  · rw [List.getD_eq_getElem?_getD, List.getElem?_eq_getElem hl] at h
    exact zmono_all _ (List.getElem_mem hl) i pc ls st S q h
  · rw [List.getD_eq_getElem?_getD, List.getElem?_eq_none (by omega)] at h
    cases h
theorem ex_mono : ∀ (n d y pc : Nat) (ls st : List zV) (S : zHp) (r : zV) (S' : zHp), ex n d y pc ls st S = some (r, S') → S.2.1.length ≤ S'.2.1.length ∧ zslots S ≤ zslots S' := by
  intro n
  induction n with
  | zero => intro d y pc ls st S r S' h; cases h
  | succ n ih =>
    intro d y pc ls st S r S' h
    rw [ex] at h
    split at h
    · cases h
    · split at h
      · simp only [Option.map_eq_some_iff] at h
        obtain ⟨q, -, h⟩ := h
        cases h
        exact ⟨Nat.le_refl _, Nat.le_refl _⟩
      · split at h
        · split at h
          · cases h
          · split at h
            · cases h
            · split at h
              · cases h
              · rename_i h1
                have a := ih _ _ _ _ _ _ _ _ h1
                have b := ih _ _ _ _ _ _ _ _ h
                exact ⟨Nat.le_trans a.1 b.1, Nat.le_trans a.2 b.2⟩
        · split at h
          · cases h
          · rename_i h1
            have a := zstep_mono _ _ _ _ _ _ h1
            have b := ih _ _ _ _ _ _ _ _ h
            exact ⟨Nat.le_trans a.1 b.1, Nat.le_trans a.2.1 b.2⟩
-- contracts
def zPc (G : zG) (as : List zV) (S : zHp) : Array Value → State → Prop := fun v U => v = (as.map (zcv G)).toArray ∧ zFix G U ∧ zRel G S U.heap
def zrv (G : zG) (r : zV) : Option Value := if r.1 = 3 then none else some (zcv G r)
def zQc (G : zG) (r : zV) (S' : zHp) : Array Value → State → Outcome → State → Prop := fun _ st o t => (o = .returned (zrv G r) ∧ zwf r) ∧ zRel G S' t.heap ∧ va_F (zA G) st t
def zrm (d : Nat) (S S' : zHp) : Room := { frames := d + 1, cells := S'.2.1.length - S.2.1.length, slots := zslots S' - zslots S, locals := 24 + 40 * d }
def zwords (y : Nat) : List Cond := Cond.code (zmn y) (zby y) (zml y) (zrt y) :: zTs
def zMet (G : zG) (l : Launch) (d y : Nat) (as : List zV) (S : zHp) (r : zV) (S' : zHp) : Prop :=
  Met l (zmn y) (zwords y) (zrm d S S') (zPc G as S) (zQc G r S') (S'.2.1.length - S.2.1.length) (zslots S' - zslots S) (zA G)
theorem zPc_blind (G : zG) (as : List zV) (S : zHp) : FrameBlind (zPc G as S) := fun a U g mk q => ⟨q.1, q.2.1.same rfl rfl, q.2.2⟩
theorem z_good {l : List Cond} (h : ∀ w ∈ l, w ∈ zTs) : GoodIn zTs l := fun w hw => ⟨h w hw, good_of_word (List.mem_filter.mp (h w hw)).2⟩
section ZW
variable {p : Program} {l : Launch} {e : Env} {R : Room} {s : State} {m : MethodId} {args : Array Value} {below : List Frame} {meth : Method} {c : Code} {H : Heap} {locs : List Loc} {cells slots : Nat} {Q : State → Prop}
theorem z_back {G : zG} {r : zV} {S1 : zHp} {mc ms pc : Nat} {lm : Array Slot} {st0 rest : List Value} {a : Array Value} (hr : va_Run p l e R s m args below meth c H locs cells slots mc ms (F0 m pc lm st0) rest (zQc G r S1 a) (zA G)) (hS : va_S (zA G) s.heap H locs)
    (kk : ∀ (H1 : Heap) (locs1 : List Loc), zwf r → zRel G S1 H1 → va_S (zA G) s.heap H1 locs1 → W p l e R s m args below meth c H1 locs1 (cells + mc) (slots + ms) Q (F0 m (pc + 3) lm ((zrv G r).toList ++ rest))) : W p l e R s m args below meth c H locs cells slots Q (F0 m pc lm st0) := by
  intro T hT X
  obtain ⟨v, st₀, t, T', L, h0, X', hL, e1, e2, ⟨⟨hv, hwr⟩, hrel, hz, hk⟩, st⟩ := hr T hT X
  cases hv
  rw [h0] at hz hk
  obtain ⟨t2, a1, b1⟩ := kk T'.heap (locs ++ L) hwr (by rw [e1]; exact hrel)
    ⟨Nat.le_trans hS.1 (by rw [e1]; exact hz), fun q h1 h2 => by rw [e1, hk q (Nat.lt_of_lt_of_le h1 hS.1) h2]; exact hS.2.1 q h1 h2, fun q hq => by
      rcases List.mem_append.mp hq with h | h
      · exact hS.2.2 q h
      · exact hL q h⟩ T' rfl X'
  exact ⟨t2, st t2 a1, b1⟩
end ZW
/-- a method of ours: its code is the table's, its words are there -/
def zOK (y : Nat) : Prop := zcode (zprog.getD y []) y 0 = true ∧ zmeta y = true
theorem zcode_at : ∀ (l : List (Option zC)) (y p0 k : Nat) (i : zC), zcode l y p0 = true → l.getD k none = some i → zone y (p0 + k) i = true
  | [], y, p0, k, i, h, hk => by simp at hk
  | none :: r, y, p0, 0, i, h, hk => by simp at hk
  | none :: r, y, p0, k + 1, i, h, hk => by
    have := zcode_at r y (p0 + 1) k i h (by simpa using hk)
    rwa [show p0 + (k + 1) = p0 + 1 + k by omega]
  | some j :: r, y, p0, 0, i, h, hk => by
    simp at hk
    subst hk
    simp only [zcode, Bool.and_eq_true] at h
    exact h.1
  | some j :: r, y, p0, k + 1, i, h, hk => by
    simp only [zcode, Bool.and_eq_true] at h
    have := zcode_at r y (p0 + 1) k i h.2 (by simpa using hk)
    rwa [show p0 + (k + 1) = p0 + 1 + k by omega]
theorem zfetch_ok {y pc : Nat} {i : zC} (h : zcode (zprog.getD y []) y 0 = true) (hf : zfetch y pc = some i) : zone y pc i = true := by
  have := zcode_at _ y 0 pc i h hf
  rwa [Nat.zero_add] at this
/-- where a method returns -/
def zRet (G : zG) (y : Nat) (p : Program) (l : Launch) (e : Env) (R : Room) (s : State) (m : MethodId) (args : Array Value) (below : List Frame) (meth : Method) (c : Code) (n0 m0 : Nat) (Q : State → Prop) (r : zV) (S' : zHp) : Prop :=
  ∀ (pc a : Nat) (ls st : List zV) (lm : Array Slot) (H : Heap) (locs : List Loc), zret_ok y a = true → decode (zby y) pc = .ok (zret_i a, 1) → zret a st = some r → zAt G y s lm H locs ls st S' →
    W p l e R s m args below meth c H locs (S'.2.1.length - n0) (zslots S' - m0) Q (F0 m pc lm (st.map (zcv G)))
theorem zargs_wf {as : List zV} (h : ∀ v ∈ as, zwf v) : ∀ v ∈ zargs as, zwf v := by
  induction as with
  | nil => intro v hv; cases hv
  | cons a t ih =>
    intro v hv
    have iht := ih (fun w hw => h w (List.mem_cons_of_mem _ hw))
    rw [zargs] at hv
    split at hv
    · rcases List.mem_cons.mp hv with q | q
      · rw [q]; exact h a List.mem_cons_self
      · rcases List.mem_cons.mp q with q | q
        · rw [q]; exact zwfJ
        · exact iht v q
    · rcases List.mem_cons.mp hv with q | q
      · rw [q]; exact h a List.mem_cons_self
      · exact iht v q
theorem zargs_len (G : zG) (hg : gf G = .null ∨ ∃ t, gf G = .ref t) : ∀ (as : List zV), (lg_sl (as.map (zcv G))).length = (zargs as).length
  | [] => rfl
  | a :: t => by
    have ih := zargs_len G hg t
    rw [List.map_cons, lg_sl, List.flatMap_cons, List.length_append, zargs, zcv_cat G a hg]
    unfold zcat
    by_cases h : a.1 = 1
    · rw [if_pos h, if_pos h, if_pos rfl]
      show 2 + (lg_sl (t.map (zcv G))).length = _
      rw [ih]; simp; omega
    · rw [if_neg h, if_neg h, if_neg (by decide)]
      show 1 + (lg_sl (t.map (zcv G))).length = _
      rw [ih]; simp; omega
theorem zloc_app (G : zG) : ∀ (a b : List zV) (i : Nat), zloc G i (a ++ b) = zloc G i a ++ zloc G (i + a.length) b
  | [], b, i => by simp [zloc]
  | v :: a, b, i => by
    have ih := zloc_app G a b (i + 1)
    rw [List.cons_append, zloc, zloc, ih, List.length_cons, show i + 1 + a.length = i + (a.length + 1) by omega]
    split <;> rfl
theorem zloc_junk (G : zG) : ∀ (k i : Nat), zloc G i (List.replicate k zJ) = []
  | 0, i => rfl
  | k + 1, i => by rw [List.replicate_succ, zloc, if_pos rfl]; exact zloc_junk G k (i + 1)
theorem zloc_args (G : zG) (hg : gf G = .null ∨ ∃ t, gf G = .ref t) : ∀ (as : List zV) (i : Nat), (∀ v ∈ as, v.1 ≠ 3) → zloc G i (zargs as) = lv_args i (as.map (zcv G))
  | [], i, _ => rfl
  | a :: t, i, h => by
    have h3 := h a List.mem_cons_self
    have ih := fun j => zloc_args G hg t j (fun v hv => h v (List.mem_cons_of_mem _ hv))
    rw [zargs, List.map_cons, lv_args, zcv_cat G a hg]
    unfold zcat
    by_cases h1 : a.1 = 1
    · rw [if_pos h1, if_pos h1, if_pos rfl, zloc, if_neg h3, zloc, if_pos rfl, ih]
    · rw [if_neg h1, if_neg h1, if_neg (by decide), zloc, if_neg h3, ih]
theorem zin2_all : (List.range 290).all (fun t => decide (zin t 2 < 7 ∨ zin t 2 = 90 ∨ zin t 2 = 99)) = true := by decide +kernel
theorem zin2_ok (t : Nat) (h : t < zMs.length) : zin t 2 < 7 ∨ zin t 2 = 90 ∨ zin t 2 = 99 := by
  have hl : zMs.length = 290 := by decide +kernel
  simpa using List.all_eq_true.mp zin2_all t (List.mem_range.mpr (by omega))
theorem zno2_all : (List.range 290).all (fun y => (zprog.getD y []).all fun o => match o with
  | some i => !(i.1 == 101 && i.2.2.1 == 2)
  | none => true) = true := by decide +kernel
theorem zno2 {y pc : Nat} {i : zC} (h : zfetch y pc = some i) (h1 : i.1 = 101) : i.2.2.1 ≠ 2 := by
  intro h2
  unfold zfetch at h
  by_cases hy : y < 290
  · have h3 := List.all_eq_true.mp zno2_all y (List.mem_range.mpr hy)
    rw [List.getD_eq_getElem?_getD (l := zprog.getD y [])] at h
    cases he : (zprog.getD y [])[pc]? with
    | none => rw [he] at h; cases h
    | some o =>
      rw [he] at h
      have ho : o = some i := h
      have h4 := List.all_eq_true.mp h3 o (List.mem_of_getElem? he)
      rw [ho] at h4
      simp [h1, h2] at h4
  · have hl : zprog.length = 290 := by decide +kernel
    rw [List.getD_eq_getElem?_getD (l := zprog), List.getElem?_eq_none (by omega)] at h
    simp at h
theorem zRet_met {G : zG} {y : Nat} {p : Program} {l : Launch} {e : Env} {R : Room} {s : State} {m : MethodId} {args : Array Value} {below : List Frame} {meth : Method} {c : Code} (n0 m0 : Nat) {r : zV} {S' : zHp} (cx : zCtx G y p s m args meth c) (hr : meth.sig.returnType = zrt y) (hlocks : meth.locks = false) :
    zRet G y p l e R s m args below meth c n0 m0 (MQ below (zQc G r S') args s (S'.2.1.length - n0) (zslots S' - m0) (zA G)) r S' := by
  intro pc a ls st lm H locs hok hd hz hat
  obtain ⟨hx, hb, hml, hown, hts, hfix, hnm⟩ := cx
  have hwr : zwf r := by
    have hw := hat.2.2.2.2.2
    unfold zret at hz
    split at hz
    · cases hz; exact zwfJ
    · cases hz; exact zwf_hd hw
    · cases hz; exact zwf_hd hw
    · split at hz <;> cases hz; exact zwf_hd hw
    · split at hz <;> cases hz; exact zwf_hd hw
    · split at hz <;> cases hz; exact zwf_hd hw
    · split at hz <;> cases hz; exact zwf_hd hw
    · cases hz
  have hq : ∀ (o : Option Value), zrv G r = o → ∀ t : State, t.heap = H → s.WarmedH t.vm → zQc G r S' args s (.returned o) t := fun o ho t ht hW => ⟨⟨by rw [ho], hwr⟩, by rw [ht]; exact hat.1, hat.2.1.F ht⟩
  have hf := hat.2.1.2.2
  unfold zret at hz
  split at hz
  · cases hz
    have h1 : zrt y = none := by simpa [zret_ok] using hok
    exact W.vret hx hb (hr.trans h1) (hq none rfl) hf hd hlocks
  · cases hz
    have h1 : zrt y = some .int := by simpa [zret_ok] using hok
    exact W.zret hx hb (hr.trans h1) rfl (hq _ rfl) hf hd hlocks
  · cases hz
    have h1 : zrt y = some .long := by simpa [zret_ok] using hok
    exact W.lret hx hb (hr.trans h1) (hq _ rfl) hf hd hlocks
  · rename_i x
    split at hz
    · cases hz
    · rename_i h0
      cases hz
      have h1 : ∃ n, zrt y = some (.object n) := by
        have hok' : (match zrt y with
          | some (.object _) => true
          | _ => false) = true := hok
        split at hok'
        · rename_i n h; exact ⟨n, h⟩
        · cases hok'
      obtain ⟨n, h1⟩ := h1
      rw [List.map_cons, List.map_nil, zcv_ref h0]
      exact W.aret hx hb (hr.trans h1) (Or.inl ⟨n, rfl⟩) (Or.inr ⟨_, rfl⟩) (hq _ (by show some (zcv G (zR x)) = _; rw [zcv_ref h0])) hf hd hlocks
  · rename_i x
    split at hz
    · rename_i h0
      cases hz
      have h1 : zrt y = some .boolean := by simpa [zret_ok] using hok
      refine W.zret hx hb (hr.trans h1) ?_ (hq _ rfl) hf hd hlocks
      simp only [zbool, Bool.or_eq_true, decide_eq_true_eq] at h0
      rcases h0 with rfl | rfl <;> rfl
    · cases hz
  · rename_i x
    split at hz
    · rename_i h0
      cases hz
      have h1 : zrt y = some .char := by simpa [zret_ok] using hok
      refine W.zret hx hb (hr.trans h1) ?_ (hq _ rfl) hf hd hlocks
      show Value.int _ = _
      congr 1
      exact z_i2c h0
    · cases hz
  · rename_i x
    split at hz
    · rename_i h0
      cases hz
      have h1 : zrt y = some .byte := by simpa [zret_ok] using hok
      refine W.zret hx hb (hr.trans h1) ?_ (hq _ rfl) hf hd hlocks
      show Value.int _ = _
      congr 1
      apply Int32.toInt_inj.mp
      rw [Int8.toInt_toInt32, Int32.toInt_toInt8, z32 ⟨by omega, by omega⟩]
      exact Int.bmod_eq_of_le (by omega) (by omega)
    · cases hz
  · cases hz
theorem zF_kind {L : Nat} {a : Int} {k n : Nat} (h : zF L a = some (k, n)) : k = 100 ∨ k = 90 ∨ k = 91 := by
  unfold zF at h
  split at h
  · cases h; omega
  · split at h
    · cases h; omega
    · split at h
      · cases h; omega
      · split at h <;> cases h; omega
theorem zF_str {L : Nat} {a : Int} {n : Nat} (h : zF L a = some (90, n)) : a ≠ 0 ∧ a ≠ 1 ∧ a < 10 := by
  unfold zF at h
  split at h
  · cases h
  · split at h
    · cases h
    · split at h
      · exact ⟨by assumption, by assumption, by assumption⟩
      · split at h <;> cases h
theorem zrev_map {α β : Type} (f : α → β) (l : List α) : (l.reverse.map f) = (l.map f).reverse := by rw [List.map_reverse]
theorem ex_walk (hall : ∀ t, 0 < t → t < zMs.length → t ≠ 2 → zOK t) (G : zG) : ∀ (n d y pc : Nat) (ls st : List zV) (S : zHp) (r : zV) (S' : zHp), zcode (zprog.getD y []) y 0 = true → ex n d y pc ls st S = some (r, S') →
    ∀ {p : Program} {l : Launch} {e : Env} {R : Room} {s : State} {m : MethodId} {args : Array Value} {below : List Frame} {meth : Method} {c : Code} {H : Heap} {locs : List Loc} {Q : State → Prop} {lm : Array Slot} (n0 m0 nF mF : Nat),
    zCtx G y p s m args meth c → R.cells = nF - n0 → R.slots = mF - m0 → d + 1 ≤ R.frames → 24 + 40 * d ≤ R.locals → zAt G y s lm H locs ls st S → n0 ≤ S.2.1.length → m0 ≤ zslots S → S'.2.1.length ≤ nF → zslots S' ≤ mF →
    zRet G y p l e R s m args below meth c n0 m0 Q r S' →
    W p l e R s m args below meth c H locs (S.2.1.length - n0) (zslots S - m0) Q (F0 m pc lm (st.map (zcv G))) := by
  intro n
  induction n with
  | zero => intro d y pc ls st S r S' hok h; cases h
  | succ n ih =>
    intro d y pc ls st S r S' hok h p l e R s m args below meth c H locs Q lm n0 m0 nF mF cx hRc hRs hRf hRl hat hn0 hm0 hnF hmF hret
    rw [ex] at h
    split at h
    · cases h
    · rename_i i hf
      have hz := zfetch_ok hok hf
      unfold zone at hz
      split at h
      · rename_i h100
        rw [if_pos h100] at hz
        simp only [Bool.and_eq_true] at hz
        simp only [Option.map_eq_some_iff] at h
        obtain ⟨q, h1, h2⟩ := h
        cases h2
        exact hret pc _ ls st lm H locs hz.1 (zdc_eq hz.2) h1 hat
      · rename_i h100
        rw [if_neg h100] at hz
        split at h
        · rename_i h101
          rw [if_pos h101] at hz
          split at h
          · cases h
          · rename_i d'
            split at h
            · cases h
            · rename_i as st1 hcall
              split at h
              · cases h
              · rename_i r1 S1 hex
                dsimp only at hz
                simp only [Bool.and_eq_true, beq_iff_eq, decide_eq_true_eq] at hz
                obtain ⟨⟨⟨⟨hlen, hnp⟩, htl⟩, ht0⟩, hk⟩ := hz
                have hn2 := zno2 hf h101
                generalize htt : i.2.2.1 = t at *
                obtain ⟨hokt, hmt⟩ := hall t ht0 htl hn2
                have mono1 := ex_mono _ _ _ _ _ _ _ _ _ hex
                have mono2 := ex_mono _ _ _ _ _ _ _ _ _ h
                have hg := cx.2.2.2.2.2.1.2.2.2.2.2.2.2.1
                -- the call's arguments
                unfold zcall at hcall
                dsimp only at hcall
                rw [htt] at hcall
                split at hcall
                · rename_i hif
                  obtain ⟨hal, hsum, hargl, hrecv, hrefok⟩ := hif
                  cases hcall
                  generalize hnn : i.2.2.2.2.1.toNat = nn at *
                  have hst : st = (st.take nn) ++ st.drop nn := (List.take_append_drop nn st).symm
                  have hwst := hat.2.2.2.2.2
                  have hwas : ∀ v ∈ (st.take nn).reverse, zwf v := fun v hv => hwst v (List.mem_of_mem_take (List.mem_reverse.mp hv))
                  have hwrest : ∀ v ∈ st.drop nn, zwf v := fun v hv => hwst v (List.mem_of_mem_drop hv)
                  have hjunk : ∀ v ∈ (st.take nn).reverse, v.1 ≠ 3 := by
                    intro v hv
                    have := List.all_eq_true.mp hrefok v hv
                    simp only [zrefok, Bool.and_eq_true, Bool.not_eq_true', beq_eq_false_iff_ne, ne_eq, decide_eq_true_eq] at this
                    exact this.2
                  generalize has : (st.take nn).reverse = as at *
                  have htake : st.take nn = as.reverse := by rw [← has, List.reverse_reverse]
                  -- the callee's contract
                  have hmm := hmt
                  unfold zmeta at hmm
                  simp only [Bool.and_eq_true, decide_eq_true_eq] at hmm
                  obtain ⟨⟨⟨⟨⟨⟨⟨mcode, minit⟩, mplain⟩, mh1⟩, mh2⟩, mpar⟩, mml⟩, mkind⟩ := hmm
                  have hM : zMet G l d' t as S r1 S1 := by
                    refine Met.ofW (cc := zby t) (maxL := zml t) (ret := zrt t) mplain rfl ?_
                    intro p2 e2 s2 m2 args2 below2 meth2 c2 s₁ B hml2 hv
                    obtain ⟨rfl, hfix2, hrel2⟩ := hv
                    have hts2 : ∀ w ∈ zwords t, w.before (as.map (zcv G)).toArray s2 = true := atoms_spec (ws := zwords t) B.pre
                    have hnm2 : meth2.name = (zmn t).name := (name_of_methodNamed B.named B.method).1
                    have cx2 : zCtx G t p2 s2 m2 (as.map (zcv G)).toArray meth2 c2 := ⟨B.exec, B.bytes, hml2, findClass_of_methodNamed B.named, fun w hw => hts2 w (List.mem_cons_of_mem _ hw), hfix2, fun q => by rw [hnm2]; exact q⟩
                    have hle : (lg_sl (as.map (zcv G))).length ≤ zml t := by rw [zargs_len G hg]; exact hargl
                    have hl := lv_entry (as.map (zcv G)) hle
                    rw [lg_entry_eq]
                    generalize (lg_sl (as.map (zcv G)) ++ List.replicate (zml t - (lg_sl (as.map (zcv G))).length) Slot.unset).toArray = lm2 at hl ⊢
                    have hat2 : zAt G t s2 lm2 s2.heap [] (zentry t as) [] S := by
                      refine ⟨hrel2, va_S.rf, lv_mono hl ?_, ?_, ?_, fun v hv => by cases hv⟩
                      · intro q hq
                        unfold zentry at hq
                        rw [zloc_app, zloc_junk, List.append_nil, zloc_args G hg as 0 hjunk] at hq
                        exact hq
                      · unfold zentry; simp; omega
                      · intro v hv
                        unfold zentry at hv
                        rcases List.mem_append.mp hv with q | q
                        · exact zargs_wf hwas v q
                        · rw [List.eq_of_mem_replicate q]; exact zwfJ
                    have K := ih d' t 0 (zentry t as) [] S r1 S1 hokt hex (p := p2) (l := l) (e := e2) (R := zrm d' S S1) (s := s2) (m := m2) (args := (as.map (zcv G)).toArray) (below := below2) (meth := meth2) (c := c2) (H := s2.heap) (locs := []) (lm := lm2)
                      (Q := MQ below2 (zQc G r1 S1) (as.map (zcv G)).toArray s2 (S1.2.1.length - S.2.1.length) (zslots S1 - zslots S) (zA G)) S.2.1.length (zslots S) S1.2.1.length (zslots S1) cx2 rfl rfl (Nat.le_refl _) (Nat.le_refl _) hat2 (Nat.le_refl _) (Nat.le_refl _) (Nat.le_refl _) (Nat.le_refl _) (zRet_met _ _ cx2 B.returns B.notSynchronized)
                    rw [Nat.sub_self, Nat.sub_self] at K
                    exact K
                  -- behind the call
                  have hsumv : (((st.drop nn).map (zcv G)).map fun v => v.category).sum ≤ 8 := by rw [zsum_cat G hg]; exact hsum
                  have hmapst : st.map (zcv G) = (as.map (zcv G)).reverse ++ (st.drop nn).map (zcv G) := by
                    conv => lhs; rw [hst, htake]
                    rw [List.map_append, List.map_reverse]
                  have KK : ∀ (H1 : Heap) (locs1 : List Loc), zwf r1 → zRel G S1 H1 → va_S (zA G) s.heap H1 locs1 → W p l e R s m args below meth c H1 locs1 (S.2.1.length - n0 + (S1.2.1.length - S.2.1.length)) (zslots S - m0 + (zslots S1 - zslots S)) Q (F0 m (pc + 3) lm ((zrv G r1).toList ++ (st.drop nn).map (zcv G))) := by
                    intro H1 locs1 hr1 hrel1 hS1
                    rw [show S.2.1.length - n0 + (S1.2.1.length - S.2.1.length) = S1.2.1.length - n0 by omega, show zslots S - m0 + (zslots S1 - zslots S) = zslots S1 - m0 by omega]
                    have K := ih (d' + 1) y (pc + i.2.1) ls (if r1.1 = 3 then st.drop nn else r1 :: st.drop nn) S1 r S' hok h (p := p) (l := l) (e := e) (R := R) (s := s) (m := m) (args := args) (below := below) (meth := meth) (c := c) (H := H1) (locs := locs1) (lm := lm) (Q := Q) n0 m0 nF mF cx hRc hRs hRf hRl
                      ⟨hrel1, hS1, hat.2.2.1, hat.2.2.2.1, hat.2.2.2.2.1, by split; exact hwrest; exact zwf_cons hr1 hwrest⟩ (by omega) (by omega) hnF hmF hret
                    rw [hlen] at K
                    unfold zrv
                    split at K
                    · rename_i h3; rw [if_pos h3]; exact K
                    · rename_i h3; rw [if_neg h3]; exact K
                  have hroom : (zrm d' S S1).frames + 1 ≤ R.frames ∧ 8 + (zml t + 11) + (zrm d' S S1).locals ≤ R.locals := by
                    constructor
                    · show d' + 1 + 1 ≤ R.frames; omega
                    · show 8 + (zml t + 11) + (24 + 40 * d') ≤ R.locals; omega
                  have hcap : S.2.1.length - n0 + (S1.2.1.length - S.2.1.length) ≤ R.cells ∧ zslots S - m0 + (zslots S1 - zslots S) ≤ R.slots := by
                    constructor <;> omega
                  obtain ⟨hx, hb, hml, hown, hts, hfix, hnm⟩ := id cx
                  have S0 : CallFix p m c (zby y) (zml y) s args zTs (zmn y).cls := ⟨hx, hb, hml, hown, hts⟩
                  have hPc : ∀ U : State, U.heap = H → s.WarmedH U.vm → zPc G as S (as.map (zcv G)).toArray U := fun U hU hW => ⟨rfl, hfix.to hW (by rw [hU]; exact hat.2.1.1) (fun a h1 h2 => by rw [hU]; exact hat.2.1.2.1 a h1 h2), by rw [hU]; exact hat.1⟩
                  have hdesc : (zmn t).cls ≠ "java/lang/invoke/MethodHandle" ∧ (zmn t).cls ≠ "java/lang/invoke/VarHandle" ∧ (parseMethodDescriptor (zmn t).desc).map (fun d => d.parameters.length) = some (zin t 0) := ⟨mh1, mh2, mpar⟩
                  have hszl : lm.size = zml y := hat.2.2.1.1
                  rw [hmapst]
                  have hlas : as.length = nn := hal
                  have hrcv : ∀ kd : Nat, ¬ kd % 4 = 1 → zrecv S kd t as = true → ∃ (av : Int) (as' : List zV) (n1 : Nat), as = (2, av) :: as' ∧ zsh S av = some (zin t 2, n1) ∧ 0 ≤ av := by
                    intro kd hkd hr
                    unfold zrecv at hr
                    rw [if_neg hkd] at hr
                    split at hr
                    · rename_i av as'
                      split at hr
                      · rename_i c1 n1 hsh
                        have e : c1 = zin t 2 := by simpa using hr
                        refine ⟨av, as', n1, rfl, by rw [← e]; exact hsh, ?_⟩
                        rcases Int.lt_or_le av 0 with q | q
                        · unfold zsh at hsh
                          rw [if_pos q] at hsh
                          cases hsh
                        · exact q
                      · cases hr
                    · cases hr
                  split at hk
                  · rename_i hkd
                    rw [hkd] at hrecv hnp
                    simp only [Bool.and_eq_true, beq_iff_eq, decide_eq_true_eq] at hk
                    obtain ⟨⟨⟨hd, hlk⟩, hz1⟩, hni⟩ := hk
                    rw [if_neg (by rw [hz1]; decide)] at mkind
                    simp only [Bool.and_eq_true, Bool.or_eq_true, decide_eq_true_eq] at mkind
                    obtain ⟨minst, msel⟩ := mkind
                    obtain ⟨msel, mcl⟩ := msel.resolve_left hni
                    obtain ⟨av, as', n1, rfl, hsh, hav⟩ := hrcv 0 (by decide) hrecv
                    have hcell : ∃ cellB : Cell, H[zad G av]? = some cellB ∧ cellB.vm.isStatics = false ∧ s.vm.findClass (zmn t).cls = some cellB.cls := by
                      rcases zin2_ok t htl with h7 | h90 | h99
                      · have h32 : 32 ≤ av := by
                          rcases Int.lt_or_le av 32 with q | q
                          · obtain ⟨-, hF⟩ := zsh_for hsh q
                            have := zF_kind hF
                            omega
                          · exact q
                        obtain ⟨g1, g2, g3⟩ := zsh_own (G := G) h32 hsh
                        have hget := zws_get (G := G) g1
                        rw [zcell_obj h7, ← g2, ← g3] at hget
                        obtain ⟨C, T, N, ty, hCl⟩ := zCl_all h7
                        have hC : C = (zmn t).cls := by
                          rw [← mcl]
                          unfold zclname
                          rw [if_pos h7]
                          unfold zCn
                          rw [List.getD_eq_getElem?_getD, hCl.1]; rfl
                        rw [← hC]
                        exact va_recv hfix.1 hat.1.2.1 hCl.1 hget
                      · rw [h90] at hsh
                        have hS8 : 2 ≤ av ∧ av < 10 := by
                          rcases Int.lt_or_le av 32 with q | q
                          · obtain ⟨-, hF⟩ := zsh_for hsh q
                            have := zF_str hF
                            have := (zsh_for hsh q).1
                            omega
                          · obtain ⟨g1, g2, g3⟩ := zsh_own (G := G) q hsh
                            have := (hat.1.2.2.2.2.2.2 _ _ _ g1).2.1
                            omega
                        have hz2 : zad G av = gK G (av - 2).toNat := by
                          rw [zad_for (by omega), if_neg (by omega), if_neg (by omega), if_pos (by omega)]
                        rw [hz2, ← mcl]
                        unfold zclname
                        rw [if_neg (by rw [h90]; decide)]
                        exact vk_recv hfix.2.2.2.2.2.2.2.2.1 (by omega) hat.2.1
                      · rw [h99] at hsh
                        rcases Int.lt_or_le av 32 with q | q
                        · obtain ⟨-, hF⟩ := zsh_for hsh q
                          have := zF_kind hF
                          omega
                        · obtain ⟨g1, g2, g3⟩ := zsh_own (G := G) q hsh
                          have := (hat.1.2.2.2.2.2.2 _ _ _ g1).2.1
                          omega
                    have hzr : zcv G (2, av) = .ref (zad G av) := zcv_ref (by omega)
                    have hPc2 : ∀ U : State, U.heap = H → s.WarmedH U.vm → zPc G ((2, av) :: as') S (Value.ref (zad G av) :: as'.map (zcv G)).toArray U := by
                      intro U h1 h2
                      have := hPc U h1 h2
                      rwa [List.map_cons, hzr] at this
                    refine z_back (va_runV (As := as'.map (zcv G)) (rest := (st.drop nn).map (zcv G)) (C := (zmn t).cls) S0 hM (cwV (zin t 0) hts (z_good ?_) rfl rfl rfl ⟨rfl, hdesc⟩ hroom) ⟨zPc_blind _ _ _, hcell, hPc2⟩ rfl ?_ hszl ?_ (lv_room hsumv) (zdc_eq hd) hcap) hat.2.1 KK
                    · intro w hw
                      simp only [wsV, List.mem_append, List.mem_cons, List.not_mem_nil, or_false, zwords] at hw
                      rcases hw with (rfl | rfl | rfl | rfl) | rfl | hw
                      · exact zw_in hlk
                      · exact zw_in minst
                      · exact zw_in msel
                      · exact zw_in minit
                      · exact zw_in mcode
                      · exact hw
                    · rw [List.length_map]
                      rw [List.length_cons] at hlas
                      rw [if_neg (by decide)] at hnp
                      omega
                    · rw [List.map_cons, hzr, List.reverse_cons, List.append_assoc]; rfl
                  · rename_i hkd
                    rw [hkd] at hrecv hnp
                    simp only [Bool.and_eq_true, beq_iff_eq] at hk
                    obtain ⟨⟨hd, hlk⟩, hz1⟩ := hk
                    rw [if_pos hz1] at mkind
                    refine z_back (va_runS (As := as.map (zcv G)) (rest := (st.drop nn).map (zcv G)) S0 hM (va_cwS (zin t 0) hts (z_good ?_) rfl rfl rfl hdesc hroom) ⟨zPc_blind _ _ _, hPc⟩ rfl ?_ hszl rfl (lv_room hsumv) (zdc_eq hd) hcap) hat.2.1 KK
                    · intro w hw
                      simp only [va_wsS, List.mem_append, List.mem_cons, List.not_mem_nil, or_false, zwords] at hw
                      rcases hw with (rfl | rfl | rfl) | rfl | hw
                      · exact zw_in hlk
                      · exact zw_in mkind
                      · exact zw_in minit
                      · exact zw_in mcode
                      · exact hw
                    · rw [List.length_map]
                      rw [if_pos (by decide)] at hnp
                      omega
                  · rename_i hkd
                    rw [hkd] at hrecv hnp
                    simp only [Bool.and_eq_true, beq_iff_eq, decide_eq_true_eq] at hk
                    obtain ⟨⟨⟨⟨hd, hlk⟩, hz1⟩, hni⟩, hrt⟩ := hk
                    rw [if_neg (by rw [hz1]; decide)] at mkind
                    simp only [Bool.and_eq_true] at mkind
                    obtain ⟨av, as', n1, rfl, hsh, hav⟩ := hrcv 2 (by decide) hrecv
                    have hzr : zcv G (2, av) = .ref (zad G av) := zcv_ref (by omega)
                    have hPc2 : ∀ U : State, U.heap = H → s.WarmedH U.vm → zPc G ((2, av) :: as') S (Value.ref (zad G av) :: as'.map (zcv G)).toArray U := by
                      intro U h1 h2
                      have := hPc U h1 h2
                      rwa [List.map_cons, hzr] at this
                    have hwe : zwords t = Cond.code (zmn t) (zby t) (zml t) none :: zTs := by unfold zwords; rw [hrt]
                    refine z_back (va_runI (As := as'.map (zcv G)) (rest := (st.drop nn).map (zcv G)) S0 hM (cwI (zin t 0) hts (z_good ?_) hwe rfl rfl (hts _ (zw_in minit)) (hts _ (zw_in hlk)) (hts _ (zw_in mkind.1)) hni hdesc hroom) ⟨zPc_blind _ _ _, hPc2⟩ rfl ?_ hszl ?_ (lv_room hsumv) (zdc_eq hd) hcap) hat.2.1 KK
                    · intro w hw
                      rcases List.mem_cons.mp hw with rfl | hw
                      · exact zw_in mcode
                      · exact hw
                    · rw [List.length_map]
                      rw [List.length_cons] at hlas
                      rw [if_neg (by decide)] at hnp
                      omega
                    · rw [List.map_cons, hzr, List.reverse_cons, List.append_assoc]; rfl
                  · rename_i hkd
                    rw [hkd] at hrecv hnp
                    simp only [Bool.and_eq_true, beq_iff_eq, decide_eq_true_eq] at hk
                    obtain ⟨⟨⟨⟨hd, hlk⟩, hz1⟩, hni⟩, hrt⟩ := hk
                    rw [if_neg (by rw [hz1]; decide)] at mkind
                    simp only [Bool.and_eq_true] at mkind
                    obtain ⟨av, as', n1, rfl, hsh, hav⟩ := hrcv 6 (by decide) hrecv
                    have hzr : zcv G (2, av) = .ref (zad G av) := zcv_ref (by omega)
                    have hPc2 : ∀ U : State, U.heap = H → s.WarmedH U.vm → zPc G ((2, av) :: as') S (Value.ref (zad G av) :: as'.map (zcv G)).toArray U := by
                      intro U h1 h2
                      have := hPc U h1 h2
                      rwa [List.map_cons, hzr] at this
                    have hwe : zwords t = Cond.code (zmn t) (zby t) (zml t) none :: zTs := by unfold zwords; rw [hrt]
                    refine z_back (va_runIN (As := as'.map (zcv G)) (rest := (st.drop nn).map (zcv G)) S0 hM ⟨va_cnB (zin t 0) hts (z_good ?_) hwe rfl rfl (hfix.2.2.2.2.2.2.2.2.2.2.1 _ hlk) (hts _ (zw_in minit)) hdesc hroom, hni, hts _ (zw_in mkind.1)⟩ ⟨zPc_blind _ _ _, hPc2⟩ rfl ?_ hszl ?_ (lv_room hsumv) (zdc_eq hd) hcap) hat.2.1 KK
                    · intro w hw
                      rcases List.mem_cons.mp hw with rfl | hw
                      · exact zw_in mcode
                      · exact hw
                    · rw [List.length_map]
                      rw [List.length_cons] at hlas
                      rw [if_neg (by decide)] at hnp
                      omega
                    · rw [List.map_cons, hzr, List.reverse_cons, List.append_assoc]; rfl
                  · cases hk
                · cases hcall
        · rename_i h101
          rw [if_neg h101] at hz
          split at h
          · cases h
          · rename_i pc' ls' st' S2 hstep
            have mono := ex_mono _ _ _ _ _ _ _ _ _ h
            have m2 := zstep_mono _ _ _ _ _ _ hstep
            refine zp_step G y n0 m0 nF mF cx hRc hRs (by omega) (by omega) i pc ls st S lm pc' ls' st' S2 hz hstep hat hn0 hm0 (Nat.le_trans mono.1 hnF) (Nat.le_trans mono.2 hmF) (fun H' locs' lm' hat' => ?_)
            have m21 : S.2.1.length ≤ S2.2.1.length := m2.1
            have m22 : zslots S ≤ zslots S2 := m2.2.1
            exact ih d y pc' ls' st' S2 r S' hok h n0 m0 nF mF cx hRc hRs hRf hRl hat' (by omega) (by omega) hnF hmF hret
