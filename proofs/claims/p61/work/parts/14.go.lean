/-! the built world: its shapes, its final places; rules for a run in it -/
def zSH : List (Nat × Nat) := [(5, 15), (3, 11), (100, 400), (101, 6), (2, 4), (100, 9), (100, 9), (100, 9), (0, 5), (100, 6), (0, 5), (100, 6), (104, 8), (105, 6), (4, 5), (100, 101), (1, 2), (100, 3232), (101, 501), (100, 501), (101, 47), (0, 5), (100, 6), (0, 5), (100, 6), (0, 5), (100, 6), (0, 5), (100, 6), (0, 5), (100, 6), (0, 5), (100, 6), (0, 5), (100, 6), (0, 5), (100, 6), (4, 5), (100, 101), (4, 5), (100, 101), (4, 5), (100, 101), (4, 5), (100, 101), (4, 5), (100, 101), (4, 5), (100, 101)]
/-- the built world, and what was made behind it -/
def zSHx (E : List (Nat × Nat)) : List (Nat × Nat) := (5, 15) :: (3, 11) :: (100, 400) :: (101, 6) :: (2, 4) :: (100, 9) :: (100, 9) :: (100, 9) :: (0, 5) :: (100, 6) :: (0, 5) :: (100, 6) :: (104, 8) :: (105, 6) :: (4, 5) :: (100, 101) :: (1, 2) :: (100, 3232) :: (101, 501) :: (100, 501) :: (101, 47) :: (0, 5) :: (100, 6) :: (0, 5) :: (100, 6) :: (0, 5) :: (100, 6) :: (0, 5) :: (100, 6) :: (0, 5) :: (100, 6) :: (0, 5) :: (100, 6) :: (0, 5) :: (100, 6) :: (0, 5) :: (100, 6) :: (4, 5) :: (100, 101) :: (4, 5) :: (100, 101) :: (4, 5) :: (100, 101) :: (4, 5) :: (100, 101) :: (4, 5) :: (100, 101) :: (4, 5) :: (100, 101) :: E
def zfx (a j : Int) : Option Int := match zSH[(a - 32).toNat]? with
  | some (0, _) => if j = 0 then some (a + 1) else none
  | some (1, _) => if j = 0 then some (a + 1) else none
  | some (2, _) => if 0 ≤ j ∧ j ≤ 2 then some (a + 1 + j) else none
  | some (3, _) => if j = 0 ∨ j = 1 then some (a + 1 + j) else none
  | some (4, _) => if j = 0 then some (a + 1) else none
  | some (5, _) => if 0 ≤ j then ([some 33, some 36, some 40, some 42, some 44, some 45, some 46, some 48, some 50, some 51, some 52].getD j.toNat none) else none
  | some (105, _) => if 0 ≤ j ∧ j < 6 then some (69 + 2 * j) else none
  | _ => none
abbrev zHt : Type := Int → Int → Int
/-- the script's length, the script, the shapes of what was made behind the built world -/
abbrev zWt : Type := Nat × (Nat → Int32) × List (Nat × Nat)
def zM (w : zWt) (H : zHt) : zHt := fun a j => if a < 32 then zH0 w.2.1 a j else match zfx a j with
  | some v => v
  | none => H a j
def zS (w : zWt) (H : zHt) : zHp := (w.1, zSHx w.2.2, zM w H)
def zmk (H H' : zHt) : Prop := ∀ a j : Int, (a < 32 ∨ zfx a j ≠ none) → H' a j = H a j
def zgo (w : zWt) (d y pc : Nat) (ls st : List zV) (H : zHt) (Q : zV → zHt → Prop) : Prop := ∃ (n : Nat) (r : zV) (H' : zHt), ex n d y pc ls st (zS w H) = some (r, zS w H') ∧ zmk H H' ∧ Q r H'
def zcl (w : zWt) (d y : Nat) (as : List zV) (H : zHt) (Q : zV → zHt → Prop) : Prop := zgo w d y 0 (zentry y as) [] H Q
-- more fuel, more depth
theorem ex_more : ∀ (n k d y pc : Nat) (ls st : List zV) (S : zHp) (r : zV × zHp), ex n d y pc ls st S = some r → ex (n + k) d y pc ls st S = some r := by
  intro n
  induction n with
  | zero => intro k d y pc ls st S r h; cases h
  | succ n ih =>
    intro k d y pc ls st S r h
    rw [show n + 1 + k = (n + k) + 1 by omega, ex]
    rw [ex] at h
    split at h
    · cases h
    · rename_i i hf
      split at h
      · rename_i h1; rw [if_pos h1]; exact h
      · rename_i h1
        rw [if_neg h1]
        split at h
        · rename_i h2
          rw [if_pos h2]
          split at h
          · cases h
          · split at h
            · cases h
            · split at h
              · cases h
              · rename_i h3
                rw [ih k _ _ _ _ _ _ _ h3]
                exact ih k _ _ _ _ _ _ _ h
        · rename_i h2
          rw [if_neg h2]
          split at h
          · cases h
          · exact ih k _ _ _ _ _ _ _ h
theorem ex_more2 {n k d y pc : Nat} {ls st : List zV} {S : zHp} {r : zV × zHp} (h : ex n d y pc ls st S = some r) (hk : n ≤ k) : ex k d y pc ls st S = some r := by
  have := ex_more n (k - n) d y pc ls st S r h
  rwa [show n + (k - n) = k by omega] at this
-- less known locals
def zle : List zV → List zV → Prop
  | [], [] => True
  | a :: as, b :: bs => (b = zJ ∨ a = b) ∧ zle as bs
  | _, _ => False
theorem zle_len : ∀ {a b : List zV}, zle a b → a.length = b.length
  | [], [], _ => rfl
  | _ :: _, _ :: _, h => by simp [zle_len h.2]
theorem zle_get : ∀ {a b : List zV}, zle a b → ∀ {k : Nat} {v : zV}, b[k]? = some v → v ≠ zJ → a[k]? = some v
  | [], [], _, k, v, h, _ => by simp at h
  | a :: as, b :: bs, hl, 0, v, h, hv => by
    simp at h
    subst h
    rcases hl.1 with q | q
    · exact absurd q hv
    · simp [q]
  | a :: as, b :: bs, hl, k + 1, v, h, hv => by
    simp at h ⊢
    exact zle_get hl.2 h hv
theorem zle_set : ∀ {a b : List zV} (k : Nat) (v : zV), zle a b → zle (a.set k v) (b.set k v)
  | [], [], k, v, h => by simpa using h
  | a :: as, b :: bs, 0, v, h => ⟨Or.inr rfl, h.2⟩
  | a :: as, b :: bs, k + 1, v, h => ⟨h.1, zle_set k v h.2⟩
theorem zle_setJ : ∀ {a b : List zV} (k : Nat) , zle a b → zle a (b.set k zJ)
  | [], [], k, h => by simpa using h
  | a :: as, b :: bs, 0, h => ⟨Or.inl rfl, h.2⟩
  | a :: as, b :: bs, k + 1, h => ⟨h.1, zle_setJ k h.2⟩
theorem zle_setJ2 : ∀ {a b : List zV} (k : Nat), zle a b → b.getD k zJ = zJ → zle (a.set k zJ) b
  | [], [], k, h, _ => by simpa using h
  | a :: as, b :: bs, 0, h, hb => ⟨Or.inl (by simpa using hb), h.2⟩
  | a :: as, b :: bs, k + 1, h, hb => ⟨h.1, zle_setJ2 k h.2 (by simpa using hb)⟩
theorem zle_kill {a b : List zV} (h : zle a b) (i : Nat) : zle (zkill a i) (zkill b i) := by
  unfold zkill
  cases i with
  | zero => exact h
  | succ k =>
    dsimp only
    by_cases hb : (b.getD k zJ).1 = 1
    · have ha : (a.getD k zJ).1 = 1 := by
        have hk : k < b.length := by
          rcases Nat.lt_or_ge k b.length with q | q
          · exact q
          · rw [List.getD_eq_getElem?_getD, List.getElem?_eq_none q] at hb
            exact absurd hb (by decide)
        have hg : b[k]? = some (b.getD k zJ) := by rw [List.getD_eq_getElem?_getD, List.getElem?_eq_getElem hk]; rfl
        have := zle_get h hg (fun q => by rw [q] at hb; exact absurd hb (by decide))
        rw [List.getD_eq_getElem?_getD, this]
        exact hb
      rw [if_pos hb, if_pos ha]
      exact zle_set k zJ h
    · rw [if_neg hb]
      split
      · rename_i ha
        refine zle_setJ2 k h ?_
        have hk : k < b.length := by
          rcases Nat.lt_or_ge k b.length with q | q
          · exact q
          · rw [List.getD_eq_getElem?_getD, List.getElem?_eq_none (by rw [zle_len h]; exact q)] at ha
            exact absurd ha (by decide)
        have hg : b[k]? = some (b.getD k zJ) := by rw [List.getD_eq_getElem?_getD, List.getElem?_eq_getElem hk]; rfl
        rcases Classical.em (b.getD k zJ = zJ) with q | q
        · exact q
        · have := zle_get h hg q
          rw [List.getD_eq_getElem?_getD, this] at ha
          exact absurd ha hb
      · exact h
theorem zle_set1 {a b : List zV} (h : zle a b) (i : Nat) (v : zV) : zle (zset1 a i v) (zset1 b i v) := zle_set i v (zle_kill h i)
theorem zle_set2 {a b : List zV} (h : zle a b) (i : Nat) (v : zV) : zle (zset2 a i v) (zset2 b i v) := zle_set (i + 1) zJ (zle_set i v (zle_kill h i))
def zWk (f : zSem) : Prop := ∀ (i : zC) (pc : Nat) (a b st : List zV) (S : zHp) (pc' : Nat) (b' st' : List zV) (S' : zHp), zle a b → f i pc b st S = some (pc', b', st', S') → ∃ a', f i pc a st S = some (pc', a', st', S') ∧ zle a' b'
theorem zwk_of {f : zSem} (h : ∀ i pc a b st S, (f i pc b st S).map (fun q => (q.1, q.2.2)) = (f i pc a st S).map (fun q => (q.1, q.2.2))) (h2 : ∀ i pc b st S q, f i pc b st S = some q → q.2.1 = b) : zWk f := by
  intro i pc a b st S pc' b' st' S' hl hf
  have h3 := h i pc a b st S
  rw [hf] at h3
  have hb : b' = b := h2 i pc b st S _ hf
  cases hfa : f i pc a st S with
  | none => rw [hfa] at h3; cases h3
  | some q =>
    obtain ⟨q1, q2, q3, q4⟩ := q
    rw [hfa] at h3
    have ha : q2 = a := h2 i pc a st S _ hfa
    simp only [Option.map_some, Option.some.injEq, Prod.mk.injEq] at h3
    obtain ⟨e1, e2, e3⟩ := h3
    subst e1; subst e2; subst e3; subst ha; subst hb
    exact ⟨_, rfl, hl⟩
def zCar (f : zSem) : Prop := ∀ (i : zC) (pc : Nat) (ls st : List zV) (S : zHp), f i pc ls st S = (f i pc [] st S).map (fun q => (q.1, ls, q.2.2))
theorem zwk_car {f : zSem} (h : zCar f) : zWk f := by
  intro i pc a b st S pc' b' st' S' hl hf
  rw [h] at hf
  simp only [Option.map_eq_some_iff] at hf
  obtain ⟨⟨q1, q2, q3, q4⟩, hq, e⟩ := hf
  simp only [Prod.mk.injEq] at e
  obtain ⟨rfl, rfl, rfl, rfl⟩ := e
  refine ⟨a, ?_, hl⟩
  rw [h, hq]; rfl
theorem zcar_all : ∀ f ∈ [zs_no, zs_iconst, zs_lconst, zs_iar, zs_lar, zs_lsh, zs_un, zs_lcmp, zs_if, zs_icmp, zs_goto, zs_get, zs_put, zs_alen, zs_ald, zs_xast, zs_dup, zs_dup2, zs_newa, zs_newq, zs_new, zs_table, zs_stat, zs_ldcs, zs_pop, zs_obj, zs_sget, zs_look, zs_math 0, zs_math 1, zs_math 2, zs_null, zs_dupx, zs_acopy, zs_nonnull, zs_clone, zs_cast], zCar f := by
  intro f hf
  simp only [List.mem_cons, List.not_mem_nil, or_false] at hf
  rcases hf with rfl | rfl | rfl | rfl | rfl | rfl | rfl | rfl | rfl | rfl | rfl | rfl | rfl | rfl | rfl | rfl | rfl | rfl | rfl | rfl | rfl | rfl | rfl | rfl | rfl | rfl | rfl | rfl | rfl | rfl | rfl | rfl | rfl | rfl | rfl | rfl | rfl <;> intro i pc ls st S <;> obtain ⟨op, len, a, b, k, ex⟩ := i
  · rfl
  · rfl
  · rfl
  · simp only [zs_iar]; split <;> simp [Option.map_map, Function.comp_def]
  · simp only [zs_lar]; split <;> simp [Option.map_map, Function.comp_def]
  · simp only [zs_lsh]; split <;> rfl
  · simp only [zs_un]
    split
    · rfl
    · rfl
    · rfl
    · rfl
    · split <;> rfl
    · rfl
  · simp only [zs_lcmp]; split <;> rfl
  · simp only [zs_if]; split <;> rfl
  · simp only [zs_icmp]; split <;> rfl
  · rfl
  · simp only [zs_get]
    split
    · split
      · split <;> rfl
      · rfl
    · rfl
  · simp only [zs_put]
    split
    · split
      · split <;> rfl
      · rfl
    · rfl
  · simp only [zs_alen]
    split
    · split
      · split <;> rfl
      · rfl
    · rfl
  · simp only [zs_ald]
    split
    · split
      · split <;> rfl
      · rfl
    · rfl
  · simp only [zs_xast]
    split
    · simp only [zs_iast]
      split
      · split
        · split <;> rfl
        · rfl
      · rfl
    · simp only [zs_last]
      split
      · split
        · split <;> rfl
        · rfl
      · rfl
    · simp only [zs_bast]
      split
      · split
        · split <;> rfl
        · rfl
      · rfl
    · simp only [zs_aast]
      split
      · split
        · split <;> rfl
        · rfl
      · rfl
    · rfl
  · simp only [zs_dup]
    split
    · split <;> rfl
    · rfl
  · simp only [zs_dup2]
    split
    · split
      · rfl
      · split
        · split <;> rfl
        · rfl
    · rfl
  · simp only [zs_newa]
    split
    · split <;> rfl
    · rfl
  · simp only [zs_newq]
    split
    · split <;> rfl
    · rfl
  · simp only [zs_new]
    split <;> rfl
  · simp only [zs_table]
    split
    · split <;> rfl
    · rfl
  · simp only [zs_stat]; split <;> rfl
  · simp only [zs_ldcs]
    split
    · rfl
    · split <;> rfl
  · simp only [zs_pop]
    split
    · split <;> rfl
    · rfl
  · simp only [zs_obj]
    split
    · split <;> rfl
    · rfl
  · simp only [zs_sget]
    split
    · split
      · rfl
      · split
        · rfl
        · split
          · split <;> rfl
          · rfl
    · rfl
  · simp only [zs_look]; split <;> rfl
  · simp only [zs_math]
    split
    · split <;> rfl
    · split <;> rfl
    · split <;> rfl
    · rfl
  · simp only [zs_math]
    split
    · split <;> rfl
    · split <;> rfl
    · split <;> rfl
    · rfl
  · simp only [zs_math]
    split
    · split <;> rfl
    · split <;> rfl
    · split <;> rfl
    · rfl
  · rfl
  · simp only [zs_dupx]
    split
    · split <;> rfl
    · rfl
  · simp only [zs_acopy]
    split
    · split
      · split <;> rfl
      · rfl
    · rfl
  · simp only [zs_nonnull]; split <;> rfl
  · simp only [zs_clone]
    split
    · split
      · split <;> rfl
      · rfl
    · rfl
  · simp only [zs_cast]
    split
    · split
      · split <;> rfl
      · rfl
    · rfl
theorem zne3 {k : Nat} {x : Int} (h : k ≠ 3) : ((k, x) : zV) ≠ zJ := fun q => h (congrArg Prod.fst q)
theorem zwk_all : ∀ f ∈ zsems, zWk f := by
  have C := fun f h => zwk_car (zcar_all f h)
  have w1 : zWk zs_iload := by
    intro i pc a b st S pc' b' st' S' hl hf
    simp only [zs_iload] at hf ⊢
    split at hf
    · rename_i x hx
      cases hf
      rw [zle_get hl hx (zne3 (by decide))]
      exact ⟨a, rfl, hl⟩
    · cases hf
  have w2 : zWk zs_lload := by
    intro i pc a b st S pc' b' st' S' hl hf
    simp only [zs_lload] at hf ⊢
    split at hf
    · rename_i x hx
      cases hf
      rw [zle_get hl hx (zne3 (by decide))]
      exact ⟨a, rfl, hl⟩
    · cases hf
  have w3 : zWk zs_aload := by
    intro i pc a b st S pc' b' st' S' hl hf
    simp only [zs_aload] at hf ⊢
    split at hf
    · rename_i x hx
      split at hf
      · cases hf
      · rename_i h0
        cases hf
        rw [zle_get hl hx (zne3 (by decide))]
        exact ⟨a, by simp only [if_neg h0], hl⟩
    · rename_i x hx
      cases hf
      rw [zle_get hl hx (zne3 (by decide))]
      exact ⟨a, rfl, hl⟩
    · cases hf
  have w4 : zWk zs_istore := by
    intro i pc a b st S pc' b' st' S' hl hf
    simp only [zs_istore] at hf ⊢
    split at hf
    · split at hf
      · rename_i hlt
        cases hf
        rw [if_pos (by rw [zle_len hl]; exact hlt)]
        exact ⟨_, rfl, zle_set1 hl _ _⟩
      · cases hf
    · cases hf
  have w5 : zWk zs_lstore := by
    intro i pc a b st S pc' b' st' S' hl hf
    simp only [zs_lstore] at hf ⊢
    split at hf
    · split at hf
      · rename_i hlt
        cases hf
        rw [if_pos (by rw [zle_len hl]; exact hlt)]
        exact ⟨_, rfl, zle_set2 hl _ _⟩
      · cases hf
    · cases hf
  have w6 : zWk zs_astore := by
    intro i pc a b st S pc' b' st' S' hl hf
    simp only [zs_astore] at hf ⊢
    split at hf
    · split at hf
      · cases hf
      · rename_i h0
        split at hf
        · rename_i hlt
          cases hf
          rw [if_neg h0, if_pos (by rw [zle_len hl]; exact hlt)]
          exact ⟨_, rfl, zle_set1 hl _ _⟩
        · cases hf
    · cases hf
  have w7 : zWk zs_iinc := by
    intro i pc a b st S pc' b' st' S' hl hf
    simp only [zs_iinc] at hf ⊢
    split at hf
    · rename_i x hx
      cases hf
      rw [zle_get hl hx (zne3 (by decide))]
      exact ⟨_, rfl, zle_set1 hl _ _⟩
    · cases hf
  intro f hf
  simp only [zsems, List.mem_cons, List.not_mem_nil, or_false] at hf
  rcases hf with rfl | rfl | rfl | rfl | rfl | rfl | rfl | rfl | rfl | rfl | rfl | rfl | rfl | rfl | rfl | rfl | rfl | rfl | rfl | rfl | rfl | rfl | rfl | rfl | rfl | rfl | rfl | rfl | rfl | rfl | rfl | rfl | rfl | rfl | rfl | rfl | rfl | rfl | rfl | rfl | rfl | rfl | rfl | rfl | rfl | rfl <;> first | exact w1 | exact w2 | exact w3 | exact w4 | exact w5 | exact w6 | exact w7 | exact C _ (by simp)
theorem zstep_wk : zWk zstep := by
  intro i pc a b st S pc' b' st' S' hl hf
  unfold zstep at hf ⊢
  by_cases hq : i.1 < zsems.length
  · rw [List.getD_eq_getElem?_getD, List.getElem?_eq_getElem hq] at hf ⊢
    exact zwk_all _ (List.getElem_mem hq) i pc a b st S pc' b' st' S' hl hf
  · rw [List.getD_eq_getElem?_getD, List.getElem?_eq_none (by omega)] at hf
    cases hf
theorem ex_weak : ∀ (n d y pc : Nat) (a b st : List zV) (S : zHp) (r : zV × zHp), zle a b → ex n d y pc b st S = some r → ex n d y pc a st S = some r := by
  intro n
  induction n with
  | zero => intro d y pc a b st S r _ h; cases h
  | succ n ih =>
    intro d y pc a b st S r hl h
    rw [ex] at h ⊢
    split at h
    · cases h
    · rename_i i hf
      split at h
      · rename_i h1; rw [if_pos h1]; exact h
      · rename_i h1
        rw [if_neg h1]
        split at h
        · rename_i h2
          rw [if_pos h2]
          split at h
          · cases h
          · split at h
            · cases h
            · split at h
              · cases h
              · rename_i h3
                exact ih _ _ _ _ _ _ _ _ hl h
        · rename_i h2
          rw [if_neg h2]
          split at h
          · cases h
          · rename_i pc' b' st' S' hs
            obtain ⟨a', ha, hl'⟩ := zstep_wk _ _ _ _ _ _ _ _ _ _ hl hs
            rw [ha]
            exact ih _ _ _ _ _ _ _ _ hl' h
-- rules
theorem zstep_eq {i : zC} {pc : Nat} {ls st : List zV} {S : zHp} {f : zSem} (h : zsems.getD i.1 zs_no = f) : zstep i pc ls st S = f i pc ls st S := by unfold zstep; rw [h]
section ZR
variable {w : zWt} {d y pc q : Nat} {ls ls' st : List zV} {H : zHt} {Q : zV → zHt → Prop} {l : List (Option zC)} {n a b : Nat} {k : Int} {e : List Int}
theorem zmk_rfl {H : zHt} : zmk H H := fun _ _ _ => rfl
theorem zmk_up {o j x : Int} (ho : 32 ≤ o) (hx : zfx o j = none) : zmk H (zup H o j x) := by
  intro a' j' h
  unfold zup
  by_cases q : a' = o ∧ j' = j
  · obtain ⟨rfl, rfl⟩ := q
    rcases h with h | h
    · omega
    · exact absurd hx h
  · rw [if_neg q]
theorem zmk_tr {H H1 H2 : zHt} (h1 : zmk H H1) (h2 : zmk H1 H2) : zmk H H2 := fun a j h => (h2 a j h).trans (h1 a j h)
theorem g_stepU {i : zC} {st' : List zV} {H' : zHt} (hp : zprog.getD y [] = l) (hf : l.getD pc none = some i) (h0 : Nat.beq i.1 100 = false) (h1 : Nat.beq i.1 101 = false) (hs : zstep i pc ls st (zS w H) = some (q, ls', st', zS w H')) (hm : zmk H H') (K : zgo w d y q ls' st' H' Q) : zgo w d y pc ls st H Q := by
  obtain ⟨n, r, H2, h, hm2, hq⟩ := K
  refine ⟨n + 1, r, H2, ?_, zmk_tr hm hm2, hq⟩
  have hff : zfetch y pc = some i := by unfold zfetch; rw [hp]; exact hf
  rw [ex, hff]
  dsimp only
  rw [if_neg (Nat.ne_of_beq_eq_false h0), if_neg (Nat.ne_of_beq_eq_false h1), hs]
  exact h
theorem g_step {i : zC} {st' : List zV} (hp : zprog.getD y [] = l) (hf : l.getD pc none = some i) (h0 : Nat.beq i.1 100 = false) (h1 : Nat.beq i.1 101 = false) (hs : zstep i pc ls st (zS w H) = some (q, ls', st', zS w H)) (K : zgo w d y q ls' st' H Q) : zgo w d y pc ls st H Q :=
  g_stepU hp hf h0 h1 hs zmk_rfl K
theorem g_weak (hl : zle ls ls') (K : zgo w d y pc ls' st H Q) : zgo w d y pc ls st H Q := by
  obtain ⟨n, r, H2, h, hm, hq⟩ := K
  exact ⟨n, r, H2, ex_weak _ _ _ _ _ _ _ _ _ hl h, hm, hq⟩
theorem g_mono {Q' : zV → zHt → Prop} (K : zgo w d y pc ls st H Q') (h : ∀ r H', Q' r H' → Q r H') : zgo w d y pc ls st H Q := by
  obtain ⟨n, r, H2, hx, hm, hq⟩ := K
  exact ⟨n, r, H2, hx, hm, h _ _ hq⟩
theorem zM_inj {H H1 H2 : zHt} (h1 : zmk H H1) (h2 : zmk H H2) (h : zM w H1 = zM w H2) : H1 = H2 := by
  funext a j
  by_cases q : a < 32 ∨ zfx a j ≠ none
  · rw [h1 a j q, h2 a j q]
  · have e := congrFun (congrFun h a) j
    unfold zM at e
    have q1 : ¬ a < 32 := fun z => q (Or.inl z)
    have q2 : zfx a j = none := by
      rcases Classical.em (zfx a j = none) with z | z
      · exact z
      · exact absurd (Or.inr z) q
    rw [if_neg q1, if_neg q1, q2] at e
    exact e
theorem zgo_det {Q1 Q2 : zV → zHt → Prop} (k1 : zgo w d y pc ls st H Q1) (k2 : zgo w d y pc ls st H Q2) : zgo w d y pc ls st H (fun r H' => Q1 r H' ∧ Q2 r H') := by
  obtain ⟨n1, r1, H1, x1, m1, q1⟩ := k1
  obtain ⟨n2, r2, H2, x2, m2, q2⟩ := k2
  have e := (ex_more2 x1 (Nat.le_add_right n1 n2)).symm.trans (ex_more2 x2 (Nat.le_add_left n2 n1))
  have e1 := Prod.mk.inj (Option.some.inj e)
  have e2 : zM w H1 = zM w H2 := (Prod.mk.inj (Prod.mk.inj e1.2).2).2
  have e3 := zM_inj m1 m2 e2
  obtain ⟨e4, -⟩ := e1
  subst e3; subst e4
  exact ⟨n1, r1, H1, x1, m1, q1, q2⟩
theorem g_ic (hp : zprog.getD y [] = l) (hf : l.getD pc none = some (1, n, a, b, k, e)) (hq : pc + n = q) (K : zgo w d y q ls (zI k :: st) H Q) : zgo w d y pc ls st H Q := by
  subst hq; exact g_step hp hf rfl rfl rfl K
theorem g_lc (hp : zprog.getD y [] = l) (hf : l.getD pc none = some (2, n, a, b, k, e)) (hq : pc + n = q) (K : zgo w d y q ls (zL k :: st) H Q) : zgo w d y pc ls st H Q := by
  subst hq; exact g_step hp hf rfl rfl rfl K
theorem g_il {x : Int} (hp : zprog.getD y [] = l) (hf : l.getD pc none = some (3, n, a, b, k, e)) (hq : pc + n = q) (hl : ls[a]? = some (zI x)) (K : zgo w d y q ls (zI x :: st) H Q) : zgo w d y pc ls st H Q := by
  subst hq
  refine g_step hp hf rfl rfl ?_ K
  rw [zstep_eq (f := zs_iload) rfl]
  simp only [zs_iload, hl]
theorem g_ll {x : Int} (hp : zprog.getD y [] = l) (hf : l.getD pc none = some (4, n, a, b, k, e)) (hq : pc + n = q) (hl : ls[a]? = some (zL x)) (K : zgo w d y q ls (zL x :: st) H Q) : zgo w d y pc ls st H Q := by
  subst hq
  refine g_step hp hf rfl rfl ?_ K
  rw [zstep_eq (f := zs_lload) rfl]
  simp only [zs_lload, hl]
theorem g_al {x : Int} (hp : zprog.getD y [] = l) (hf : l.getD pc none = some (5, n, a, b, k, e)) (hq : pc + n = q) (hl : ls[a]? = some (zR x)) (h0 : 0 ≤ x) (K : zgo w d y q ls (zR x :: st) H Q) : zgo w d y pc ls st H Q := by
  subst hq
  refine g_step hp hf rfl rfl ?_ K
  rw [zstep_eq (f := zs_aload) rfl]
  simp only [zs_aload, hl]
  rw [if_neg (by omega)]
theorem g_alO {x : Int} (hp : zprog.getD y [] = l) (hf : l.getD pc none = some (5, n, a, b, k, e)) (hq : pc + n = q) (hl : ls[a]? = some (4, x)) (K : zgo w d y q ls ((4, x) :: st) H Q) : zgo w d y pc ls st H Q := by
  subst hq
  refine g_step hp hf rfl rfl ?_ K
  rw [zstep_eq (f := zs_aload) rfl]
  simp only [zs_aload, hl]
theorem g_is {x : Int} (hp : zprog.getD y [] = l) (hf : l.getD pc none = some (6, n, a, b, k, e)) (hq : pc + n = q) (hlt : a < ls.length) (hz : zset1 ls a (zI x) = ls') (K : zgo w d y q ls' st H Q) : zgo w d y pc ls (zI x :: st) H Q := by
  subst hq; subst hz
  refine g_step hp hf rfl rfl ?_ K
  rw [zstep_eq (f := zs_istore) rfl]
  simp only [zs_istore]
  rw [if_pos hlt]
theorem g_ls {x : Int} (hp : zprog.getD y [] = l) (hf : l.getD pc none = some (7, n, a, b, k, e)) (hq : pc + n = q) (hlt : a + 1 < ls.length) (hz : zset2 ls a (zL x) = ls') (K : zgo w d y q ls' st H Q) : zgo w d y pc ls (zL x :: st) H Q := by
  subst hq; subst hz
  refine g_step hp hf rfl rfl ?_ K
  rw [zstep_eq (f := zs_lstore) rfl]
  simp only [zs_lstore]
  rw [if_pos hlt]
theorem g_as {x : Int} (hp : zprog.getD y [] = l) (hf : l.getD pc none = some (8, n, a, b, k, e)) (hq : pc + n = q) (hlt : a < ls.length) (h0 : 0 ≤ x) (hz : zset1 ls a (zR x) = ls') (K : zgo w d y q ls' st H Q) : zgo w d y pc ls (zR x :: st) H Q := by
  subst hq; subst hz
  refine g_step hp hf rfl rfl ?_ K
  rw [zstep_eq (f := zs_astore) rfl]
  simp only [zs_astore]
  rw [if_neg (by omega), if_pos hlt]
theorem g_inc {x : Int} (hp : zprog.getD y [] = l) (hf : l.getD pc none = some (9, n, a, b, k, e)) (hq : pc + n = q) (hl : ls[a]? = some (zI x)) (hz : zset1 ls a (zI (w32 (x + k))) = ls') (K : zgo w d y q ls' st H Q) : zgo w d y pc ls st H Q := by
  subst hq; subst hz
  refine g_step hp hf rfl rfl ?_ K
  rw [zstep_eq (f := zs_iinc) rfl]
  simp only [zs_iinc, hl]
theorem g_ar {x z r : Int} (hp : zprog.getD y [] = l) (hf : l.getD pc none = some (10, n, a, b, k, e)) (hq : pc + n = q) (hr : zIar a x z = some r) (K : zgo w d y q ls (zI r :: st) H Q) : zgo w d y pc ls (zI z :: zI x :: st) H Q := by
  subst hq
  refine g_step hp hf rfl rfl ?_ K
  rw [zstep_eq (f := zs_iar) rfl]
  simp only [zs_iar, hr]; rfl
theorem g_lar {x z r : Int} (hp : zprog.getD y [] = l) (hf : l.getD pc none = some (11, n, a, b, k, e)) (hq : pc + n = q) (hr : zLar a x z = some r) (K : zgo w d y q ls (zL r :: st) H Q) : zgo w d y pc ls (zL z :: zL x :: st) H Q := by
  subst hq
  refine g_step hp hf rfl rfl ?_ K
  rw [zstep_eq (f := zs_lar) rfl]
  simp only [zs_lar, hr]; rfl
theorem zr_div {x z : Int} (h : z ≠ 0) : zIar 6 x z = some (w32 (Int.tdiv x z)) := if_neg h
theorem zr_rem {x z : Int} (h : z ≠ 0) : zIar 7 x z = some (Int.tmod x z) := if_neg h
theorem zr_ldiv {x z : Int} (h : z ≠ 0) : zLar 6 x z = some (w64 (Int.tdiv x z)) := if_neg h
theorem zr_lrem {x z : Int} (h : z ≠ 0) : zLar 7 x z = some (Int.tmod x z) := if_neg h
theorem g_lsh {x z : Int} (hp : zprog.getD y [] = l) (hf : l.getD pc none = some (12, n, a, b, k, e)) (hq : pc + n = q) (K : zgo w d y q ls (zL (if a = 0 then zshlL x z else zushrL x z) :: st) H Q) : zgo w d y pc ls (zI z :: zL x :: st) H Q := by
  subst hq; exact g_step hp hf rfl rfl rfl K
theorem g_neg {x : Int} (hp : zprog.getD y [] = l) (hf : l.getD pc none = some (13, n, 0, b, k, e)) (hq : pc + n = q) (K : zgo w d y q ls (zI (w32 (-x)) :: st) H Q) : zgo w d y pc ls (zI x :: st) H Q := by
  subst hq; exact g_step hp hf rfl rfl rfl K
theorem g_i2l {x : Int} (hp : zprog.getD y [] = l) (hf : l.getD pc none = some (13, n, 1, b, k, e)) (hq : pc + n = q) (K : zgo w d y q ls (zL x :: st) H Q) : zgo w d y pc ls (zI x :: st) H Q := by
  subst hq; exact g_step hp hf rfl rfl rfl K
theorem g_l2i {x : Int} (hp : zprog.getD y [] = l) (hf : l.getD pc none = some (13, n, 2, b, k, e)) (hq : pc + n = q) (K : zgo w d y q ls (zI (w32 x) :: st) H Q) : zgo w d y pc ls (zL x :: st) H Q := by
  subst hq; exact g_step hp hf rfl rfl rfl K
theorem g_i2b {x : Int} (hp : zprog.getD y [] = l) (hf : l.getD pc none = some (13, n, 3, b, k, e)) (hq : pc + n = q) (K : zgo w d y q ls (zI (zi8 x) :: st) H Q) : zgo w d y pc ls (zI x :: st) H Q := by
  subst hq; exact g_step hp hf rfl rfl rfl K
theorem g_i2c {x : Int} (hp : zprog.getD y [] = l) (hf : l.getD pc none = some (13, n, 4, b, k, e)) (hq : pc + n = q) (hx : 0 ≤ x ∧ x < 65536) (K : zgo w d y q ls (zI x :: st) H Q) : zgo w d y pc ls (zI x :: st) H Q := by
  subst hq
  refine g_step hp hf rfl rfl ?_ K
  rw [zstep_eq (f := zs_un) rfl]
  simp only [zs_un]
  rw [if_pos hx]
theorem zcmp_cond (a : Nat) (x z : Int) : zcond a (zcmp x z) 0 = zcond a x z := by
  have hh : (zcmp x z = 1 ∧ z < x) ∨ (zcmp x z = 0 ∧ x = z) ∨ (zcmp x z = -1 ∧ x < z) := by
    unfold zcmp
    split
    · exact Or.inl ⟨rfl, by assumption⟩
    · split
      · exact Or.inr (Or.inl ⟨rfl, by assumption⟩)
      · exact Or.inr (Or.inr ⟨rfl, by omega⟩)
  generalize zcmp x z = c at hh
  match a with
  | 0 => show decide (c = 0) = decide (x = z); exact decide_eq_decide.mpr (by omega)
  | 1 => show decide (¬ c = 0) = decide (¬ x = z); exact decide_eq_decide.mpr (by omega)
  | 2 => show decide (c < 0) = decide (x < z); exact decide_eq_decide.mpr (by omega)
  | 3 => show decide (0 ≤ c) = decide (z ≤ x); exact decide_eq_decide.mpr (by omega)
  | 4 => show decide (0 < c) = decide (z < x); exact decide_eq_decide.mpr (by omega)
  | n + 5 => show decide (c ≤ 0) = decide (x ≤ z); exact decide_eq_decide.mpr (by omega)
theorem zc0 {x z : Int} : (zcond 0 x z = true → x = z) ∧ (zcond 0 x z = false → ¬ x = z) := by simp [zcond]
theorem zc1 {x z : Int} : (zcond 1 x z = true → ¬ x = z) ∧ (zcond 1 x z = false → x = z) := by simp [zcond]
theorem zc2 {x z : Int} : (zcond 2 x z = true → x < z) ∧ (zcond 2 x z = false → z ≤ x) := by simp [zcond]
theorem zc3 {x z : Int} : (zcond 3 x z = true → z ≤ x) ∧ (zcond 3 x z = false → x < z) := by simp [zcond]
theorem zc4 {x z : Int} : (zcond 4 x z = true → z < x) ∧ (zcond 4 x z = false → x ≤ z) := by simp [zcond]
theorem zc5 {x z : Int} : (zcond 5 x z = true → x ≤ z) ∧ (zcond 5 x z = false → z < x) := by simp [zcond]
theorem g_if {x : Int} {P N : Prop} (hp : zprog.getD y [] = l) (hf : l.getD pc none = some (15, n, a, b, k, e)) (hq : pc + n = q) (hc : (zcond a x 0 = true → P) ∧ (zcond a x 0 = false → N)) (h1 : P → zgo w d y b ls st H Q) (h2 : N → zgo w d y q ls st H Q) : zgo w d y pc ls (zI x :: st) H Q := by
  subst hq
  cases hz : zcond a x 0 with
  | true =>
    refine g_step hp hf rfl rfl ?_ (h1 (hc.1 hz))
    rw [zstep_eq (f := zs_if) rfl]
    simp only [zs_if, hz]; rfl
  | false =>
    refine g_step hp hf rfl rfl ?_ (h2 (hc.2 hz))
    rw [zstep_eq (f := zs_if) rfl]
    simp only [zs_if, hz]; rfl
theorem g_icmp {x z : Int} {P N : Prop} (hp : zprog.getD y [] = l) (hf : l.getD pc none = some (16, n, a, b, k, e)) (hq : pc + n = q) (hc : (zcond a x z = true → P) ∧ (zcond a x z = false → N)) (h1 : P → zgo w d y b ls st H Q) (h2 : N → zgo w d y q ls st H Q) : zgo w d y pc ls (zI z :: zI x :: st) H Q := by
  subst hq
  cases hz : zcond a x z with
  | true =>
    refine g_step hp hf rfl rfl ?_ (h1 (hc.1 hz))
    rw [zstep_eq (f := zs_icmp) rfl]
    simp only [zs_icmp, hz]; rfl
  | false =>
    refine g_step hp hf rfl rfl ?_ (h2 (hc.2 hz))
    rw [zstep_eq (f := zs_icmp) rfl]
    simp only [zs_icmp, hz]; rfl
theorem g_cmp {x z : Int} (hp : zprog.getD y [] = l) (hf : l.getD pc none = some (14, n, a, b, k, e)) (hq : pc + n = q) (K : zgo w d y q ls (zI (zcmp x z) :: st) H Q) : zgo w d y pc ls (zL z :: zL x :: st) H Q := by
  subst hq; exact g_step hp hf rfl rfl rfl K
/-- lcmp and the branch behind it -/
theorem g_lcmp {q2 n2 a2 b2 : Nat} {k2 : Int} {e2 : List Int} {x z : Int} {P N : Prop} (hp : zprog.getD y [] = l) (hf : l.getD pc none = some (14, n, a, b, k, e)) (hq : pc + n = q2) (hf2 : l.getD q2 none = some (15, n2, a2, b2, k2, e2)) (hq2 : q2 + n2 = q) (hc : (zcond a2 x z = true → P) ∧ (zcond a2 x z = false → N)) (h1 : P → zgo w d y b2 ls st H Q) (h2 : N → zgo w d y q ls st H Q) : zgo w d y pc ls (zL z :: zL x :: st) H Q := by
  refine g_cmp hp hf hq (g_if hp hf2 hq2 ?_ h1 h2)
  rw [zcmp_cond]; exact hc
theorem g_goto (hp : zprog.getD y [] = l) (hf : l.getD pc none = some (17, n, a, b, k, e)) (K : zgo w d y b ls st H Q) : zgo w d y pc ls st H Q :=
  g_step hp hf rfl rfl rfl K
theorem g_get {o : Int} {v : zV} {c N : Nat} (hp : zprog.getD y [] = l) (hf : l.getD pc none = some (18, n, a, b, k, e)) (hq : pc + n = q) (hsh : zsh (zS w H) o = some (c, N)) (hc : c = a ∧ b < N ∧ 32 ≤ o) (hv : ztag (zft a b) (zM w H o b) = v) (K : zgo w d y q ls (v :: st) H Q) : zgo w d y pc ls (zR o :: st) H Q := by
  subst hq
  refine g_step hp hf rfl rfl ?_ K
  rw [zstep_eq (f := zs_get) rfl]
  simp only [zs_get, hsh]
  rw [if_pos hc, ← hv]; rfl
theorem zM_up {o j x : Int} (ho : 32 ≤ o) (hx : zfx o j = none) : zup (zM w H) o j x = zM w (zup H o j x) := by
  funext a' j'
  unfold zup zM
  by_cases h : a' = o ∧ j' = j
  · obtain ⟨rfl, rfl⟩ := h
    simp only [and_self, if_true]
    rw [if_neg (by omega), hx]
  · rw [if_neg h]
    simp only [if_neg h]
theorem g_put {o : Int} {v : zV} {c N : Nat} (hp : zprog.getD y [] = l) (hf : l.getD pc none = some (19, n, a, b, k, e)) (hq : pc + n = q) (hsh : zsh (zS w H) o = some (c, N)) (hc : c = a ∧ b < N ∧ 32 ≤ o) (hx : zfx o b = none) (hv : zokv (zft a b) v = true) (K : zgo w d y q ls st (zup H o b v.2) Q) : zgo w d y pc ls (v :: zR o :: st) H Q := by
  subst hq
  refine g_stepU hp hf rfl rfl ?_ (zmk_up hc.2.2 hx) K
  rw [zstep_eq (f := zs_put) rfl]
  simp only [zs_put, hsh]
  rw [if_pos ⟨hc.1, hc.2.1, hc.2.2, hv⟩]
  show some (_, _, _, w.1, zSHx w.2.2, zup (zM w H) o b v.2) = _
  rw [zM_up hc.2.2 hx]; rfl
theorem g_len {o : Int} {c N : Nat} (hp : zprog.getD y [] = l) (hf : l.getD pc none = some (20, n, a, b, k, e)) (hq : pc + n = q) (hsh : zsh (zS w H) o = some (c, N)) (hc : 91 ≤ c) (K : zgo w d y q ls (zI N :: st) H Q) : zgo w d y pc ls (zR o :: st) H Q := by
  subst hq
  refine g_step hp hf rfl rfl ?_ K
  rw [zstep_eq (f := zs_alen) rfl]
  simp only [zs_alen, hsh]
  rw [if_pos hc]
theorem g_ald {o j : Int} {v : zV} {c N : Nat} (hp : zprog.getD y [] = l) (hf : l.getD pc none = some (21, n, a, b, k, e)) (hq : pc + n = q) (hsh : zsh (zS w H) o = some (c, N)) (hc : zldok a c = true) (hj : 0 ≤ j ∧ j < N) (hv : ztag (if a = 4 then 2 else if a = 1 then 1 else 0) (zM w H o j) = v) (K : zgo w d y q ls (v :: st) H Q) : zgo w d y pc ls (zI j :: zR o :: st) H Q := by
  subst hq
  refine g_step hp hf rfl rfl ?_ K
  rw [zstep_eq (f := zs_ald) rfl]
  simp only [zs_ald, hsh]
  rw [if_pos ⟨hc, hj⟩, ← hv]; rfl
theorem g_iast {o j x : Int} {N : Nat} (hp : zprog.getD y [] = l) (hf : l.getD pc none = some (22, n, 0, b, k, e)) (hq : pc + n = q) (hsh : zsh (zS w H) o = some (100, N)) (ho : 32 ≤ o) (hx : zfx o j = none) (hj : 0 ≤ j ∧ j < N) (K : zgo w d y q ls st (zup H o j x) Q) : zgo w d y pc ls (zI x :: zI j :: zR o :: st) H Q := by
  subst hq
  refine g_stepU hp hf rfl rfl ?_ (zmk_up ho hx) K
  rw [zstep_eq (f := zs_xast) rfl, show zs_xast (22, n, 0, b, k, e) pc = zs_iast (22, n, 0, b, k, e) pc from rfl]
  simp only [zs_iast, hsh]
  rw [if_pos ⟨trivial, hj.1, hj.2, ho⟩]
  show some (_, _, _, w.1, zSHx w.2.2, zup (zM w H) o j x) = _
  rw [zM_up ho hx]; rfl
theorem g_last {o j x : Int} {N : Nat} (hp : zprog.getD y [] = l) (hf : l.getD pc none = some (22, n, 1, b, k, e)) (hq : pc + n = q) (hsh : zsh (zS w H) o = some (101, N)) (ho : 32 ≤ o) (hx : zfx o j = none) (hj : 0 ≤ j ∧ j < N) (K : zgo w d y q ls st (zup H o j x) Q) : zgo w d y pc ls (zL x :: zI j :: zR o :: st) H Q := by
  subst hq
  refine g_stepU hp hf rfl rfl ?_ (zmk_up ho hx) K
  rw [zstep_eq (f := zs_xast) rfl, show zs_xast (22, n, 1, b, k, e) pc = zs_last (22, n, 1, b, k, e) pc from rfl]
  simp only [zs_last, hsh]
  rw [if_pos ⟨trivial, hj.1, hj.2, ho⟩]
  show some (_, _, _, w.1, zSHx w.2.2, zup (zM w H) o j x) = _
  rw [zM_up ho hx]; rfl
theorem g_bast {o j x : Int} {N : Nat} (hp : zprog.getD y [] = l) (hf : l.getD pc none = some (22, n, 2, b, k, e)) (hq : pc + n = q) (hsh : zsh (zS w H) o = some (102, N)) (ho : 32 ≤ o) (hx : zfx o j = none) (hj : 0 ≤ j ∧ j < N) (K : zgo w d y q ls st (zup H o j (zi8 x)) Q) : zgo w d y pc ls (zI x :: zI j :: zR o :: st) H Q := by
  subst hq
  refine g_stepU hp hf rfl rfl ?_ (zmk_up ho hx) K
  rw [zstep_eq (f := zs_xast) rfl, show zs_xast (22, n, 2, b, k, e) pc = zs_bast (22, n, 2, b, k, e) pc from rfl]
  simp only [zs_bast, hsh]
  rw [if_pos ⟨trivial, hj.1, hj.2, ho⟩]
  show some (_, _, _, w.1, zSHx w.2.2, zup (zM w H) o j (zi8 x)) = _
  rw [zM_up ho hx]; rfl
theorem g_aast {o j x : Int} {N N2 : Nat} (hp : zprog.getD y [] = l) (hf : l.getD pc none = some (22, n, 4, b, k, e)) (hq : pc + n = q) (hsh : zsh (zS w H) o = some (104, N)) (hs2 : zsh (zS w H) x = some (0, N2)) (ho : 32 ≤ o) (ho2 : 32 ≤ x) (hx : zfx o j = none) (hj : 0 ≤ j ∧ j < N) (K : zgo w d y q ls st (zup H o j x) Q) : zgo w d y pc ls (zR x :: zI j :: zR o :: st) H Q := by
  subst hq
  refine g_stepU hp hf rfl rfl ?_ (zmk_up ho hx) K
  rw [zstep_eq (f := zs_xast) rfl, show zs_xast (22, n, 4, b, k, e) pc = zs_aast (22, n, 4, b, k, e) pc from rfl]
  simp only [zs_aast, hsh, hs2]
  rw [if_pos ⟨Or.inl ⟨trivial, trivial⟩, hj.1, hj.2, ho, ho2⟩]
  show some (_, _, _, w.1, zSHx w.2.2, zup (zM w H) o j x) = _
  rw [zM_up ho hx]; rfl
theorem g_dup {v : zV} (hp : zprog.getD y [] = l) (hf : l.getD pc none = some (23, n, a, b, k, e)) (hq : pc + n = q) (hv : zcat v = 1) (K : zgo w d y q ls (v :: v :: st) H Q) : zgo w d y pc ls (v :: st) H Q := by
  subst hq
  refine g_step hp hf rfl rfl ?_ K
  rw [zstep_eq (f := zs_dup) rfl]
  simp only [zs_dup]; rw [if_pos hv]
theorem g_dup2l {v : zV} (hp : zprog.getD y [] = l) (hf : l.getD pc none = some (24, n, a, b, k, e)) (hq : pc + n = q) (hv : zcat v = 2) (K : zgo w d y q ls (v :: v :: st) H Q) : zgo w d y pc ls (v :: st) H Q := by
  subst hq
  refine g_step hp hf rfl rfl ?_ K
  rw [zstep_eq (f := zs_dup2) rfl]
  simp only [zs_dup2]; rw [if_pos hv]
theorem g_dup2 {v u : zV} (hp : zprog.getD y [] = l) (hf : l.getD pc none = some (24, n, a, b, k, e)) (hq : pc + n = q) (hv : ¬ zcat v = 2) (hu : zcat u = 1) (K : zgo w d y q ls (v :: u :: v :: u :: st) H Q) : zgo w d y pc ls (v :: u :: st) H Q := by
  subst hq
  refine g_step hp hf rfl rfl ?_ K
  rw [zstep_eq (f := zs_dup2) rfl]
  simp only [zs_dup2]; rw [if_neg hv, if_pos hu]
theorem g_pop {v : zV} (hp : zprog.getD y [] = l) (hf : l.getD pc none = some (33, n, a, b, k, e)) (hq : pc + n = q) (hv : zcat v = 1) (K : zgo w d y q ls st H Q) : zgo w d y pc ls (v :: st) H Q := by
  subst hq
  refine g_step hp hf rfl rfl ?_ K
  rw [zstep_eq (f := zs_pop) rfl]
  simp only [zs_pop]; rw [if_pos hv]
theorem g_tabO {x : Int} (hp : zprog.getD y [] = l) (hf : l.getD pc none = some (30, n, a, b, k, e)) (hx : x < k ∨ k + e.length ≤ x) (K : zgo w d y b ls st H Q) : zgo w d y pc ls (zI x :: st) H Q := by
  refine g_step hp hf rfl rfl ?_ K
  rw [zstep_eq (f := zs_table) rfl]
  simp only [zs_table]; rw [if_pos hx]
theorem g_tabI {x : Int} (hp : zprog.getD y [] = l) (hf : l.getD pc none = some (30, n, a, b, k, e)) (hx : ¬ (x < k ∨ k + e.length ≤ x)) (hq : (e.getD (x - k).toNat 0).toNat = q) (K : zgo w d y q ls st H Q) : zgo w d y pc ls (zI x :: st) H Q := by
  subst hq
  refine g_step hp hf rfl rfl ?_ K
  rw [zstep_eq (f := zs_table) rfl]
  simp only [zs_table]; rw [if_neg hx]
theorem g_look {x : Int} (hp : zprog.getD y [] = l) (hf : l.getD pc none = some (36, n, a, b, k, e)) (hq : zlook b x e = q) (K : zgo w d y q ls st H Q) : zgo w d y pc ls (zI x :: st) H Q := by
  subst hq
  exact g_step hp hf rfl rfl rfl K
theorem g_stat {v : zV} (hp : zprog.getD y [] = l) (hf : l.getD pc none = some (31, n, a, b, k, e)) (hq : pc + n = q) (hv : (if a = 0 then zR 1 else if a = 1 then zI 1 else if a = 3 then zR 26 else if a = 4 then zR 27 else if a = 5 then zR 28 else zO) = v) (K : zgo w d y q ls (v :: st) H Q) : zgo w d y pc ls st H Q := by
  subst hq
  refine g_step hp hf rfl rfl ?_ K
  rw [zstep_eq (f := zs_stat) rfl]
  rw [← hv]
  simp only [zs_stat]
  split
  · rfl
  · rfl
  · rfl
  · rfl
  · rfl
  · rename_i h0 h1 h3 h4 h5
    rw [if_neg h0, if_neg h1, if_neg h3, if_neg h4, if_neg h5]
theorem g_ldcs {v : zV} (hp : zprog.getD y [] = l) (hf : l.getD pc none = some (32, n, a, b, k, e)) (hq : pc + n = q) (ha : a < 8) (hv : zR (2 + a) = v) (K : zgo w d y q ls (v :: st) H Q) : zgo w d y pc ls st H Q := by
  subst hq
  refine g_step hp hf rfl rfl ?_ K
  rw [zstep_eq (f := zs_ldcs) rfl]
  simp only [zs_ldcs]; rw [if_pos ha, ← hv]
theorem g_sget {o : Int} {v : zV} (hp : zprog.getD y [] = l) (hf : l.getD pc none = some (35, n, a, b, k, e)) (hq : pc + n = q) (ho : 2 ≤ o ∧ o < 10) (hv : (if a = 0 then zR (o + 8) else zI 0) = v) (K : zgo w d y q ls (v :: st) H Q) : zgo w d y pc ls (zR o :: st) H Q := by
  subst hq
  refine g_step hp hf rfl rfl ?_ K
  rw [zstep_eq (f := zs_sget) rfl]
  simp only [zs_sget]; rw [if_pos ho, ← hv]
theorem g_mmax {x z : Int} (hp : zprog.getD y [] = l) (hf : l.getD pc none = some (37, n, a, b, k, e)) (hq : pc + n = q) (hs : (st.map zcat).sum ≤ 8) (K : zgo w d y q ls (zI (if x < z then z else x) :: st) H Q) : zgo w d y pc ls (zI z :: zI x :: st) H Q := by
  subst hq
  refine g_step hp hf rfl rfl ?_ K
  rw [zstep_eq (f := zs_math 0) rfl]
  simp only [zs_math]; rw [if_pos hs]
theorem g_mmin {x z : Int} (hp : zprog.getD y [] = l) (hf : l.getD pc none = some (38, n, a, b, k, e)) (hq : pc + n = q) (hs : (st.map zcat).sum ≤ 8) (K : zgo w d y q ls (zI (if z < x then z else x) :: st) H Q) : zgo w d y pc ls (zI z :: zI x :: st) H Q := by
  subst hq
  refine g_step hp hf rfl rfl ?_ K
  rw [zstep_eq (f := zs_math 1) rfl]
  simp only [zs_math]; rw [if_pos hs]
theorem g_mmaxL {x z : Int} (hp : zprog.getD y [] = l) (hf : l.getD pc none = some (39, n, a, b, k, e)) (hq : pc + n = q) (hs : (st.map zcat).sum ≤ 8) (K : zgo w d y q ls (zL (if z < x then x else z) :: st) H Q) : zgo w d y pc ls (zL z :: zL x :: st) H Q := by
  subst hq
  refine g_step hp hf rfl rfl ?_ K
  rw [zstep_eq (f := zs_math 2) rfl]
  simp only [zs_math]; rw [if_pos hs]
theorem g_ret {r : zV} (hp : zprog.getD y [] = l) (hf : l.getD pc none = some (100, n, a, b, k, e)) (hr : zret a st = some r) (K : Q r H) : zgo w d y pc ls st H Q := by
  refine ⟨1, r, H, ?_, zmk_rfl, K⟩
  have hff : zfetch y pc = some (100, n, a, b, k, e) := by unfold zfetch; rw [hp]; exact hf
  rw [ex, hff]
  dsimp only
  rw [if_pos rfl, hr]; rfl
theorem zret_b {x : Int} (h : x = 0 ∨ x = 1) : zret 4 [zI x] = some (zI x) := by
  show (if zbool x = true then some (zI x) else none) = _
  rw [if_pos (by simpa [zbool] using h)]
theorem zret_r {x : Int} (h : 0 ≤ x) : zret 3 [zR x] = some (zR x) := by
  show (if x < 0 then none else some (zR x)) = _
  rw [if_neg (by omega)]
theorem g_call {t : Nat} {as rest : List zV} (hp : zprog.getD y [] = l) (hf : l.getD pc none = some (101, n, t, b, k, e)) (hq : pc + n = q) (hd : 0 < d) (hst : as.reverse ++ rest = st) (hlen : as.length = k.toNat) (hsum : (rest.map zcat).sum ≤ 8) (harg : (zargs as).length ≤ zml t) (hrec : zrecv (zS w H) b t as = true) (hrf : as.all zrefok = true)
    (K : zcl w (d - 1) t as H (fun r H' => zgo w d y q ls (if r.1 = 3 then rest else r :: rest) H' Q)) : zgo w d y pc ls st H Q := by
  obtain ⟨d', rfl⟩ : ∃ d', d = d' + 1 := ⟨d - 1, by omega⟩
  subst hq; subst hst
  obtain ⟨n1, r1, H1, h1, hm1, n2, r2, H2, h2, hm2, hQ⟩ := K
  rw [Nat.add_sub_cancel] at h1
  refine ⟨n1 + n2 + 1, r2, H2, ?_, zmk_tr hm1 hm2, hQ⟩
  have hff : zfetch y pc = some (101, n, t, b, k, e) := by unfold zfetch; rw [hp]; exact hf
  rw [ex, hff]
  dsimp only
  rw [if_neg (by decide), if_pos rfl]
  have hlr : as.reverse.length = k.toNat := by rw [List.length_reverse]; exact hlen
  have htake : (as.reverse ++ rest).take k.toNat = as.reverse := by rw [← hlr]; exact List.take_left' rfl
  have hdrop : (as.reverse ++ rest).drop k.toNat = rest := by rw [← hlr]; exact List.drop_left' rfl
  have hz : zcall (101, n, t, b, k, e) (as.reverse ++ rest) (zS w H) = some (as, rest) := by
    unfold zcall
    dsimp only
    rw [htake, hdrop, List.reverse_reverse, if_pos ⟨hlen, hsum, harg, hrec, hrf⟩]
  rw [hz]
  dsimp only
  rw [ex_more2 h1 (by omega : n1 ≤ n1 + n2)]
  exact ex_more2 h2 (by omega)
def zclI (w : zWt) (d t : Nat) (as : List zV) (H : zHt) (K : Int → zHt → Prop) : Prop := zcl w d t as H (fun r H' => ∃ x, r = zI x ∧ K x H')
def zclL (w : zWt) (d t : Nat) (as : List zV) (H : zHt) (K : Int → zHt → Prop) : Prop := zcl w d t as H (fun r H' => ∃ x, r = zL x ∧ K x H')
def zclR (w : zWt) (d t : Nat) (as : List zV) (H : zHt) (K : Int → zHt → Prop) : Prop := zcl w d t as H (fun r H' => ∃ x, r = zR x ∧ K x H')
def zclV (w : zWt) (d t : Nat) (as : List zV) (H : zHt) (K : zHt → Prop) : Prop := zcl w d t as H (fun r H' => r = zJ ∧ K H')
theorem g_callI {t : Nat} {as rest : List zV} (hp : zprog.getD y [] = l) (hf : l.getD pc none = some (101, n, t, b, k, e)) (hq : pc + n = q) (hd : 0 < d) (hst : as.reverse ++ rest = st) (hlen : as.length = k.toNat) (hsum : (rest.map zcat).sum ≤ 8) (harg : (zargs as).length ≤ zml t) (hrec : zrecv (zS w H) b t as = true) (hrf : as.all zrefok = true)
    {K : Int → zHt → Prop} (hK : zclI w (d - 1) t as H K) (hk : ∀ x H', K x H' → zgo w d y q ls (zI x :: rest) H' Q) : zgo w d y pc ls st H Q :=
  g_call hp hf hq hd hst hlen hsum harg hrec hrf (g_mono hK (fun r H' hr => by obtain ⟨x, rfl, h⟩ := hr; exact hk x H' h))
theorem g_callL {t : Nat} {as rest : List zV} (hp : zprog.getD y [] = l) (hf : l.getD pc none = some (101, n, t, b, k, e)) (hq : pc + n = q) (hd : 0 < d) (hst : as.reverse ++ rest = st) (hlen : as.length = k.toNat) (hsum : (rest.map zcat).sum ≤ 8) (harg : (zargs as).length ≤ zml t) (hrec : zrecv (zS w H) b t as = true) (hrf : as.all zrefok = true)
    {K : Int → zHt → Prop} (hK : zclL w (d - 1) t as H K) (hk : ∀ x H', K x H' → zgo w d y q ls (zL x :: rest) H' Q) : zgo w d y pc ls st H Q :=
  g_call hp hf hq hd hst hlen hsum harg hrec hrf (g_mono hK (fun r H' hr => by obtain ⟨x, rfl, h⟩ := hr; exact hk x H' h))
theorem g_callR {t : Nat} {as rest : List zV} (hp : zprog.getD y [] = l) (hf : l.getD pc none = some (101, n, t, b, k, e)) (hq : pc + n = q) (hd : 0 < d) (hst : as.reverse ++ rest = st) (hlen : as.length = k.toNat) (hsum : (rest.map zcat).sum ≤ 8) (harg : (zargs as).length ≤ zml t) (hrec : zrecv (zS w H) b t as = true) (hrf : as.all zrefok = true)
    {K : Int → zHt → Prop} (hK : zclR w (d - 1) t as H K) (hk : ∀ x H', K x H' → zgo w d y q ls (zR x :: rest) H' Q) : zgo w d y pc ls st H Q :=
  g_call hp hf hq hd hst hlen hsum harg hrec hrf (g_mono hK (fun r H' hr => by obtain ⟨x, rfl, h⟩ := hr; exact hk x H' h))
theorem g_callV {t : Nat} {as rest : List zV} (hp : zprog.getD y [] = l) (hf : l.getD pc none = some (101, n, t, b, k, e)) (hq : pc + n = q) (hd : 0 < d) (hst : as.reverse ++ rest = st) (hlen : as.length = k.toNat) (hsum : (rest.map zcat).sum ≤ 8) (harg : (zargs as).length ≤ zml t) (hrec : zrecv (zS w H) b t as = true) (hrf : as.all zrefok = true)
    {K : zHt → Prop} (hK : zclV w (d - 1) t as H K) (hk : ∀ H', K H' → zgo w d y q ls rest H' Q) : zgo w d y pc ls st H Q :=
  g_call hp hf hq hd hst hlen hsum harg hrec hrf (g_mono hK (fun r H' hr => by obtain ⟨rfl, h⟩ := hr; exact hk H' h))
end ZR
-- Walks and Desks, by any number
def zisW (a : Int) : Prop := (a = 46 ∨ a = 69 ∨ a = 71 ∨ a = 73 ∨ a = 75 ∨ a = 77 ∨ a = 79)
def zisD (a : Int) : Prop := (a = 40 ∨ a = 42 ∨ a = 53 ∨ a = 55 ∨ a = 57 ∨ a = 59 ∨ a = 61 ∨ a = 63 ∨ a = 65 ∨ a = 67)
theorem zW_sh {w : zWt} {H : zHt} {a : Int} (h : zisW a) : zsh (zS w H) a = some (4, 5) := by
  rcases h with rfl | rfl | rfl | rfl | rfl | rfl | rfl <;> rfl
theorem zW_sh1 {w : zWt} {H : zHt} {a : Int} (h : zisW a) : zsh (zS w H) (a + 1) = some (100, 101) := by
  rcases h with rfl | rfl | rfl | rfl | rfl | rfl | rfl <;> rfl
theorem zD_sh {w : zWt} {H : zHt} {a : Int} (h : zisD a) : zsh (zS w H) a = some (0, 5) := by
  rcases h with rfl | rfl | rfl | rfl | rfl | rfl | rfl | rfl | rfl | rfl <;> rfl
theorem zD_sh1 {w : zWt} {H : zHt} {a : Int} (h : zisD a) : zsh (zS w H) (a + 1) = some (100, 6) := by
  rcases h with rfl | rfl | rfl | rfl | rfl | rfl | rfl | rfl | rfl | rfl <;> rfl
theorem zW_ge {a : Int} (h : zisW a) : 32 ≤ a := by rcases h with rfl | rfl | rfl | rfl | rfl | rfl | rfl <;> decide
theorem zD_ge {a : Int} (h : zisD a) : 32 ≤ a := by rcases h with rfl | rfl | rfl | rfl | rfl | rfl | rfl | rfl | rfl | rfl <;> decide
theorem zW_f0 {w : zWt} {H : zHt} {a : Int} (h : zisW a) : zM w H a 0 = a + 1 := by rcases h with rfl | rfl | rfl | rfl | rfl | rfl | rfl <;> rfl
theorem zD_f0 {w : zWt} {H : zHt} {a : Int} (h : zisD a) : zM w H a 0 = a + 1 := by rcases h with rfl | rfl | rfl | rfl | rfl | rfl | rfl | rfl | rfl | rfl <;> rfl
theorem zW_fx {a : Int} (h : zisW a) (k : Int) (hk : ¬ k = 0) : zfx a k = none := by
  have e : ∀ a : Int, zSH[(a - 32).toNat]? = some (4, 5) → zfx a k = none := fun a q => by unfold zfx; rw [q]; exact if_neg hk
  rcases h with rfl | rfl | rfl | rfl | rfl | rfl | rfl <;> exact e _ rfl
theorem zD_fx {a : Int} (h : zisD a) (k : Int) (hk : ¬ k = 0) : zfx a k = none := by
  have e : ∀ a : Int, zSH[(a - 32).toNat]? = some (0, 5) → zfx a k = none := fun a q => by unfold zfx; rw [q]; exact if_neg hk
  rcases h with rfl | rfl | rfl | rfl | rfl | rfl | rfl | rfl | rfl | rfl <;> exact e _ rfl
theorem zW_fx1 {a : Int} (h : zisW a) (k : Int) : zfx (a + 1) k = none := by
  rcases h with rfl | rfl | rfl | rfl | rfl | rfl | rfl <;> rfl
theorem zD_fx1 {a : Int} (h : zisD a) (k : Int) : zfx (a + 1) k = none := by
  rcases h with rfl | rfl | rfl | rfl | rfl | rfl | rfl | rfl | rfl | rfl <;> rfl
theorem zM_no {w : zWt} {H : zHt} {a k : Int} (h : 32 ≤ a) (hx : zfx a k = none) : zM w H a k = H a k := by
  unfold zM
  rw [if_neg (by omega), hx]
theorem zW_walk {j : Int} (h : 0 ≤ j ∧ j < 6) : zisW (69 + 2 * j) := by unfold zisW; omega
