/-! the class's factors: one prime taken out; sums over what was found -/
def zadd (H : zHt) (p e : Int) : zHt := zup (zup (zup H 37 (H 36 3) p) 38 (H 36 3) e) 36 3 (w32 (H 36 3 + 1))
def zfc (H H' : zHt) : Prop := ∀ a j : Int, a ≠ 37 → a ≠ 38 → ¬ (a = 36 ∧ j = 3) → H' a j = H a j
theorem zfc_rfl {H : zHt} : zfc H H := fun _ _ _ _ _ => rfl
theorem zfc_add {H0 H : zHt} {p e : Int} (h : zfc H0 H) : zfc H0 (zadd H p e) := fun a j h1 h2 h3 => by
  unfold zadd
  rw [zq_ne h3, zq_ne (fun q => h2 q.1), zq_ne (fun q => h1 q.1)]; exact h a j h1 h2 h3
theorem zfc_0 {H0 H : zHt} {x : Int} (h : zfc H0 H) : zfc H0 (zup H 36 3 x) := fun a j h1 h2 h3 => by
  rw [zq_ne h3]; exact h a j h1 h2 h3
theorem zLst_add {H : zHt} {l : List (Nat × Nat)} {p e : Nat} (h : zLst H 36 3 37 38 l) (hl : l.length ≤ 8) : zLst (zadd H p e) 36 3 37 38 (l ++ [(p, e)]) := by
  have hc := h.1
  unfold zadd
  rw [hc, show w32 ((l.length : Int) + 1) = (l.length : Int) + 1 from w32_id (by omega)]
  refine ⟨by rw [zq_eq, List.length_append]; simp, fun i q hq => ?_⟩
  have hA : ∀ (x : Int) (i : Int), zup (zup (zup H 37 l.length p) 38 l.length e) 36 3 x 37 i = if i = (l.length : Int) then (p : Int) else H 37 i := fun x i => by
    unfold zup; simp
  have hB : ∀ (x : Int) (i : Int), zup (zup (zup H 37 l.length p) 38 l.length e) 36 3 x 38 i = if i = (l.length : Int) then (e : Int) else H 38 i := fun x i => by
    unfold zup; simp
  rw [hA, hB]
  rcases Nat.lt_or_ge i l.length with z | z
  · rw [List.getElem?_append_left z] at hq
    rw [if_neg (by omega), if_neg (by omega)]
    exact h.2 i q hq
  · rw [List.getElem?_append_right z] at hq
    have hi : i - l.length = 0 := by
      rcases Nat.eq_zero_or_pos (i - l.length) with y | y
      · exact y
      · rw [List.getElem?_eq_none (by simp; omega)] at hq; cases hq
    rw [hi] at hq
    cases hq
    have : i = l.length := by omega
    subst this
    exact ⟨if_pos rfl, if_pos rfl⟩
section M26
variable {w : zWt} {d : Nat} {H : zHt}
theorem c47 {p e : Int} {K : zHt → Prop} (h : 0 ≤ H 36 3 ∧ H 36 3 < 9) : zclV w d 47 [zR 36, zI p, zI e] H K = K (zadd H p e) :=
  zclV_eq fun K hK => x47_0 ⟨fun q => by omega, fun _ => ⟨h, hK⟩⟩
theorem c46l {left p : Nat} (hl : left ≤ 999999999) (hp : 2 ≤ p) (hpb : p ≤ 999999999) (hlen : p ∣ left → 0 ≤ H 36 3 ∧ H 36 3 < 9) : ∀ (cur cnt : Nat), left = p ^ cnt * cur → 1 ≤ cur → zgo w (d + 1) 46 8 [zR 36, zJ, zI p, zI cur, zI cnt, zI cnt] [] H (zQI fun x H' => ∃ left' e : Nat, x = left' ∧ 1 ≤ left' ∧ left = p ^ e * left' ∧ ¬ p ∣ left' ∧ H' = if e = 0 then H else zadd H p e) := by
  intro cur
  induction cur using Nat.strongRecOn with
  | ind cur ih =>
    intro cnt hne h1
    have hcnt : cnt < 30 := by
      rcases Nat.lt_or_ge cnt 30 with z | z
      · exact z
      · have a1 : 2 ^ 30 ≤ 2 ^ cnt := Nat.pow_le_pow_right (by decide) z
        have a2 : 2 ^ cnt ≤ p ^ cnt := Nat.pow_le_pow_left hp cnt
        have a3 := zle_mul hne h1
        have a4 : (2 : Nat) ^ 30 = 1073741824 := by decide
        omega
    refine x46_8 ⟨fun q => by omega, fun _ => ⟨fun q => by omega, fun _ => ⟨by omega, fun q => ?_, fun q => ?_⟩⟩⟩
    · rw [ztmod] at q
      have hnd : ¬ p ∣ cur := fun z => q (by rw [Nat.mod_eq_zero_of_dvd z]; rfl)
      refine ⟨fun q2 => ⟨cur, cnt, rfl, h1, hne, hnd, by rw [if_pos (by omega)]⟩, fun q2 => ?_⟩
      have hd : p ∣ left := by rw [hne]; exact zdvd_pow (by omega) _
      rw [c47 (hlen hd)]
      exact ⟨cur, cnt, rfl, h1, hne, hnd, by rw [if_neg (by omega)]⟩
    · rw [ztmod] at q
      obtain ⟨m, rfl⟩ := Nat.dvd_of_mod_eq_zero (show cur % p = 0 by omega)
      have hm : 1 ≤ m := by
        rcases Nat.eq_zero_or_pos m with z | z
        · subst z; omega
        · exact z
      have hle : p * m ≤ left := by rw [hne]; exact Nat.le_mul_of_pos_left _ (Nat.pow_pos (by omega))
      have hmm : 2 * m ≤ p * m := Nat.mul_le_mul_right m hp
      rw [ztdiv, Nat.mul_div_cancel_left m (by omega), show w32 ((m : Nat) : Int) = ((m : Nat) : Int) from w32_id (by omega), show w32 ((cnt : Int) + 1) = ((cnt + 1 : Nat) : Int) from w32_id (by omega)]
      exact ih m (by omega) (cnt + 1) (by rw [hne, Nat.pow_succ, Nat.mul_assoc]) hm
theorem c46 {left p : Nat} (h1 : 1 ≤ left) (hl : left ≤ 999999999) (hp : 2 ≤ p) (hpb : p ≤ 999999999) (hlen : p ∣ left → 0 ≤ H 36 3 ∧ H 36 3 < 9) : ∃ left' e : Nat, 1 ≤ left' ∧ left = p ^ e * left' ∧ ¬ p ∣ left' ∧ ∀ K : Int → zHt → Prop, zclI w (d + 1) 46 [zR 36, zI left, zI p] H K = K left' (if e = 0 then H else zadd H p e) := by
  obtain ⟨x, H', ⟨left', e, rfl, a1, a2, a3, rfl⟩, hK⟩ := zclI_ex (x46_0 (c46l (w := w) (d := d) hl hp hpb hlen left 0 (by rw [Nat.pow_zero, Nat.one_mul]) h1))
  exact ⟨left', e, a1, a2, a3, hK⟩
-- sums over the list
theorem c59 {l : List (Nat × Nat)} {i : Nat} {q : Nat × Nat} {K : Int → zHt → Prop} (hL : zLst H 36 3 37 38 l) (hq : l[i]? = some q) (h9 : l.length ≤ 9) (he : q.2 ≤ 2000000000) : zclL w d 59 [zR 36, zI i] H K = K (zofp q.1 q.2) H := by
  have hi := zget_lt hq
  obtain ⟨hA, hB⟩ := hL.2 i q hq
  have L : ∀ (k j : Nat) (K : Int → zHt → Prop), j + k = q.2 → K (zofp q.1 q.2) H → zgo w d 59 5 [zR 36, zI i, zL (zofp q.1 j), zJ, zI j] [] H (zQL K) := by
    intro k
    induction k with
    | zero =>
      intro j K hj h
      have : j = q.2 := by omega
      subst this
      exact x59_5 ⟨by omega, fun _ => h, fun z => by omega⟩
    | succ k ih =>
      intro j K hj h
      refine x59_5 ⟨by omega, fun z => by omega, fun _ => ?_⟩
      rw [hA, show w32 ((j : Int) + 1) = ((j + 1 : Nat) : Int) from w32_id (by omega)]
      exact ih (j + 1) K (by omega) h
  exact zclL_eq fun K h => x59_0 (L q.2 0 K (by omega) h)
theorem zget_at {pre suf : List (Nat × Nat)} {q : Nat × Nat} : (pre ++ q :: suf)[pre.length]? = some q := by
  rw [List.getElem?_append_right (Nat.le_refl _), Nat.sub_self]; rfl
theorem c58 {n : Nat} {l : List (Nat × Nat)} {K : Int → zHt → Prop} (hn : n ≤ 999999999) (hG : zGood n l) (hL : zLst H 36 3 37 38 l) : zclL w (d + 1) 58 [zR 36] H K = K (zall l) H := by
  have h9 := zGood_nine hG (by omega)
  have L : ∀ (suf pre : List (Nat × Nat)) (s : Int) (K : Int → zHt → Prop), l = pre ++ suf → K (suf.foldl (fun s q => w64 (s * zofp q.1 q.2)) s) H → zgo w (d + 1) 58 4 [zR 36, zL s, zJ, zI pre.length] [] H (zQL K) := by
    intro suf
    induction suf with
    | nil =>
      intro pre s K hl h
      have hc := hL.1
      rw [hl, List.append_nil] at hc
      exact x58_4 ⟨fun _ => h, fun q => by omega⟩
    | cons q suf ih =>
      intro pre s K hl h
      have hc := hL.1
      have hlen : l.length = pre.length + (suf.length + 1) := by rw [hl, List.length_append]; rfl
      have hb := zGood_bd hG (q := q) (by rw [hl]; simp)
      refine x58_4 ⟨fun z => by omega, fun _ => ?_⟩
      rw [c59 hL (by rw [hl]; exact zget_at) h9 (by omega), show w32 ((pre.length : Int) + 1) = ((pre ++ [q]).length : Int) by rw [w32_id (by omega), List.length_append]; simp]
      exact ih (pre ++ [q]) _ K (by rw [hl, zapp_one]) h
  exact zclL_eq fun K h => x58_0 (L l [] 1 K rfl h)
theorem c71l {n : Nat} {l : List (Nat × Nat)} (hn : n ≤ 999999999) (hG : zGood n l) (hL : zLst H 36 3 37 38 l) : ∀ (suf pre : List (Nat × Nat)) (s : Int) (K : Int → zHt → Prop), l = pre ++ suf → K (suf.foldl (fun s q => w32 (s * w32 ((q.2 : Int) + 1))) s) H → zgo w (d + 1) 71 9 [zR 36, zJ, zI s, zI pre.length] [] H (zQI K) := by
  intro suf
  have h9 := zGood_nine hG (by omega)
  induction suf with
  | nil =>
    intro pre s K hl h
    have hc := hL.1
    rw [hl, List.append_nil] at hc
    exact x71_9 ⟨fun _ => h, fun q => by omega⟩
  | cons q suf ih =>
    intro pre s K hl h
    have hc := hL.1
    have hlen : l.length = pre.length + (suf.length + 1) := by rw [hl, List.length_append]; rfl
    have hq := zLst_at (hl ▸ hL)
    refine x71_9 ⟨fun z => by omega, fun _ => ⟨by omega, ?_⟩⟩
    rw [hq.2, show w32 ((pre.length : Int) + 1) = ((pre ++ [q]).length : Int) by rw [w32_id (by omega), List.length_append]; simp]
    exact ih (pre ++ [q]) _ K (by rw [hl, zapp_one]) h
theorem c54 {n : Nat} {l : List (Nat × Nat)} {K : Int → zHt → Prop} (hn : n ≤ 999999999) (hG : zGood n l) (hL : zLst H 36 3 37 38 l) : zclL w (d + 1) 54 [zR 36] H K = K (l.foldl (fun s q => w64 (s * w64 (zpw q.1 q.2 + 1))) 1) H := by
  have h9 := zGood_nine hG (by omega)
  have L : ∀ (suf pre : List (Nat × Nat)) (s : Int) (K : Int → zHt → Prop), l = pre ++ suf → K (suf.foldl (fun s q => w64 (s * w64 (zpw q.1 q.2 + 1))) s) H → zgo w (d + 1) 54 4 [zR 36, zL s, zJ, zI pre.length] [] H (zQL K) := by
    intro suf
    induction suf with
    | nil =>
      intro pre s K hl h
      have hc := hL.1
      rw [hl, List.append_nil] at hc
      exact x54_4 ⟨fun _ => h, fun q => by omega⟩
    | cons q suf ih =>
      intro pre s K hl h
      have hc := hL.1
      have hlen : l.length = pre.length + (suf.length + 1) := by rw [hl, List.length_append]; rfl
      have hq := zLst_at (hl ▸ hL)
      have hb := zGood_bd hG (q := q) (by rw [hl]; simp)
      refine x54_4 ⟨fun z => by omega, fun _ => ⟨by omega, ?_⟩⟩
      rw [hq.1, hq.2, c55w (by omega), show w32 ((pre.length : Int) + 1) = ((pre ++ [q]).length : Int) by rw [w32_id (by omega), List.length_append]; simp]
      exact ih (pre ++ [q]) _ K (by rw [hl, zapp_one]) h
  exact zclL_eq fun K h => x54_0 (L l [] 1 K rfl h)
theorem c56 {n : Nat} {l : List (Nat × Nat)} {K : Int → zHt → Prop} (hn : n ≤ 999999999) (hG : zGood n l) (hL : zLst H 36 3 37 38 l) : zclL w d 56 [zR 36] H K = K (l.foldl (fun s q => w64 (s * ((q.1 : Int) + 1))) 1) H := by
  have h9 := zGood_nine hG (by omega)
  have L : ∀ (suf pre : List (Nat × Nat)) (s : Int) (K : Int → zHt → Prop), l = pre ++ suf → K (suf.foldl (fun s q => w64 (s * ((q.1 : Int) + 1))) s) H → zgo w d 56 4 [zR 36, zL s, zJ, zI pre.length] [] H (zQL K) := by
    intro suf
    induction suf with
    | nil =>
      intro pre s K hl h
      have hc := hL.1
      rw [hl, List.append_nil] at hc
      exact x56_4 ⟨fun _ => h, fun q => by omega⟩
    | cons q suf ih =>
      intro pre s K hl h
      have hc := hL.1
      have hlen : l.length = pre.length + (suf.length + 1) := by rw [hl, List.length_append]; rfl
      have hq := zLst_at (hl ▸ hL)
      have hb := zGood_bd hG (q := q) (by rw [hl]; simp)
      refine x56_4 ⟨fun z => by omega, fun _ => ⟨by omega, ?_⟩⟩
      rw [hq.1, show w32 ((q.1 : Int) + 1) = (q.1 : Int) + 1 from w32_id (by omega), show w32 ((pre.length : Int) + 1) = ((pre ++ [q]).length : Int) by rw [w32_id (by omega), List.length_append]; simp]
      exact ih (pre ++ [q]) _ K (by rw [hl, zapp_one]) h
  exact zclL_eq fun K h => x56_0 (L l [] 1 K rfl h)
theorem c57 {n : Nat} {l : List (Nat × Nat)} {K : Int → zHt → Prop} (hn : n ≤ 999999999) (hG : zGood n l) (hL : zLst H 36 3 37 38 l) : zclI w d 57 [zR 36] H K = K (if ∀ q ∈ l, q.2 ≤ 1 then 1 else 0) H := by
  have h9 := zGood_nine hG (by omega)
  have L : ∀ (suf pre : List (Nat × Nat)) (K : Int → zHt → Prop), l = pre ++ suf → K (if ∀ q ∈ suf, q.2 ≤ 1 then 1 else 0) H → zgo w d 57 2 [zR 36, zI pre.length] [] H (zQI K) := by
    intro suf
    induction suf with
    | nil =>
      intro pre K hl h
      have hc := hL.1
      rw [hl, List.append_nil] at hc
      exact x57_2 ⟨fun _ => by simpa using h, fun q => by omega⟩
    | cons q suf ih =>
      intro pre K hl h
      have hc := hL.1
      have hlen : l.length = pre.length + (suf.length + 1) := by rw [hl, List.length_append]; rfl
      have hq := zLst_at (hl ▸ hL)
      refine x57_2 ⟨fun z => by omega, fun _ => ⟨by omega, fun z => ?_, fun z => ?_⟩⟩
      · rw [show w32 ((pre.length : Int) + 1) = ((pre ++ [q]).length : Int) by rw [w32_id (by omega), List.length_append]; simp]
        refine ih (pre ++ [q]) K (by rw [hl, zapp_one]) ?_
        have hq1 : q.2 ≤ 1 := by omega
        by_cases z2 : ∀ r ∈ suf, r.2 ≤ 1
        · rw [if_pos z2]
          rwa [if_pos (fun r hr => by
            rcases List.mem_cons.mp hr with y | y
            · rw [y]; exact hq1
            · exact z2 r y)] at h
        · rw [if_neg z2]
          rwa [if_neg (fun y => z2 (fun r hr => y r (List.mem_cons_of_mem _ hr)))] at h
      · have hq1 : ¬ q.2 ≤ 1 := by omega
        rwa [if_neg (fun y => hq1 (y q List.mem_cons_self))] at h
  exact zclI_eq fun K h => x57_0 (L l [] K rfl h)
end M26
