/-! the model's factors -/
theorem zclV_ex {w : zWt} {d t : Nat} {as : List zV} {H : zHt} {P : zHt → Prop} (h : zclV w d t as H P) : ∃ H', P H' ∧ ∀ K : zHt → Prop, zclV w d t as H K = K H' := by
  obtain ⟨n, r, H', hex, hm, hr, hP⟩ := h
  exact ⟨H', hP, fun K => zclV_eq (fun K hK => ⟨n, r, H', hex, hm, hr, hK⟩)⟩
theorem zclI_ex {w : zWt} {d t : Nat} {as : List zV} {H : zHt} {P : Int → zHt → Prop} (h : zclI w d t as H P) : ∃ x H', P x H' ∧ ∀ K : Int → zHt → Prop, zclI w d t as H K = K x H' := by
  obtain ⟨n, r, H', hex, hm, x, hr, hP⟩ := h
  exact ⟨x, H', hP, fun K => zclI_eq (fun K hK => ⟨n, r, H', hex, hm, x, hr, hK⟩)⟩
theorem zclL_ex {w : zWt} {d t : Nat} {as : List zV} {H : zHt} {P : Int → zHt → Prop} (h : zclL w d t as H P) : ∃ x H', P x H' ∧ ∀ K : Int → zHt → Prop, zclL w d t as H K = K x H' := by
  obtain ⟨n, r, H', hex, hm, x, hr, hP⟩ := h
  exact ⟨x, H', hP, fun K => zclL_eq (fun K hK => ⟨n, r, H', hex, hm, x, hr, hK⟩)⟩
-- no more than nine primes
theorem znot_prime {q c : Nat} (hq : zprime q) (h1 : 1 < c) (h2 : c < q) (h : c ∣ q) : False := by
  rcases hq.2 c h with z | z <;> omega
theorem znext {b b' q : Nat} (hq : zprime q) (h : b < q) (hs : ∀ k, b < k → k < b' → ∃ c, 1 < c ∧ c < k ∧ c ∣ k) : b' ≤ q := by
  rcases Nat.lt_or_ge q b' with z | z
  · obtain ⟨c, h1, h2, h3⟩ := hs q h z
    exact (znot_prime hq h1 h2 h3).elim
  · exact z
def zlow : List Nat → Prop
  | b :: b' :: m => (∀ q, zprime q → b < q → b' ≤ q) ∧ zlow (b' :: m)
  | _ => True
theorem zlow_10 : zlow [2, 3, 5, 7, 11, 13, 17, 19, 23, 29] := by
  refine ⟨fun q hq h => h, fun q hq h => znext hq h ?_, fun q hq h => znext hq h ?_, fun q hq h => znext hq h ?_, fun q hq h => znext hq h ?_, fun q hq h => znext hq h ?_, fun q hq h => znext hq h ?_, fun q hq h => znext hq h ?_, fun q hq h => znext hq h ?_, trivial⟩
  · intro k h1 h2; exact ⟨2, by omega, by omega, by omega⟩
  · intro k h1 h2; exact ⟨2, by omega, by omega, by omega⟩
  · intro k h1 h2
    rcases (by omega : k = 8 ∨ k = 9 ∨ k = 10) with rfl | rfl | rfl
    · exact ⟨2, by omega, by omega, by omega⟩
    · exact ⟨3, by omega, by omega, by omega⟩
    · exact ⟨2, by omega, by omega, by omega⟩
  · intro k h1 h2; exact ⟨2, by omega, by omega, by omega⟩
  · intro k h1 h2
    rcases (by omega : k = 14 ∨ k = 15 ∨ k = 16) with rfl | rfl | rfl
    · exact ⟨2, by omega, by omega, by omega⟩
    · exact ⟨3, by omega, by omega, by omega⟩
    · exact ⟨2, by omega, by omega, by omega⟩
  · intro k h1 h2; exact ⟨2, by omega, by omega, by omega⟩
  · intro k h1 h2
    rcases (by omega : k = 20 ∨ k = 21 ∨ k = 22) with rfl | rfl | rfl
    · exact ⟨2, by omega, by omega, by omega⟩
    · exact ⟨3, by omega, by omega, by omega⟩
    · exact ⟨2, by omega, by omega, by omega⟩
  · intro k h1 h2
    rcases (by omega : k = 24 ∨ k = 25 ∨ k = 26 ∨ k = 27 ∨ k = 28) with rfl | rfl | rfl | rfl | rfl
    · exact ⟨2, by omega, by omega, by omega⟩
    · exact ⟨5, by omega, by omega, by omega⟩
    · exact ⟨2, by omega, by omega, by omega⟩
    · exact ⟨3, by omega, by omega, by omega⟩
    · exact ⟨2, by omega, by omega, by omega⟩
def zmul (m : List Nat) : Nat := m.foldr (fun b s => b * s) 1
theorem zlow_prod : ∀ (m : List Nat) (l : List (Nat × Nat)), zlow m → (l.map Prod.fst).Pairwise (· < ·) → (∀ q ∈ l, zprime q.1 ∧ 1 ≤ q.2) → (∀ b, m.head? = some b → ∀ q ∈ l, b ≤ q.1) → m.length ≤ l.length → zmul m ≤ zprod l
  | [], l, _, _, h2, _, _ => zprod_pos h2
  | b :: m, [], _, _, _, _, h4 => by simp at h4
  | b :: m, (p, e) :: l, hm, h1, h2, h3, h4 => by
    rw [List.map_cons, List.pairwise_cons] at h1
    have hp := h2 _ List.mem_cons_self
    have hb := h3 b rfl _ List.mem_cons_self
    have hb : b ≤ p := hb
    have ih := zlow_prod m l (by cases m with | nil => trivial | cons b' m => exact hm.2) h1.2 (fun q hq => h2 q (List.mem_cons_of_mem _ hq)) (fun b' hb' q hq => by
      cases m with
      | nil => cases hb'
      | cons b2 m =>
        cases hb'
        exact hm.1 q.1 (h2 q (List.mem_cons_of_mem _ hq)).1 (Nat.lt_of_le_of_lt hb (h1.1 q.1 (List.mem_map_of_mem hq)))) (by simp at h4; exact h4)
    have hpe : p ≤ p ^ e := by
      obtain ⟨k, rfl⟩ : ∃ k, e = k + 1 := ⟨e - 1, by have := hp.2; simp at this; omega⟩
      rw [Nat.pow_succ]
      exact Nat.le_mul_of_pos_left p (Nat.pow_pos (by have := hp.1.1; simp at this; omega))
    exact Nat.mul_le_mul (Nat.le_trans hb hpe) ih
theorem zGood_nine {n : Nat} {l : List (Nat × Nat)} (h : zGood n l) (hn : n < 6469693230) : l.length ≤ 9 := by
  rcases Nat.lt_or_ge 9 l.length with z | z
  · have := zlow_prod [2, 3, 5, 7, 11, 13, 17, 19, 23, 29] l zlow_10 h.1 h.2.1 (fun b hb q hq => by cases hb; exact (h.2.1 q hq).1.1) z
    rw [h.2.2] at this
    have e : zmul [2, 3, 5, 7, 11, 13, 17, 19, 23, 29] = 6469693230 := by decide
    omega
  · exact z
theorem zprod_app (l : List (Nat × Nat)) (p e : Nat) : zprod (l ++ [(p, e)]) = zprod l * p ^ e := by
  induction l with
  | nil => simp [zprod]
  | cons q l ih =>
    show q.1 ^ q.2 * zprod (l ++ [(p, e)]) = q.1 ^ q.2 * zprod l * p ^ e
    rw [ih, Nat.mul_assoc]
/-- the primes found so far, all below p -/
def zPart (l : List (Nat × Nat)) (p : Nat) : Prop := (l.map Prod.fst).Pairwise (· < ·) ∧ (∀ q ∈ l, zprime q.1 ∧ 1 ≤ q.2) ∧ ∀ q ∈ l, q.1 < p
theorem zPart_app {l : List (Nat × Nat)} {p e p' : Nat} (h : zPart l p) (hp : zprime p) (he : 1 ≤ e) (hpp : p < p') : zPart (l ++ [(p, e)]) p' := by
  obtain ⟨h1, h2, h3⟩ := h
  refine ⟨?_, ?_, ?_⟩
  · rw [List.map_append, List.pairwise_append]
    refine ⟨h1, by simp, ?_⟩
    intro a ha b hb
    simp only [List.map_cons, List.map_nil, List.mem_cons, List.not_mem_nil, or_false] at hb
    subst hb
    obtain ⟨q, hq, rfl⟩ := List.mem_map.mp ha
    exact h3 q hq
  · intro q hq
    rcases List.mem_append.mp hq with z | z
    · exact h2 q z
    · simp only [List.mem_cons, List.not_mem_nil, or_false] at z
      subst z; exact ⟨hp, he⟩
  · intro q hq
    rcases List.mem_append.mp hq with z | z
    · have := h3 q z; omega
    · simp only [List.mem_cons, List.not_mem_nil, or_false] at z
      subst z; exact hpp
theorem zPart_len {l : List (Nat × Nat)} {p e m n : Nat} (h : zPart l p) (hp : zprime p) (he : 1 ≤ e) (hm : 1 ≤ m) (hn : n = zprod l * p ^ e * m) (hb : n < 6469693230) : l.length ≤ 8 := by
  have h1 := zPart_app (p' := p + 1) h hp he (by omega)
  have h2 : zGood (zprod (l ++ [(p, e)])) (l ++ [(p, e)]) := ⟨h1.1, h1.2.1, rfl⟩
  have h3 := zGood_nine h2 (by
    rw [zprod_app]
    have := Nat.le_mul_of_pos_right (zprod l * p ^ e) hm
    omega)
  rw [List.length_append] at h3
  simp at h3
  exact h3
/-- the list of a number, in two arrays and a count -/
def zLst (H : zHt) (c k : Int) (A B : Int) (l : List (Nat × Nat)) : Prop := H c k = l.length ∧ ∀ (i : Nat) (q : Nat × Nat), l[i]? = some q → H A i = q.1 ∧ H B i = q.2
def zfm (H H' : zHt) : Prop := ∀ a j : Int, a ≠ 85 → a ≠ 86 → ¬ (a = 81 ∧ j = 8) → H' a j = H a j
def zFM (H : zHt) (n : Nat) (H' : zHt) : Prop := zfm H H' ∧ zGood n (zfac n) ∧ zLst H' 81 8 85 86 (zfac n)
