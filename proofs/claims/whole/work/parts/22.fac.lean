/-! primes and what a number is made of -/
def zprime (p : Nat) : Prop := 2 ≤ p ∧ ∀ d, d ∣ p → d = 1 ∨ d = p
def zprod (l : List (Nat × Nat)) : Nat := l.foldr (fun q s => q.1 ^ q.2 * s) 1
def zGood (n : Nat) (l : List (Nat × Nat)) : Prop := (l.map Prod.fst).Pairwise (· < ·) ∧ (∀ q ∈ l, zprime q.1 ∧ 1 ≤ q.2) ∧ zprod l = n
theorem zprime_cop {p a : Nat} (hp : zprime p) (h : ¬ p ∣ a) : Nat.Coprime p a := by
  rcases hp.2 _ (Nat.gcd_dvd_left p a) with q | q
  · exact q
  · exact absurd (q ▸ Nat.gcd_dvd_right p a) h
theorem zprime_mul {p a b : Nat} (hp : zprime p) (h : p ∣ a * b) : p ∣ a ∨ p ∣ b := by
  rcases Classical.em (p ∣ a) with q | q
  · exact Or.inl q
  · exact Or.inr ((zprime_cop hp q).dvd_of_dvd_mul_left h)
theorem zprime_pow {p a : Nat} (hp : zprime p) : ∀ e, p ∣ a ^ e → p ∣ a := by
  intro e
  induction e with
  | zero =>
    intro h
    rw [Nat.pow_zero] at h
    have := Nat.le_of_dvd (by decide) h
    have := hp.1
    omega
  | succ e ih =>
    intro h
    rw [Nat.pow_succ] at h
    rcases zprime_mul hp h with q | q
    · exact ih q
    · exact q
theorem zprime_eq {p q : Nat} (hp : zprime p) (hq : zprime q) (h : p ∣ q) : p = q := by
  rcases hq.2 p h with z | z
  · have := hp.1; omega
  · exact z
theorem zprod_cons (p e : Nat) (l : List (Nat × Nat)) : zprod ((p, e) :: l) = p ^ e * zprod l := rfl
theorem zprime_prod {p : Nat} (hp : zprime p) : ∀ {l : List (Nat × Nat)}, (∀ q ∈ l, zprime q.1 ∧ 1 ≤ q.2) → p ∣ zprod l → ∃ q ∈ l, p = q.1
  | [], _, h => by
    have := Nat.le_of_dvd (by decide) (show p ∣ 1 from h)
    have := hp.1
    omega
  | q :: l, hl, h => by
    rcases zprime_mul hp (show p ∣ q.1 ^ q.2 * zprod l from h) with z | z
    · exact ⟨q, List.mem_cons_self, zprime_eq hp (hl q List.mem_cons_self).1 (zprime_pow hp _ z)⟩
    · obtain ⟨r, hr, e⟩ := zprime_prod hp (fun r hr => hl r (List.mem_cons_of_mem _ hr)) z
      exact ⟨r, List.mem_cons_of_mem _ hr, e⟩
theorem zprod_pos : ∀ {l : List (Nat × Nat)}, (∀ q ∈ l, zprime q.1 ∧ 1 ≤ q.2) → 0 < zprod l
  | [], _ => Nat.one_pos
  | q :: l, hl => Nat.mul_pos (Nat.pow_pos (by have := (hl q List.mem_cons_self).1.1; omega)) (zprod_pos fun r hr => hl r (List.mem_cons_of_mem _ hr))
theorem zGood_tail {n p e : Nat} {l : List (Nat × Nat)} (h : zGood n ((p, e) :: l)) : zGood (zprod l) l ∧ zprime p ∧ 1 ≤ e ∧ (∀ q ∈ l, p < q.1) ∧ n = p ^ e * zprod l ∧ ¬ p ∣ zprod l := by
  obtain ⟨h1, h2, h3⟩ := h
  rw [List.map_cons, List.pairwise_cons] at h1
  have hp := h2 _ List.mem_cons_self
  have ht : ∀ q ∈ l, zprime q.1 ∧ 1 ≤ q.2 := fun q hq => h2 q (List.mem_cons_of_mem _ hq)
  have hlt : ∀ q ∈ l, p < q.1 := fun q hq => h1.1 q.1 (List.mem_map_of_mem hq)
  refine ⟨⟨h1.2, ht, rfl⟩, hp.1, hp.2, hlt, h3.symm, fun hd => ?_⟩
  obtain ⟨q, hq, e1⟩ := zprime_prod hp.1 ht hd
  have := hlt q hq
  omega
theorem zpow_cancel {p : Nat} (hp : 2 ≤ p) : ∀ {e f a b : Nat}, ¬ p ∣ a → ¬ p ∣ b → p ^ e * a = p ^ f * b → e = f ∧ a = b
  | 0, 0, a, b, _, _, h => ⟨rfl, by simpa using h⟩
  | 0, f + 1, a, b, ha, _, h => by
    exfalso
    apply ha
    rw [Nat.pow_zero, Nat.one_mul] at h
    rw [h, Nat.pow_succ, Nat.mul_comm (p ^ f) p, Nat.mul_assoc]
    exact Nat.dvd_mul_right _ _
  | e + 1, 0, a, b, _, hb, h => by
    exfalso
    apply hb
    rw [Nat.pow_zero, Nat.one_mul] at h
    rw [← h, Nat.pow_succ, Nat.mul_comm (p ^ e) p, Nat.mul_assoc]
    exact Nat.dvd_mul_right _ _
  | e + 1, f + 1, a, b, ha, hb, h => by
    rw [Nat.pow_succ, Nat.pow_succ, Nat.mul_comm (p ^ e) p, Nat.mul_comm (p ^ f) p, Nat.mul_assoc, Nat.mul_assoc] at h
    obtain ⟨h1, h2⟩ := zpow_cancel hp ha hb (Nat.eq_of_mul_eq_mul_left (by omega) h)
    exact ⟨by omega, h2⟩
theorem zGood_one {l : List (Nat × Nat)} {p e : Nat} (h : zGood 1 ((p, e) :: l)) : False := by
  obtain ⟨h1, hp, he, -, hn, -⟩ := zGood_tail h
  have h2 : p ∣ 1 := by
    rw [hn]
    obtain ⟨k, rfl⟩ : ∃ k, e = k + 1 := ⟨e - 1, by omega⟩
    rw [Nat.pow_succ, Nat.mul_comm (p ^ k) p, Nat.mul_assoc]
    exact Nat.dvd_mul_right _ _
  have := Nat.le_of_dvd (by decide) h2
  have := hp.1
  omega
theorem zdvd_pow {p e : Nat} (he : 1 ≤ e) (m : Nat) : p ∣ p ^ e * m := by
  obtain ⟨k, rfl⟩ : ∃ k, e = k + 1 := ⟨e - 1, by omega⟩
  rw [Nat.pow_succ, Nat.mul_comm (p ^ k) p, Nat.mul_assoc]
  exact Nat.dvd_mul_right _ _
/-- there is no more than one such list -/
theorem zGood_uniq : ∀ {l l' : List (Nat × Nat)} {n : Nat}, zGood n l → zGood n l' → l = l'
  | [], [], _, _, _ => rfl
  | [], (p, e) :: l', n, h, h' => by
    have : n = 1 := h.2.2.symm
    subst this
    exact (zGood_one h').elim
  | (p, e) :: l, [], n, h, h' => by
    have : n = 1 := h'.2.2.symm
    subst this
    exact (zGood_one h).elim
  | (p, e) :: l, (p', e') :: l', n, h, h' => by
    obtain ⟨t1, hp, he, hlt, hn, hnd⟩ := zGood_tail h
    obtain ⟨t1', hp', he', hlt', hn', hnd'⟩ := zGood_tail h'
    have hpp : p = p' := by
      have d1 : p ∣ zprod ((p', e') :: l') := by rw [h'.2.2, hn]; exact zdvd_pow he _
      have d2 : p' ∣ zprod ((p, e) :: l) := by rw [h.2.2, hn']; exact zdvd_pow he' _
      obtain ⟨q, hq, e1⟩ := zprime_prod hp h'.2.1 d1
      obtain ⟨r, hr, e2⟩ := zprime_prod hp' h.2.1 d2
      have a1 : p' ≤ p := by
        rcases List.mem_cons.mp hq with z | z
        · rw [e1, z]; exact Nat.le_refl _
        · have := hlt' q z; omega
      have a2 : p ≤ p' := by
        rcases List.mem_cons.mp hr with z | z
        · rw [e2, z]; exact Nat.le_refl _
        · have := hlt r z; omega
      omega
    subst hpp
    obtain ⟨e1, e2⟩ := zpow_cancel hp.1 hnd hnd' (hn.symm.trans hn')
    subst e1
    rw [e2] at t1
    rw [zGood_uniq t1 t1']
noncomputable def zfac (n : Nat) : List (Nat × Nat) := by
  classical
  exact if h : ∃ l, zGood n l then h.choose else []
theorem zfac_eq {n : Nat} {l : List (Nat × Nat)} (h : zGood n l) : zfac n = l := by
  unfold zfac
  have hx : ∃ l, zGood n l := ⟨l, h⟩
  rw [dif_pos hx]
  exact zGood_uniq hx.choose_spec h
/-- no number from 2 up to p divides n -/
def zfree (p n : Nat) : Prop := ∀ d, 2 ≤ d → d < p → ¬ d ∣ n
theorem zfree_prime {p n : Nat} (hp : 2 ≤ p) (h : zfree p n) (hd : p ∣ n) : zprime p := by
  refine ⟨hp, fun d hdp => ?_⟩
  have h0 : 0 < d := Nat.pos_of_dvd_of_pos hdp (by omega)
  have hle := Nat.le_of_dvd (by omega) hdp
  rcases Nat.lt_or_ge d 2 with q | q
  · left; omega
  · rcases Nat.lt_or_ge d p with z | z
    · exact absurd (Nat.dvd_trans hdp hd) (h d q z)
    · right; omega
theorem zfree_rest {p n : Nat} (hn : 2 ≤ n) (h : zfree p n) (hpp : n < p * p) : zprime n := by
  refine ⟨hn, fun d hd => ?_⟩
  obtain ⟨e, he⟩ := hd
  have hd0 : 0 < d := by
    rcases Nat.eq_zero_or_pos d with q | q
    · subst q; rw [Nat.zero_mul] at he; omega
    · exact q
  rcases Nat.lt_or_ge d 2 with q | q
  · left; omega
  · right
    have hdp : p ≤ d := by
      rcases Nat.lt_or_ge d p with z | z
      · exact absurd ⟨e, he⟩ (h d q z)
      · exact z
    have he2 : e < 2 := by
      rcases Nat.lt_or_ge e 2 with z | z
      · exact z
      · have hep : p ≤ e := by
          rcases Nat.lt_or_ge e p with y | y
          · exact absurd ⟨d, by rw [he, Nat.mul_comm]⟩ (h e z y)
          · exact y
        have := Nat.mul_le_mul hdp hep
        omega
    have he1 : e = 1 := by
      rcases Nat.eq_zero_or_pos e with z | z
      · subst z; omega
      · omega
    subst he1
    omega
