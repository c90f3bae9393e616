/-! first contracts: small methods -/
theorem w32_id {x : Int} (h : -2147483648 ≤ x ∧ x ≤ 2147483647) : w32 x = x := by rw [w32_eq]; exact z32 h
theorem w64_id {x : Int} (h : -9223372036854775808 ≤ x ∧ x ≤ 9223372036854775807) : w64 x = x := by rw [w64_eq]; exact z64 h
theorem ztmod (x y : Nat) : Int.tmod (x : Int) (y : Int) = ((x % y : Nat) : Int) := rfl
theorem ztdiv (x y : Nat) : Int.tdiv (x : Int) (y : Int) = ((x / y : Nat) : Int) := rfl
section C1
variable {w : zWt} {d : Nat} {H : zHt} {K : Int → zHt → Prop}
theorem c9 : zclI w d 9 [zR 32] H K = K (H 32 14) H := zclI_eq fun _ h => x9_0 h
theorem c13 {a : Int} : zclI w d 13 [zR 32, zI a] H K = K (-1) (zup H 32 14 a) := zclI_eq fun _ h => x13_0 h
theorem c39 {a : Int} : zclI w d 39 [zR 32, zI a] H K = K a (zup H 32 14 0) := zclI_eq fun _ h => x39_0 h
theorem c60 {a : Int} : zclL w d 60 [zR 32, zL a] H K = K a (zup H 32 14 0) := zclL_eq fun _ h => x60_0 h
theorem c43 {n : Int} : zclI w d 43 [zI n] H K = K (if 1 ≤ n ∧ n ≤ 999999999 then 1 else 0) H := zclI_eq fun K h => x43_0 ⟨fun q => by rwa [if_neg (by omega)] at h, fun q => ⟨fun q2 => by rwa [if_neg (by omega)] at h, fun q2 => by rwa [if_pos (by omega)] at h⟩⟩
theorem c44 {a b : Int} : zclI w d 44 [zI a, zI b] H K = K (if 0 ≤ a ∧ a ≤ b then 1 else 0) H := zclI_eq fun K h => x44_0 ⟨fun q => by rwa [if_neg (by omega)] at h, fun q => ⟨fun q2 => by rwa [if_neg (by omega)] at h, fun q2 => by rwa [if_pos (by omega)] at h⟩⟩
theorem c40 {a : Int} : zclI w d 40 [zR 32, zI a] H K = K (if a = 0 then H 32 12 else if a = 1 then H 32 13 else -1) H := zclI_eq fun K h => x40_0 ⟨fun q => ⟨fun q2 => by rwa [if_neg q, if_neg q2] at h, fun q2 => by rwa [if_neg q, if_pos q2] at h⟩, fun q => by rwa [if_pos q] at h⟩
theorem zgcd_step {x y k : Nat} (hyx : y ≤ x) (hy : 0 < y) (h : x * y < 2 ^ (k + 1)) : y * (x % y) < 2 ^ k := by
  have h1 := Nat.div_add_mod x y
  have h2 : y * 1 ≤ y * (x / y) := Nat.mul_le_mul_left y (Nat.div_pos hyx hy)
  have h3 := Nat.mod_lt x hy
  have h4 : (x % y + x % y) * y ≤ x * y := Nat.mul_le_mul_right y (by omega)
  rw [Nat.add_mul] at h4
  rw [Nat.mul_comm y (x % y)]
  rw [Nat.pow_succ] at h
  omega
theorem zgcd_rec (x y : Nat) : Nat.gcd y (x % y) = Nat.gcd x y := by
  rw [Nat.gcd_comm y, ← Nat.gcd_rec, Nat.gcd_comm]
theorem c66l : ∀ (k x y c : Nat), y ≤ x → x * y < 2 ^ k → c + k ≤ 99 → K (if ((Nat.gcd x y : Nat) : Int) < 1 then 1 else ((Nat.gcd x y : Nat) : Int)) H → zgo w d 66 9 [zJ, zJ, zJ, zJ, zL x, zJ, zL y, zJ, zI c, zJ, zJ] [] H (zQL K) := by
  intro k
  induction k with
  | zero =>
    intro x y c hyx hxy hc h
    have hy : y = 0 := by
      rcases Nat.eq_zero_or_pos y with q | q
      · exact q
      · have : 0 < x * y := Nat.mul_pos (by omega) q
        omega
    subst hy
    rw [Nat.gcd_zero_right] at h
    exact x66_9 ⟨fun q => by omega, fun _ => ⟨fun _ => h, fun q => absurd rfl q⟩⟩
  | succ k ih =>
    intro x y c hyx hxy hc h
    rcases Nat.eq_zero_or_pos y with q | q
    · subst q
      rw [Nat.gcd_zero_right] at h
      exact x66_9 ⟨fun q => by omega, fun _ => ⟨fun _ => h, fun q => absurd rfl q⟩⟩
    · refine x66_9 ⟨fun q => by omega, fun _ => ⟨fun q => by omega, fun q2 => ⟨q2, ?_⟩⟩⟩
      have e2 : w32 ((c : Int) + 1) = ((c + 1 : Nat) : Int) := w32_id (by omega)
      rw [ztmod, e2]
      refine ih y (x % y) (c + 1) (Nat.le_of_lt (Nat.mod_lt _ q)) (zgcd_step hyx q hxy) (by omega) ?_
      rw [zgcd_rec]; exact h
theorem c66 {a b : Nat} (ha : a < 2 ^ 48) (hb : b < 2 ^ 48) : zclL w d 66 [zL a, zL b] H K = K (if ((Nat.gcd a b : Nat) : Int) < 1 then 1 else ((Nat.gcd a b : Nat) : Int)) H := zclL_eq fun K h => x66_0 (by
  have hab : ∀ x y : Nat, x < 2 ^ 48 → y < 2 ^ 48 → x * y < 2 ^ 97 := fun x y hx hy => by
    have := Nat.mul_le_mul (Nat.le_of_lt hx) (Nat.le_of_lt hy)
    have e : 2 ^ 48 * 2 ^ 48 < 2 ^ 97 := by decide
    omega
  rcases Nat.lt_or_ge a b with q | q
  · refine x66_9 ⟨fun q => by omega, fun _ => ⟨fun q => by omega, fun q2 => ⟨q2, ?_⟩⟩⟩
    rw [ztmod, Nat.mod_eq_of_lt q]
    refine c66l 97 b a 1 (Nat.le_of_lt q) (hab b a hb ha) (by omega) ?_
    rw [Nat.gcd_comm]; exact h
  · exact c66l 97 a b 0 q (hab a b ha hb) (by omega) h)
end C1
/-! primes and what a number is made of -/
def zprime (p : Nat) : Prop := 2 ≤ p ∧ ∀ d, d ∣ p → d = 1 ∨ d = p
def zprod (l : List (Nat × Nat)) : Nat := l.foldr (fun q s => q.1 ^ q.2 * s) 1
def zGood (n : Nat) (l : List (Nat × Nat)) : Prop := (l.map Prod.fst).Pairwise (· < ·) ∧ (∀ q ∈ l, zprime q.1 ∧ 1 ≤ q.2) ∧ zprod l = n
theorem zprime_cop {p a : Nat} (hp : zprime p) (h : ¬ p ∣ a) : Nat.Coprime p a := by
  rcases hp.2 _ (Nat.gcd_dvd_left p a) with q | q
  · exact q
  · exact absurd (q ▸ Nat.gcd_dvd_right p a) h
theorem zprime_mul {p a b : Nat} (hp : zprime p) (h : p ∣ a * b) : p ∣ a ∨ p ∣ b := by
  rcases Classical.em (p ∣ a) with q | q
  · exact Or.inl q
  · exact Or.inr ((zprime_cop hp q).dvd_of_dvd_mul_left h)
theorem zprime_pow {p a : Nat} (hp : zprime p) : ∀ e, p ∣ a ^ e → p ∣ a := by
  intro e
  induction e with
  | zero =>
    intro h
    rw [Nat.pow_zero] at h
    have := Nat.le_of_dvd (by decide) h
    have := hp.1
    omega
  | succ e ih =>
    intro h
    rw [Nat.pow_succ] at h
    rcases zprime_mul hp h with q | q
    · exact ih q
    · exact q
theorem zprime_eq {p q : Nat} (hp : zprime p) (hq : zprime q) (h : p ∣ q) : p = q := by
  rcases hq.2 p h with z | z
  · have := hp.1; omega
  · exact z
theorem zprime_prod {p : Nat} (hp : zprime p) : ∀ {l : List (Nat × Nat)}, (∀ q ∈ l, zprime q.1 ∧ 1 ≤ q.2) → p ∣ zprod l → ∃ q ∈ l, p = q.1
  | [], _, h => by
    have := Nat.le_of_dvd (by decide) (show p ∣ 1 from h)
    have := hp.1
    omega
  | q :: l, hl, h => by
    rcases zprime_mul hp (show p ∣ q.1 ^ q.2 * zprod l from h) with z | z
    · exact ⟨q, List.mem_cons_self, zprime_eq hp (hl q List.mem_cons_self).1 (zprime_pow hp _ z)⟩
    · obtain ⟨r, hr, e⟩ := zprime_prod hp (fun r hr => hl r (List.mem_cons_of_mem _ hr)) z
      exact ⟨r, List.mem_cons_of_mem _ hr, e⟩
theorem zprod_pos : ∀ {l : List (Nat × Nat)}, (∀ q ∈ l, zprime q.1 ∧ 1 ≤ q.2) → 0 < zprod l
  | [], _ => Nat.one_pos
  | q :: l, hl => Nat.mul_pos (Nat.pow_pos (by have := (hl q List.mem_cons_self).1.1; omega)) (zprod_pos fun r hr => hl r (List.mem_cons_of_mem _ hr))
theorem zGood_tail {n p e : Nat} {l : List (Nat × Nat)} (h : zGood n ((p, e) :: l)) : zGood (zprod l) l ∧ zprime p ∧ 1 ≤ e ∧ (∀ q ∈ l, p < q.1) ∧ n = p ^ e * zprod l ∧ ¬ p ∣ zprod l := by
  obtain ⟨h1, h2, h3⟩ := h
  rw [List.map_cons, List.pairwise_cons] at h1
  have hp := h2 _ List.mem_cons_self
  have ht : ∀ q ∈ l, zprime q.1 ∧ 1 ≤ q.2 := fun q hq => h2 q (List.mem_cons_of_mem _ hq)
  have hlt : ∀ q ∈ l, p < q.1 := fun q hq => h1.1 q.1 (List.mem_map_of_mem hq)
  refine ⟨⟨h1.2, ht, rfl⟩, hp.1, hp.2, hlt, h3.symm, fun hd => ?_⟩
  obtain ⟨q, hq, e1⟩ := zprime_prod hp.1 ht hd
  have := hlt q hq
  omega
theorem zpow_cancel {p : Nat} (hp : 2 ≤ p) : ∀ {e f a b : Nat}, ¬ p ∣ a → ¬ p ∣ b → p ^ e * a = p ^ f * b → e = f ∧ a = b
  | 0, 0, a, b, _, _, h => ⟨rfl, by simpa using h⟩
  | 0, f + 1, a, b, ha, _, h => by
    exfalso
    apply ha
    rw [Nat.pow_zero, Nat.one_mul] at h
    rw [h, Nat.pow_succ, Nat.mul_comm (p ^ f) p, Nat.mul_assoc]
    exact Nat.dvd_mul_right _ _
  | e + 1, 0, a, b, _, hb, h => by
    exfalso
    apply hb
    rw [Nat.pow_zero, Nat.one_mul] at h
    rw [← h, Nat.pow_succ, Nat.mul_comm (p ^ e) p, Nat.mul_assoc]
    exact Nat.dvd_mul_right _ _
  | e + 1, f + 1, a, b, ha, hb, h => by
    rw [Nat.pow_succ, Nat.pow_succ, Nat.mul_comm (p ^ e) p, Nat.mul_comm (p ^ f) p, Nat.mul_assoc, Nat.mul_assoc] at h
    obtain ⟨h1, h2⟩ := zpow_cancel hp ha hb (Nat.eq_of_mul_eq_mul_left (by omega) h)
    exact ⟨by omega, h2⟩
theorem zGood_one {l : List (Nat × Nat)} {p e : Nat} (h : zGood 1 ((p, e) :: l)) : False := by
  obtain ⟨h1, hp, he, -, hn, -⟩ := zGood_tail h
  have h2 : p ∣ 1 := by
    rw [hn]
    obtain ⟨k, rfl⟩ : ∃ k, e = k + 1 := ⟨e - 1, by omega⟩
    rw [Nat.pow_succ, Nat.mul_comm (p ^ k) p, Nat.mul_assoc]
    exact Nat.dvd_mul_right _ _
  have := Nat.le_of_dvd (by decide) h2
  have := hp.1
  omega
theorem zdvd_pow {p e : Nat} (he : 1 ≤ e) (m : Nat) : p ∣ p ^ e * m := by
  obtain ⟨k, rfl⟩ : ∃ k, e = k + 1 := ⟨e - 1, by omega⟩
  rw [Nat.pow_succ, Nat.mul_comm (p ^ k) p, Nat.mul_assoc]
  exact Nat.dvd_mul_right _ _
/-- there is no more than one such list -/
theorem zGood_uniq : ∀ {l l' : List (Nat × Nat)} {n : Nat}, zGood n l → zGood n l' → l = l'
  | [], [], _, _, _ => rfl
  | [], (p, e) :: l', n, h, h' => by
    have : n = 1 := h.2.2.symm
    subst this
    exact (zGood_one h').elim
  | (p, e) :: l, [], n, h, h' => by
    have : n = 1 := h'.2.2.symm
    subst this
    exact (zGood_one h).elim
  | (p, e) :: l, (p', e') :: l', n, h, h' => by
    obtain ⟨t1, hp, he, hlt, hn, hnd⟩ := zGood_tail h
    obtain ⟨t1', hp', he', hlt', hn', hnd'⟩ := zGood_tail h'
    have hpp : p = p' := by
      have d1 : p ∣ zprod ((p', e') :: l') := by rw [h'.2.2, hn]; exact zdvd_pow he _
      have d2 : p' ∣ zprod ((p, e) :: l) := by rw [h.2.2, hn']; exact zdvd_pow he' _
      obtain ⟨q, hq, e1⟩ := zprime_prod hp h'.2.1 d1
      obtain ⟨r, hr, e2⟩ := zprime_prod hp' h.2.1 d2
      have a1 : p' ≤ p := by
        rcases List.mem_cons.mp hq with z | z
        · rw [e1, z]; exact Nat.le_refl _
        · have := hlt' q z; omega
      have a2 : p ≤ p' := by
        rcases List.mem_cons.mp hr with z | z
        · rw [e2, z]; exact Nat.le_refl _
        · have := hlt r z; omega
      omega
    subst hpp
    obtain ⟨e1, e2⟩ := zpow_cancel hp.1 hnd hnd' (hn.symm.trans hn')
    subst e1
    rw [e2] at t1
    rw [zGood_uniq t1 t1']
noncomputable def zfac (n : Nat) : List (Nat × Nat) := by
  classical
  exact if h : ∃ l, zGood n l then h.choose else []
theorem zfac_eq {n : Nat} {l : List (Nat × Nat)} (h : zGood n l) : zfac n = l := by
  unfold zfac
  have hx : ∃ l, zGood n l := ⟨l, h⟩
  rw [dif_pos hx]
  exact zGood_uniq hx.choose_spec h
/-- no number from 2 up to p divides n -/
def zfree (p n : Nat) : Prop := ∀ d, 2 ≤ d → d < p → ¬ d ∣ n
theorem zfree_prime {p n : Nat} (hp : 2 ≤ p) (h : zfree p n) (hd : p ∣ n) : zprime p := by
  refine ⟨hp, fun d hdp => ?_⟩
  have h0 : 0 < d := Nat.pos_of_dvd_of_pos hdp (by omega)
  have hle := Nat.le_of_dvd (by omega) hdp
  rcases Nat.lt_or_ge d 2 with q | q
  · left; omega
  · rcases Nat.lt_or_ge d p with z | z
    · exact absurd (Nat.dvd_trans hdp hd) (h d q z)
    · right; omega
theorem zfree_rest {p n : Nat} (hn : 2 ≤ n) (h : zfree p n) (hpp : n < p * p) : zprime n := by
  refine ⟨hn, fun d hd => ?_⟩
  obtain ⟨e, he⟩ := hd
  have hd0 : 0 < d := by
    rcases Nat.eq_zero_or_pos d with q | q
    · subst q; rw [Nat.zero_mul] at he; omega
    · exact q
  rcases Nat.lt_or_ge d 2 with q | q
  · left; omega
  · right
    have hdp : p ≤ d := by
      rcases Nat.lt_or_ge d p with z | z
      · exact absurd ⟨e, he⟩ (h d q z)
      · exact z
    have he2 : e < 2 := by
      rcases Nat.lt_or_ge e 2 with z | z
      · exact z
      · have hep : p ≤ e := by
          rcases Nat.lt_or_ge e p with y | y
          · exact absurd ⟨d, by rw [he, Nat.mul_comm]⟩ (h e z y)
          · exact y
        have := Nat.mul_le_mul hdp hep
        omega
    have he1 : e = 1 := by
      rcases Nat.eq_zero_or_pos e with z | z
      · subst z; omega
      · omega
    subst he1
    omega

/-! the model's factors -/
theorem zclV_ex {w : zWt} {d t : Nat} {as : List zV} {H : zHt} {P : zHt → Prop} (h : zclV w d t as H P) : ∃ H', P H' ∧ ∀ K : zHt → Prop, zclV w d t as H K = K H' := by
  obtain ⟨n, r, H', hex, hm, hr, hP⟩ := h
  exact ⟨H', hP, fun K => zclV_eq (fun K hK => ⟨n, r, H', hex, hm, hr, hK⟩)⟩
theorem zclI_ex {w : zWt} {d t : Nat} {as : List zV} {H : zHt} {P : Int → zHt → Prop} (h : zclI w d t as H P) : ∃ x H', P x H' ∧ ∀ K : Int → zHt → Prop, zclI w d t as H K = K x H' := by
  obtain ⟨n, r, H', hex, hm, x, hr, hP⟩ := h
  exact ⟨x, H', hP, fun K => zclI_eq (fun K hK => ⟨n, r, H', hex, hm, x, hr, hK⟩)⟩
theorem zclL_ex {w : zWt} {d t : Nat} {as : List zV} {H : zHt} {P : Int → zHt → Prop} (h : zclL w d t as H P) : ∃ x H', P x H' ∧ ∀ K : Int → zHt → Prop, zclL w d t as H K = K x H' := by
  obtain ⟨n, r, H', hex, hm, x, hr, hP⟩ := h
  exact ⟨x, H', hP, fun K => zclL_eq (fun K hK => ⟨n, r, H', hex, hm, x, hr, hK⟩)⟩
theorem znot_prime {q c : Nat} (hq : zprime q) (h1 : 1 < c) (h2 : c < q) (h : c ∣ q) : False := by
  rcases hq.2 c h with z | z <;> omega
theorem znext {b b' q : Nat} (hq : zprime q) (h : b < q) (hs : ∀ k, b < k → k < b' → ∃ c, 1 < c ∧ c < k ∧ c ∣ k) : b' ≤ q := by
  rcases Nat.lt_or_ge q b' with z | z
  · obtain ⟨c, h1, h2, h3⟩ := hs q h z
    exact (znot_prime hq h1 h2 h3).elim
  · exact z
def zlow : List Nat → Prop
  | b :: b' :: m => (∀ q, zprime q → b < q → b' ≤ q) ∧ zlow (b' :: m)
  | _ => True
theorem zlow_10 : zlow [2, 3, 5, 7, 11, 13, 17, 19, 23, 29] := by
  refine ⟨fun q hq h => h, fun q hq h => znext hq h ?_, fun q hq h => znext hq h ?_, fun q hq h => znext hq h ?_, fun q hq h => znext hq h ?_, fun q hq h => znext hq h ?_, fun q hq h => znext hq h ?_, fun q hq h => znext hq h ?_, fun q hq h => znext hq h ?_, trivial⟩
  · intro k h1 h2; exact ⟨2, by omega, by omega, by omega⟩
  · intro k h1 h2; exact ⟨2, by omega, by omega, by omega⟩
  · intro k h1 h2
    rcases (by omega : k = 8 ∨ k = 9 ∨ k = 10) with rfl | rfl | rfl
    · exact ⟨2, by omega, by omega, by omega⟩
    · exact ⟨3, by omega, by omega, by omega⟩
    · exact ⟨2, by omega, by omega, by omega⟩
  · intro k h1 h2; exact ⟨2, by omega, by omega, by omega⟩
  · intro k h1 h2
    rcases (by omega : k = 14 ∨ k = 15 ∨ k = 16) with rfl | rfl | rfl
    · exact ⟨2, by omega, by omega, by omega⟩
    · exact ⟨3, by omega, by omega, by omega⟩
    · exact ⟨2, by omega, by omega, by omega⟩
  · intro k h1 h2; exact ⟨2, by omega, by omega, by omega⟩
  · intro k h1 h2
    rcases (by omega : k = 20 ∨ k = 21 ∨ k = 22) with rfl | rfl | rfl
    · exact ⟨2, by omega, by omega, by omega⟩
    · exact ⟨3, by omega, by omega, by omega⟩
    · exact ⟨2, by omega, by omega, by omega⟩
  · intro k h1 h2
    rcases (by omega : k = 24 ∨ k = 25 ∨ k = 26 ∨ k = 27 ∨ k = 28) with rfl | rfl | rfl | rfl | rfl
    · exact ⟨2, by omega, by omega, by omega⟩
    · exact ⟨5, by omega, by omega, by omega⟩
    · exact ⟨2, by omega, by omega, by omega⟩
    · exact ⟨3, by omega, by omega, by omega⟩
    · exact ⟨2, by omega, by omega, by omega⟩
def zmul (m : List Nat) : Nat := m.foldr (fun b s => b * s) 1
theorem zlow_prod : ∀ (m : List Nat) (l : List (Nat × Nat)), zlow m → (l.map Prod.fst).Pairwise (· < ·) → (∀ q ∈ l, zprime q.1 ∧ 1 ≤ q.2) → (∀ b, m.head? = some b → ∀ q ∈ l, b ≤ q.1) → m.length ≤ l.length → zmul m ≤ zprod l
  | [], l, _, _, h2, _, _ => zprod_pos h2
  | b :: m, [], _, _, _, _, h4 => by simp at h4
  | b :: m, (p, e) :: l, hm, h1, h2, h3, h4 => by
    rw [List.map_cons, List.pairwise_cons] at h1
    have hp := h2 _ List.mem_cons_self
    have hb := h3 b rfl _ List.mem_cons_self
    have hb : b ≤ p := hb
    have ih := zlow_prod m l (by cases m with | nil => trivial | cons b' m => exact hm.2) h1.2 (fun q hq => h2 q (List.mem_cons_of_mem _ hq)) (fun b' hb' q hq => by
      cases m with
      | nil => cases hb'
      | cons b2 m =>
        cases hb'
        exact hm.1 q.1 (h2 q (List.mem_cons_of_mem _ hq)).1 (Nat.lt_of_le_of_lt hb (h1.1 q.1 (List.mem_map_of_mem hq)))) (by simp at h4; exact h4)
    have hpe : p ≤ p ^ e := by
      obtain ⟨k, rfl⟩ : ∃ k, e = k + 1 := ⟨e - 1, by have := hp.2; simp at this; omega⟩
      rw [Nat.pow_succ]
      exact Nat.le_mul_of_pos_left p (Nat.pow_pos (by have := hp.1.1; simp at this; omega))
    exact Nat.mul_le_mul (Nat.le_trans hb hpe) ih
theorem zGood_nine {n : Nat} {l : List (Nat × Nat)} (h : zGood n l) (hn : n < 6469693230) : l.length ≤ 9 := by
  rcases Nat.lt_or_ge 9 l.length with z | z
  · have := zlow_prod [2, 3, 5, 7, 11, 13, 17, 19, 23, 29] l zlow_10 h.1 h.2.1 (fun b hb q hq => by cases hb; exact (h.2.1 q hq).1.1) z
    rw [h.2.2] at this
    have e : zmul [2, 3, 5, 7, 11, 13, 17, 19, 23, 29] = 6469693230 := by decide
    omega
  · exact z
theorem zprod_app (l : List (Nat × Nat)) (p e : Nat) : zprod (l ++ [(p, e)]) = zprod l * p ^ e := by
  induction l with
  | nil => simp [zprod]
  | cons q l ih =>
    show q.1 ^ q.2 * zprod (l ++ [(p, e)]) = q.1 ^ q.2 * zprod l * p ^ e
    rw [ih, Nat.mul_assoc]
/-- the primes found so far, all below p -/
def zPart (l : List (Nat × Nat)) (p : Nat) : Prop := (l.map Prod.fst).Pairwise (· < ·) ∧ (∀ q ∈ l, zprime q.1 ∧ 1 ≤ q.2) ∧ ∀ q ∈ l, q.1 < p
theorem zPart_app {l : List (Nat × Nat)} {p e p' : Nat} (h : zPart l p) (hp : zprime p) (he : 1 ≤ e) (hpp : p < p') : zPart (l ++ [(p, e)]) p' := by
  obtain ⟨h1, h2, h3⟩ := h
  refine ⟨?_, ?_, ?_⟩
  · rw [List.map_append, List.pairwise_append]
    refine ⟨h1, by simp, ?_⟩
    intro a ha b hb
    simp only [List.map_cons, List.map_nil, List.mem_cons, List.not_mem_nil, or_false] at hb
    subst hb
    obtain ⟨q, hq, rfl⟩ := List.mem_map.mp ha
    exact h3 q hq
  · intro q hq
    rcases List.mem_append.mp hq with z | z
    · exact h2 q z
    · simp only [List.mem_cons, List.not_mem_nil, or_false] at z
      subst z; exact ⟨hp, he⟩
  · intro q hq
    rcases List.mem_append.mp hq with z | z
    · have := h3 q z; omega
    · simp only [List.mem_cons, List.not_mem_nil, or_false] at z
      subst z; exact hpp
theorem zPart_len {l : List (Nat × Nat)} {p e m n : Nat} (h : zPart l p) (hp : zprime p) (he : 1 ≤ e) (hm : 1 ≤ m) (hn : n = zprod l * p ^ e * m) (hb : n < 6469693230) : l.length ≤ 8 := by
  have h1 := zPart_app (p' := p + 1) h hp he (by omega)
  have h2 : zGood (zprod (l ++ [(p, e)])) (l ++ [(p, e)]) := ⟨h1.1, h1.2.1, rfl⟩
  have h3 := zGood_nine h2 (by
    rw [zprod_app]
    have := Nat.le_mul_of_pos_right (zprod l * p ^ e) hm
    omega)
  rw [List.length_append] at h3
  simp at h3
  exact h3
/-- the list of a number, in two arrays and a count -/
def zLst (H : zHt) (c k : Int) (A B : Int) (l : List (Nat × Nat)) : Prop := H c k = l.length ∧ ∀ (i : Nat) (q : Nat × Nat), l[i]? = some q → H A i = q.1 ∧ H B i = q.2
/-! the model's factors: its two loops -/
theorem zq_ne {H : zHt} {a j x a' j' : Int} (h : ¬ (a' = a ∧ j' = j)) : zup H a j x a' j' = H a' j' := if_neg h
theorem zq_eq {H : zHt} {a j x : Int} : zup H a j x a j = x := if_pos ⟨rfl, rfl⟩
theorem zget_lt {l : List (Nat × Nat)} {i : Nat} {q : Nat × Nat} (h : l[i]? = some q) : i < l.length := by
  rcases Nat.lt_or_ge i l.length with z | z
  · exact z
  · rw [List.getElem?_eq_none z] at h; cases h
theorem zlt_pow {p e : Nat} (hp : 2 ≤ p) : e < p ^ e := Nat.lt_of_lt_of_le Nat.lt_two_pow_self (Nat.pow_le_pow_left hp e)
theorem zle_mul {a b n : Nat} (h : n = a * b) (hb : 1 ≤ b) : a ≤ n := by rw [h]; exact Nat.le_mul_of_pos_right a hb
section M177
variable {w : zWt} {d n p : Nat} {H0 : zHt} {l : List (Nat × Nat)} {P : zHt → Prop}
theorem zsq_lt {p : Nat} (h : p * p ≤ 999999999) : p ≤ 31622 := by
  rcases Nat.lt_or_ge 31622 p with z | z
  · have := Nat.mul_le_mul (show 31623 ≤ p from z) (show 31623 ≤ p from z)
    omega
  · exact z
end M177
/-! sums of divisors: what both count, and the model's -/
def zpw (p : Int) : Nat → Int
  | 0 => 1
  | e + 1 => w64 (zpw p e * p)
def zofp (p : Int) : Nat → Int
  | 0 => 1
  | e + 1 => w64 (w64 (zofp p e * p) + 1)
def zall (l : List (Nat × Nat)) : Int := l.foldl (fun s q => w64 (s * zofp q.1 q.2)) 1
def zcnt (l : List (Nat × Nat)) : Int := l.foldl (fun s q => w32 (s * w32 ((q.2 : Int) + 1))) 1
def zsst (law : Int) (s : Int × Int) (q : Nat × Nat) : Int × Int := (w64 (s.1 * w64 (1 + (if law = 1 then zpw q.1 q.2 else (q.1 : Int)))), if s.2 = 0 then 0 else if (q.2 : Int) = 1 then 1 else 0)
def zsre (law n : Int) (s : Int × Int) : Int := if law = 1 then w64 (s.1 - n) else if s.2 = 0 then s.1 else w64 (s.1 - n)
/-- the sum of a number by a law -/
noncomputable def zsum (law : Int) (n : Nat) : Int := if n = 1 then 0 else if law = 0 then w64 (zall (zfac n) - n) else if law = 2 then w64 (w64 (zall (zfac n) - n) - 1) else zsre law n ((zfac n).foldl (zsst law) (1, 1))
theorem zprod_mem : ∀ {l : List (Nat × Nat)} {q : Nat × Nat}, (∀ q ∈ l, zprime q.1 ∧ 1 ≤ q.2) → q ∈ l → q.1 ^ q.2 ≤ zprod l
  | r :: l, q, h, hq => by
    have hr := h r List.mem_cons_self
    have ht : ∀ q ∈ l, zprime q.1 ∧ 1 ≤ q.2 := fun q hq => h q (List.mem_cons_of_mem _ hq)
    show q.1 ^ q.2 ≤ r.1 ^ r.2 * zprod l
    rcases List.mem_cons.mp hq with z | z
    · subst z; exact Nat.le_mul_of_pos_right _ (zprod_pos ht)
    · exact Nat.le_trans (zprod_mem ht z) (Nat.le_mul_of_pos_left _ (Nat.pow_pos (by have := hr.1.1; omega)))
theorem zGood_bd {n : Nat} {l : List (Nat × Nat)} {q : Nat × Nat} (h : zGood n l) (hq : q ∈ l) : 2 ≤ q.1 ∧ 1 ≤ q.2 ∧ q.1 ≤ n ∧ q.2 ≤ n := by
  obtain ⟨hp, he⟩ := h.2.1 q hq
  have h1 := zprod_mem h.2.1 hq
  rw [h.2.2] at h1
  have h2 := zlt_pow (e := q.2) hp.1
  have h3 : q.1 ≤ q.1 ^ q.2 := by
    obtain ⟨k, hk⟩ : ∃ k, q.2 = k + 1 := ⟨q.2 - 1, by omega⟩
    rw [hk, Nat.pow_succ]
    exact Nat.le_mul_of_pos_left _ (Nat.pow_pos (by have := hp.1; omega))
  exact ⟨hp.1, he, by omega, by omega⟩
section M25
variable {w : zWt} {d : Nat} {H : zHt}
theorem c55w {p : Int} {e : Nat} {K : Int → zHt → Prop} (he : e ≤ 2000000000) : zclL w d 55 [zI p, zI e] H K = K (zpw p e) H := by
  have L : ∀ (k i : Nat) (K : Int → zHt → Prop), i + k = e → K (zpw p e) H → zgo w d 55 5 [zI p, zI e, zL (zpw p i), zJ, zI i] [] H (zQL K) := by
    intro k
    induction k with
    | zero =>
      intro i K hi h
      have : i = e := by omega
      subst this
      exact x55_5 ⟨fun _ => h, fun q => by omega⟩
    | succ k ih =>
      intro i K hi h
      refine x55_5 ⟨fun q => by omega, fun _ => ?_⟩
      rw [show w32 ((i : Int) + 1) = ((i + 1 : Nat) : Int) from w32_id (by omega)]
      exact ih (i + 1) K (by omega) h
  exact zclL_eq fun K h => x55_0 (L e 0 K (by omega) h)
theorem zLst_at {H : zHt} {c k A B : Int} {pre suf : List (Nat × Nat)} {q : Nat × Nat} (h : zLst H c k A B (pre ++ q :: suf)) : H A pre.length = q.1 ∧ H B pre.length = q.2 := h.2 pre.length q (by rw [List.getElem?_append_right (Nat.le_refl _), Nat.sub_self]; rfl)
theorem zapp_one {α : Type} (pre suf : List α) (q : α) : pre ++ q :: suf = (pre ++ [q]) ++ suf := by simp
noncomputable def zkind2 (law : Int) (n : Nat) : Int := if zsum law n < n then 0 else if zsum law n = n then 1 else 2
end M25
/-! the class's factors: one prime taken out; sums over what was found -/
def zadd (H : zHt) (p e : Int) : zHt := zup (zup (zup H 37 (H 36 3) p) 38 (H 36 3) e) 36 3 (w32 (H 36 3 + 1))
def zfc (H H' : zHt) : Prop := ∀ a j : Int, a ≠ 37 → a ≠ 38 → ¬ (a = 36 ∧ j = 3) → H' a j = H a j
theorem zfc_rfl {H : zHt} : zfc H H := fun _ _ _ _ _ => rfl
theorem zfc_add {H0 H : zHt} {p e : Int} (h : zfc H0 H) : zfc H0 (zadd H p e) := fun a j h1 h2 h3 => by
  unfold zadd
  rw [zq_ne h3, zq_ne (fun q => h2 q.1), zq_ne (fun q => h1 q.1)]; exact h a j h1 h2 h3
theorem zfc_0 {H0 H : zHt} {x : Int} (h : zfc H0 H) : zfc H0 (zup H 36 3 x) := fun a j h1 h2 h3 => by
  rw [zq_ne h3]; exact h a j h1 h2 h3
theorem zLst_add {H : zHt} {l : List (Nat × Nat)} {p e : Nat} (h : zLst H 36 3 37 38 l) (hl : l.length ≤ 8) : zLst (zadd H p e) 36 3 37 38 (l ++ [(p, e)]) := by
  have hc := h.1
  unfold zadd
  rw [hc, show w32 ((l.length : Int) + 1) = (l.length : Int) + 1 from w32_id (by omega)]
  refine ⟨by rw [zq_eq, List.length_append]; simp, fun i q hq => ?_⟩
  have hA : ∀ (x : Int) (i : Int), zup (zup (zup H 37 l.length p) 38 l.length e) 36 3 x 37 i = if i = (l.length : Int) then (p : Int) else H 37 i := fun x i => by
    unfold zup; simp
  have hB : ∀ (x : Int) (i : Int), zup (zup (zup H 37 l.length p) 38 l.length e) 36 3 x 38 i = if i = (l.length : Int) then (e : Int) else H 38 i := fun x i => by
    unfold zup; simp
  rw [hA, hB]
  rcases Nat.lt_or_ge i l.length with z | z
  · rw [List.getElem?_append_left z] at hq
    rw [if_neg (by omega), if_neg (by omega)]
    exact h.2 i q hq
  · rw [List.getElem?_append_right z] at hq
    have hi : i - l.length = 0 := by
      rcases Nat.eq_zero_or_pos (i - l.length) with y | y
      · exact y
      · rw [List.getElem?_eq_none (by simp; omega)] at hq; cases hq
    rw [hi] at hq
    cases hq
    have : i = l.length := by omega
    subst this
    exact ⟨if_pos rfl, if_pos rfl⟩
section M26
variable {w : zWt} {d : Nat} {H : zHt}
theorem c47 {p e : Int} {K : zHt → Prop} (h : 0 ≤ H 36 3 ∧ H 36 3 < 9) : zclV w d 47 [zR 36, zI p, zI e] H K = K (zadd H p e) :=
  zclV_eq fun K hK => x47_0 ⟨fun q => by omega, fun _ => ⟨h, hK⟩⟩
theorem c46l {left p : Nat} (hl : left ≤ 999999999) (hp : 2 ≤ p) (hpb : p ≤ 999999999) (hlen : p ∣ left → 0 ≤ H 36 3 ∧ H 36 3 < 9) : ∀ (cur cnt : Nat), left = p ^ cnt * cur → 1 ≤ cur → zgo w (d + 1) 46 8 [zR 36, zJ, zI p, zI cur, zI cnt, zI cnt] [] H (zQI fun x H' => ∃ left' e : Nat, x = left' ∧ 1 ≤ left' ∧ left = p ^ e * left' ∧ ¬ p ∣ left' ∧ H' = if e = 0 then H else zadd H p e) := by
  intro cur
  induction cur using Nat.strongRecOn with
  | ind cur ih =>
    intro cnt hne h1
    have hcnt : cnt < 30 := by
      rcases Nat.lt_or_ge cnt 30 with z | z
      · exact z
      · have a1 : 2 ^ 30 ≤ 2 ^ cnt := Nat.pow_le_pow_right (by decide) z
        have a2 : 2 ^ cnt ≤ p ^ cnt := Nat.pow_le_pow_left hp cnt
        have a3 := zle_mul hne h1
        have a4 : (2 : Nat) ^ 30 = 1073741824 := by decide
        omega
    refine x46_8 ⟨fun q => by omega, fun _ => ⟨fun q => by omega, fun _ => ⟨by omega, fun q => ?_, fun q => ?_⟩⟩⟩
    · rw [ztmod] at q
      have hnd : ¬ p ∣ cur := fun z => q (by rw [Nat.mod_eq_zero_of_dvd z]; rfl)
      refine ⟨fun q2 => ⟨cur, cnt, rfl, h1, hne, hnd, by rw [if_pos (by omega)]⟩, fun q2 => ?_⟩
      have hd : p ∣ left := by rw [hne]; exact zdvd_pow (by omega) _
      rw [c47 (hlen hd)]
      exact ⟨cur, cnt, rfl, h1, hne, hnd, by rw [if_neg (by omega)]⟩
    · rw [ztmod] at q
      obtain ⟨m, rfl⟩ := Nat.dvd_of_mod_eq_zero (show cur % p = 0 by omega)
      have hm : 1 ≤ m := by
        rcases Nat.eq_zero_or_pos m with z | z
        · subst z; omega
        · exact z
      have hle : p * m ≤ left := by rw [hne]; exact Nat.le_mul_of_pos_left _ (Nat.pow_pos (by omega))
      have hmm : 2 * m ≤ p * m := Nat.mul_le_mul_right m hp
      rw [ztdiv, Nat.mul_div_cancel_left m (by omega), show w32 ((m : Nat) : Int) = ((m : Nat) : Int) from w32_id (by omega), show w32 ((cnt : Int) + 1) = ((cnt + 1 : Nat) : Int) from w32_id (by omega)]
      exact ih m (by omega) (cnt + 1) (by rw [hne, Nat.pow_succ, Nat.mul_assoc]) hm
theorem c46 {left p : Nat} (h1 : 1 ≤ left) (hl : left ≤ 999999999) (hp : 2 ≤ p) (hpb : p ≤ 999999999) (hlen : p ∣ left → 0 ≤ H 36 3 ∧ H 36 3 < 9) : ∃ left' e : Nat, 1 ≤ left' ∧ left = p ^ e * left' ∧ ¬ p ∣ left' ∧ ∀ K : Int → zHt → Prop, zclI w (d + 1) 46 [zR 36, zI left, zI p] H K = K left' (if e = 0 then H else zadd H p e) := by
  obtain ⟨x, H', ⟨left', e, rfl, a1, a2, a3, rfl⟩, hK⟩ := zclI_ex (x46_0 (c46l (w := w) (d := d) hl hp hpb hlen left 0 (by rw [Nat.pow_zero, Nat.one_mul]) h1))
  exact ⟨left', e, a1, a2, a3, hK⟩
theorem c59 {l : List (Nat × Nat)} {i : Nat} {q : Nat × Nat} {K : Int → zHt → Prop} (hL : zLst H 36 3 37 38 l) (hq : l[i]? = some q) (h9 : l.length ≤ 9) (he : q.2 ≤ 2000000000) : zclL w d 59 [zR 36, zI i] H K = K (zofp q.1 q.2) H := by
  have hi := zget_lt hq
  obtain ⟨hA, hB⟩ := hL.2 i q hq
  have L : ∀ (k j : Nat) (K : Int → zHt → Prop), j + k = q.2 → K (zofp q.1 q.2) H → zgo w d 59 5 [zR 36, zI i, zL (zofp q.1 j), zJ, zI j] [] H (zQL K) := by
    intro k
    induction k with
    | zero =>
      intro j K hj h
      have : j = q.2 := by omega
      subst this
      exact x59_5 ⟨by omega, fun _ => h, fun z => by omega⟩
    | succ k ih =>
      intro j K hj h
      refine x59_5 ⟨by omega, fun z => by omega, fun _ => ?_⟩
      rw [hA, show w32 ((j : Int) + 1) = ((j + 1 : Nat) : Int) from w32_id (by omega)]
      exact ih (j + 1) K (by omega) h
  exact zclL_eq fun K h => x59_0 (L q.2 0 K (by omega) h)
theorem zget_at {pre suf : List (Nat × Nat)} {q : Nat × Nat} : (pre ++ q :: suf)[pre.length]? = some q := by
  rw [List.getElem?_append_right (Nat.le_refl _), Nat.sub_self]; rfl
theorem c58 {n : Nat} {l : List (Nat × Nat)} {K : Int → zHt → Prop} (hn : n ≤ 999999999) (hG : zGood n l) (hL : zLst H 36 3 37 38 l) : zclL w (d + 1) 58 [zR 36] H K = K (zall l) H := by
  have h9 := zGood_nine hG (by omega)
  have L : ∀ (suf pre : List (Nat × Nat)) (s : Int) (K : Int → zHt → Prop), l = pre ++ suf → K (suf.foldl (fun s q => w64 (s * zofp q.1 q.2)) s) H → zgo w (d + 1) 58 4 [zR 36, zL s, zJ, zI pre.length] [] H (zQL K) := by
    intro suf
    induction suf with
    | nil =>
      intro pre s K hl h
      have hc := hL.1
      rw [hl, List.append_nil] at hc
      exact x58_4 ⟨fun _ => h, fun q => by omega⟩
    | cons q suf ih =>
      intro pre s K hl h
      have hc := hL.1
      have hlen : l.length = pre.length + (suf.length + 1) := by rw [hl, List.length_append]; rfl
      have hb := zGood_bd hG (q := q) (by rw [hl]; simp)
      refine x58_4 ⟨fun z => by omega, fun _ => ?_⟩
      rw [c59 hL (by rw [hl]; exact zget_at) h9 (by omega), show w32 ((pre.length : Int) + 1) = ((pre ++ [q]).length : Int) by rw [w32_id (by omega), List.length_append]; simp]
      exact ih (pre ++ [q]) _ K (by rw [hl, zapp_one]) h
  exact zclL_eq fun K h => x58_0 (L l [] 1 K rfl h)
theorem c71l {n : Nat} {l : List (Nat × Nat)} (hn : n ≤ 999999999) (hG : zGood n l) (hL : zLst H 36 3 37 38 l) : ∀ (suf pre : List (Nat × Nat)) (s : Int) (K : Int → zHt → Prop), l = pre ++ suf → K (suf.foldl (fun s q => w32 (s * w32 ((q.2 : Int) + 1))) s) H → zgo w (d + 1) 71 9 [zR 36, zJ, zI s, zI pre.length] [] H (zQI K) := by
  intro suf
  have h9 := zGood_nine hG (by omega)
  induction suf with
  | nil =>
    intro pre s K hl h
    have hc := hL.1
    rw [hl, List.append_nil] at hc
    exact x71_9 ⟨fun _ => h, fun q => by omega⟩
  | cons q suf ih =>
    intro pre s K hl h
    have hc := hL.1
    have hlen : l.length = pre.length + (suf.length + 1) := by rw [hl, List.length_append]; rfl
    have hq := zLst_at (hl ▸ hL)
    refine x71_9 ⟨fun z => by omega, fun _ => ⟨by omega, ?_⟩⟩
    rw [hq.2, show w32 ((pre.length : Int) + 1) = ((pre ++ [q]).length : Int) by rw [w32_id (by omega), List.length_append]; simp]
    exact ih (pre ++ [q]) _ K (by rw [hl, zapp_one]) h
theorem c54 {n : Nat} {l : List (Nat × Nat)} {K : Int → zHt → Prop} (hn : n ≤ 999999999) (hG : zGood n l) (hL : zLst H 36 3 37 38 l) : zclL w (d + 1) 54 [zR 36] H K = K (l.foldl (fun s q => w64 (s * w64 (zpw q.1 q.2 + 1))) 1) H := by
  have h9 := zGood_nine hG (by omega)
  have L : ∀ (suf pre : List (Nat × Nat)) (s : Int) (K : Int → zHt → Prop), l = pre ++ suf → K (suf.foldl (fun s q => w64 (s * w64 (zpw q.1 q.2 + 1))) s) H → zgo w (d + 1) 54 4 [zR 36, zL s, zJ, zI pre.length] [] H (zQL K) := by
    intro suf
    induction suf with
    | nil =>
      intro pre s K hl h
      have hc := hL.1
      rw [hl, List.append_nil] at hc
      exact x54_4 ⟨fun _ => h, fun q => by omega⟩
    | cons q suf ih =>
      intro pre s K hl h
      have hc := hL.1
      have hlen : l.length = pre.length + (suf.length + 1) := by rw [hl, List.length_append]; rfl
      have hq := zLst_at (hl ▸ hL)
      have hb := zGood_bd hG (q := q) (by rw [hl]; simp)
      refine x54_4 ⟨fun z => by omega, fun _ => ⟨by omega, ?_⟩⟩
      rw [hq.1, hq.2, c55w (by omega), show w32 ((pre.length : Int) + 1) = ((pre ++ [q]).length : Int) by rw [w32_id (by omega), List.length_append]; simp]
      exact ih (pre ++ [q]) _ K (by rw [hl, zapp_one]) h
  exact zclL_eq fun K h => x54_0 (L l [] 1 K rfl h)
theorem c56 {n : Nat} {l : List (Nat × Nat)} {K : Int → zHt → Prop} (hn : n ≤ 999999999) (hG : zGood n l) (hL : zLst H 36 3 37 38 l) : zclL w d 56 [zR 36] H K = K (l.foldl (fun s q => w64 (s * ((q.1 : Int) + 1))) 1) H := by
  have h9 := zGood_nine hG (by omega)
  have L : ∀ (suf pre : List (Nat × Nat)) (s : Int) (K : Int → zHt → Prop), l = pre ++ suf → K (suf.foldl (fun s q => w64 (s * ((q.1 : Int) + 1))) s) H → zgo w d 56 4 [zR 36, zL s, zJ, zI pre.length] [] H (zQL K) := by
    intro suf
    induction suf with
    | nil =>
      intro pre s K hl h
      have hc := hL.1
      rw [hl, List.append_nil] at hc
      exact x56_4 ⟨fun _ => h, fun q => by omega⟩
    | cons q suf ih =>
      intro pre s K hl h
      have hc := hL.1
      have hlen : l.length = pre.length + (suf.length + 1) := by rw [hl, List.length_append]; rfl
      have hq := zLst_at (hl ▸ hL)
      have hb := zGood_bd hG (q := q) (by rw [hl]; simp)
      refine x56_4 ⟨fun z => by omega, fun _ => ⟨by omega, ?_⟩⟩
      rw [hq.1, show w32 ((q.1 : Int) + 1) = (q.1 : Int) + 1 from w32_id (by omega), show w32 ((pre.length : Int) + 1) = ((pre ++ [q]).length : Int) by rw [w32_id (by omega), List.length_append]; simp]
      exact ih (pre ++ [q]) _ K (by rw [hl, zapp_one]) h
  exact zclL_eq fun K h => x56_0 (L l [] 1 K rfl h)
theorem c57 {n : Nat} {l : List (Nat × Nat)} {K : Int → zHt → Prop} (hn : n ≤ 999999999) (hG : zGood n l) (hL : zLst H 36 3 37 38 l) : zclI w d 57 [zR 36] H K = K (if ∀ q ∈ l, q.2 ≤ 1 then 1 else 0) H := by
  have h9 := zGood_nine hG (by omega)
  have L : ∀ (suf pre : List (Nat × Nat)) (K : Int → zHt → Prop), l = pre ++ suf → K (if ∀ q ∈ suf, q.2 ≤ 1 then 1 else 0) H → zgo w d 57 2 [zR 36, zI pre.length] [] H (zQI K) := by
    intro suf
    induction suf with
    | nil =>
      intro pre K hl h
      have hc := hL.1
      rw [hl, List.append_nil] at hc
      exact x57_2 ⟨fun _ => by simpa using h, fun q => by omega⟩
    | cons q suf ih =>
      intro pre K hl h
      have hc := hL.1
      have hlen : l.length = pre.length + (suf.length + 1) := by rw [hl, List.length_append]; rfl
      have hq := zLst_at (hl ▸ hL)
      refine x57_2 ⟨fun z => by omega, fun _ => ⟨by omega, fun z => ?_, fun z => ?_⟩⟩
      · rw [show w32 ((pre.length : Int) + 1) = ((pre ++ [q]).length : Int) by rw [w32_id (by omega), List.length_append]; simp]
        refine ih (pre ++ [q]) K (by rw [hl, zapp_one]) ?_
        have hq1 : q.2 ≤ 1 := by omega
        by_cases z2 : ∀ r ∈ suf, r.2 ≤ 1
        · rw [if_pos z2]
          rwa [if_pos (fun r hr => by
            rcases List.mem_cons.mp hr with y | y
            · rw [y]; exact hq1
            · exact z2 r y)] at h
        · rw [if_neg z2]
          rwa [if_neg (fun y => z2 (fun r hr => y r (List.mem_cons_of_mem _ hr)))] at h
      · have hq1 : ¬ q.2 ≤ 1 := by omega
        rwa [if_neg (fun y => hq1 (y q List.mem_cons_self))] at h
  exact zclI_eq fun K h => x57_0 (L l [] K rfl h)
end M26
