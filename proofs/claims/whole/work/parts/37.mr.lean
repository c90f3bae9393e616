/-! the three bases: no product of two primes from 1009 on passes 2, 7 and 61 -/
theorem mr_mul {a b n : Nat} (c : Nat) (h : a % n = b % n) : (a * c) % n = (b * c) % n := by
  rw [Nat.mul_mod, h, ← Nat.mul_mod]
theorem mr_pow {a b n : Nat} (k : Nat) (h : a % n = b % n) : a ^ k % n = b ^ k % n := by
  rw [Nat.pow_mod, h, ← Nat.pow_mod]
theorem mr_dvd {a b n m : Nat} (hm : m ∣ n) (h : a % n = b % n) : a % m = b % m := by
  rw [← Nat.mod_mod_of_dvd a hm, h, Nat.mod_mod_of_dvd b hm]
theorem mr_neg {n x : Nat} (hn : 2 ≤ n) (h : x % n = n - 1) : x ^ 2 % n = 1 := by
  obtain ⟨m, rfl⟩ : ∃ m, n = m + 2 := ⟨n - 2, by omega⟩
  rw [Nat.pow_mod, h, show m + 2 - 1 = m + 1 by omega, show (m + 1) ^ 2 = (m + 2) * m + 1 by rw [Nat.pow_two]; simp only [Nat.add_mul, Nat.mul_add]; omega, Nat.mul_add_mod, Nat.mod_eq_of_lt (by omega)]
theorem zhalf_eq : ∀ (f o h : Nat), o < 2 ^ f → (zhalf f o h).1 * 2 ^ (zhalf f o h).2 = o * 2 ^ h ∧ h ≤ (zhalf f o h).2 ∧ (1 < o → o % 2 = 0 → h < (zhalf f o h).2)
  | 0, o, h, ho => by
    have : o = 0 := by omega
    subst this
    exact ⟨rfl, Nat.le_refl _, fun q => by omega⟩
  | f + 1, o, h, ho => by
    unfold zhalf
    by_cases hc : 1 < o ∧ o % 2 = 0
    · rw [if_pos hc]
      rw [Nat.pow_succ] at ho
      obtain ⟨a1, a2, a3⟩ := zhalf_eq f (o / 2) (h + 1) (by omega)
      refine ⟨?_, by omega, fun _ _ => by omega⟩
      rw [a1, Nat.pow_succ, Nat.mul_comm (2 ^ h) 2, ← Nat.mul_assoc, Nat.div_mul_cancel (Nat.dvd_of_mod_eq_zero hc.2)]
    · rw [if_neg hc]
      exact ⟨rfl, Nat.le_refl _, fun q1 q2 => absurd ⟨q1, q2⟩ hc⟩
theorem zsqs_one {n : Nat} (hn : 2 ≤ n) : ∀ (k pw : Nat), zsqs n k pw ≠ 0 → ∃ i, i ≤ k ∧ 1 ≤ i ∧ pw ^ (2 ^ i) % n = n - 1
  | 0, _, h => absurd rfl h
  | k + 1, pw, h => by
    unfold zsqs at h
    by_cases hc : pw * pw % n = n - 1
    · exact ⟨1, by omega, by omega, by rw [Nat.pow_one, Nat.pow_two]; exact hc⟩
    · rw [if_neg hc] at h
      obtain ⟨i, h1, h2, h3⟩ := zsqs_one hn k _ h
      refine ⟨i + 1, by omega, by omega, ?_⟩
      rw [← Nat.pow_mod, ← Nat.pow_two, ← Nat.pow_mul] at h3
      rw [Nat.pow_succ, Nat.mul_comm]; exact h3
theorem mr_one {n x k : Nat} (hn : 2 ≤ n) (h : x % n = 1) : x ^ k % n = 1 := by
  rw [Nat.pow_mod, h, Nat.one_pow, Nat.mod_eq_of_lt (by omega)]
/-- who passes is as by Fermat -/
theorem zpass_one {n b : Nat} (hn : 3 ≤ n) (ho : n % 2 = 1) (hb : n < 2 ^ 30) (h : zpass n b ≠ 0) : b ^ (n - 1) % n = 1 := by
  unfold zpass at h
  obtain ⟨a1, a2, a3⟩ := zhalf_eq 30 (n - 1) 0 (by omega)
  have a3 := a3 (by omega) (by omega)
  rw [Nat.pow_zero, Nat.mul_one] at a1
  generalize (zhalf 30 (n - 1) 0).1 = o at *
  generalize (zhalf 30 (n - 1) 0).2 = s at *
  rw [← a1, Nat.pow_mul]
  unfold zpass2 at h
  have up : ∀ i, i < s → (b ^ o) ^ (2 ^ i) % n = n - 1 → (b ^ o) ^ (2 ^ s) % n = 1 := fun i hi q => by
    have e : 2 ^ s = 2 ^ i * 2 * 2 ^ (s - i - 1) := by rw [← Nat.pow_succ, ← Nat.pow_add]; congr 1; omega
    rw [e, Nat.pow_mul, Nat.pow_mul]
    exact mr_one (by omega) (mr_neg (by omega) q)
  by_cases h1 : b ^ o % n = 1
  · exact mr_one (by omega) h1
  · rw [if_neg h1] at h
    by_cases h2 : b ^ o % n = n - 1
    · exact up 0 a3 (by rw [Nat.pow_zero, Nat.pow_one]; exact h2)
    · rw [if_neg h2] at h
      obtain ⟨i, q1, q2, q3⟩ := zsqs_one (by omega) _ _ h
      refine up i (by omega) ?_
      rw [← Nat.pow_mod] at q3; exact q3
theorem mr_gcd {b p : Nat} (hp : 2 ≤ p) : ∀ (m k : Nat), b ^ m % p = 1 → b ^ k % p = 1 → b ^ (Nat.gcd m k) % p = 1 := by
  intro m
  induction m using Nat.strongRecOn with
  | ind m ih =>
    intro k h1 h2
    rcases Nat.eq_zero_or_pos m with z | z
    · subst z; rw [Nat.gcd_zero_left]; exact h2
    · rw [Nat.gcd_rec]
      refine ih (k % m) (Nat.mod_lt _ z) m ?_ h1
      have e := Nat.div_add_mod k m
      have : b ^ k = (b ^ m) ^ (k / m) * b ^ (k % m) := by rw [← Nat.pow_mul, ← Nat.pow_add, e]
      rw [this, Nat.mul_mod, mr_one hp h1, Nat.one_mul, Nat.mod_mod] at h2
      exact h2
-- computing
noncomputable def mr_all (f : Nat → Bool) (n : Nat) : Bool := Nat.rec true (fun k ih => and (f k) ih) n
theorem mr_at {f : Nat → Bool} : ∀ {n : Nat}, mr_all f n = true → ∀ k, k < n → f k = true
  | 0, _, k, hk => by omega
  | n + 1, h, k, hk => by
    have h2 : and (f n) (mr_all f n) = true := h
    rw [Bool.and_eq_true] at h2
    rcases Nat.eq_or_lt_of_le (Nat.le_of_lt_succ hk) with z | z
    · subst z; exact h2.1
    · exact mr_at h2.2 k z
noncomputable def mr_pm (n f : Nat) : Nat → Nat → Nat → Nat := Nat.rec (fun pw _ _ => pw) (fun _ ih pw sq e => bif Nat.beq e 0 then pw else ih (bif Nat.beq (e % 2) 1 then pw * sq % n else pw) (sq * sq % n) (e / 2)) f
theorem mr_pm_eq {n : Nat} : ∀ (f pw sq e : Nat), pw < n → e < 2 ^ f → mr_pm n f pw sq e = pw * sq ^ e % n
  | 0, pw, sq, e, h, he => by
    have : e = 0 := by omega
    subst this
    show pw = _
    rw [Nat.pow_zero, Nat.mul_one, Nat.mod_eq_of_lt h]
  | f + 1, pw, sq, e, h, he => by
    show (bif Nat.beq e 0 then pw else mr_pm n f (bif Nat.beq (e % 2) 1 then pw * sq % n else pw) (sq * sq % n) (e / 2)) = _
    rw [Nat.pow_succ] at he
    have hn : 0 < n := by omega
    have d := Nat.div_add_mod e 2
    have sq2 : ∀ k, (sq * sq % n) ^ k % n = sq ^ (2 * k) % n := fun k => by rw [← Nat.pow_mod, ← Nat.pow_two, ← Nat.pow_mul]
    cases hz : Nat.beq e 0 with
    | true =>
      have : e = 0 := Nat.eq_of_beq_eq_true hz
      subst this
      rw [Nat.pow_zero, Nat.mul_one, Nat.mod_eq_of_lt h]; rfl
    | false =>
      cases ho : Nat.beq (e % 2) 1 with
      | true =>
        have e1 : e % 2 = 1 := Nat.eq_of_beq_eq_true ho
        show mr_pm n f (pw * sq % n) (sq * sq % n) (e / 2) = _
        rw [mr_pm_eq f _ _ _ (Nat.mod_lt _ hn) (by omega), Nat.mul_mod, sq2, ← Nat.mul_mod, zmodB]
        rw [Nat.mul_assoc, show sq * sq ^ (2 * (e / 2)) = sq ^ e by rw [Nat.mul_comm, ← Nat.pow_succ]; congr 1; omega]
      | false =>
        have e1 : e % 2 ≠ 1 := Nat.ne_of_beq_eq_false ho
        show mr_pm n f pw (sq * sq % n) (e / 2) = _
        rw [mr_pm_eq f _ _ _ h (by omega), Nat.mul_mod, sq2, ← Nat.mul_mod, show 2 * (e / 2) = e by omega]
noncomputable def mr_ps (n b : Nat) : Int := zpass2 n (mr_pm n 30 1 b (zhalf 30 (n - 1) 0).1) (zhalf 30 (n - 1) 0).2
theorem mr_ps_eq {n b : Nat} (hn : 2 ≤ n) (h : n < 2 ^ 30) : mr_ps n b = zpass n b := by
  obtain ⟨a1, -, -⟩ := zhalf_eq 30 (n - 1) 0 (by omega)
  rw [Nat.pow_zero, Nat.mul_one] at a1
  have hlt : (zhalf 30 (n - 1) 0).1 < 2 ^ 30 := by
    have : (zhalf 30 (n - 1) 0).1 ≤ (zhalf 30 (n - 1) 0).1 * 2 ^ (zhalf 30 (n - 1) 0).2 := Nat.le_mul_of_pos_right _ (Nat.pow_pos (by decide))
    omega
  unfold mr_ps zpass
  rw [mr_pm_eq _ _ _ _ (by omega) hlt, Nat.one_mul]
/-- p times q is no such number: by 2, modulo q; else by the bases themselves -/
noncomputable def mr_out (p q : Nat) : Bool := or (Nat.blt q p) (or (not (Nat.beq (((((2 ^ p % q) ^ 1024 % q) ^ (q / 1024) % q) * ((2 ^ p % q) ^ (q % 1024) % q)) % q) (2 % q))) (or (decide (mr_ps (p * q) 2 = 0)) (or (decide (mr_ps (p * q) 7 = 0)) (decide (mr_ps (p * q) 61 = 0)))))
theorem mr_out_eq {p q : Nat} (hp : 1009 ≤ p) (hpq : p ≤ q) (hn : p * q ≤ 999999999) (ho : p * q % 2 = 1) (h2 : zpass (p * q) 2 ≠ 0) (h7 : zpass (p * q) 7 ≠ 0) (h61 : zpass (p * q) 61 ≠ 0) : mr_out p q = false := by
  have hb : p * q < 2 ^ 30 := by
    have : (2 : Nat) ^ 30 = 1073741824 := by decide
    omega
  have h3 : 3 ≤ p * q := by
    have := Nat.mul_le_mul hp (show 1 ≤ q by omega)
    omega
  have f2 := zpass_one h3 ho hb h2
  have e1 : (2 ^ p) ^ q % q = 2 % q := by
    rw [← Nat.pow_mul]
    have : 2 ^ (p * q) % (p * q) = 2 % (p * q) := by
      have e : 2 ^ (p * q) = 2 ^ (p * q - 1) * 2 := by rw [← Nat.pow_succ]; congr 1; omega
      rw [e, Nat.mul_mod, f2, Nat.one_mul, Nat.mod_mod]
    exact mr_dvd (Nat.dvd_mul_left q p) this
  have e2 : (((((2 ^ p % q) ^ 1024 % q) ^ (q / 1024) % q) * ((2 ^ p % q) ^ (q % 1024) % q)) % q) = 2 % q := by
    rw [← Nat.pow_mod, ← Nat.mul_mod, ← Nat.pow_mul, ← Nat.pow_add, Nat.div_add_mod, ← Nat.pow_mod]
    exact e1
  unfold mr_out
  rw [mr_ps_eq (by omega) hb, mr_ps_eq (by omega) hb, mr_ps_eq (by omega) hb, e2]
  have b1 : Nat.blt q p = false := by
    cases hc : Nat.blt q p with
    | false => rfl
    | true => have := Nat.le_of_ble_eq_true hc; omega
  rw [b1, decide_eq_false h2, decide_eq_false h7, decide_eq_false h61, Nat.beq_refl]
  rfl
/-- d may be what q less 1 has in common with p less 1 -/
noncomputable def mr_d (p d : Nat) : Bool := or (not (and (Nat.beq (2 ^ d % p) 1) (and (Nat.beq (7 ^ d % p) 1) (Nat.beq (61 ^ d % p) 1)))) (mr_all (fun k => mr_out p ((k + 1) * d + 1)) ((999999999 / p - 1) / d))
noncomputable def mr_e (p e : Nat) : Bool := or (not (Nat.beq ((p - 1) % e) 0)) (and (mr_d p e) (mr_d p ((p - 1) / e)))
def mr_l : List Nat := [3, 5, 7, 11, 13, 17, 19, 23, 29, 31, 37, 41, 43, 47, 53, 59, 61, 67, 71, 73, 79, 83, 89, 97, 101, 103, 107, 109, 113, 127, 131, 137, 139, 149, 151, 157, 163, 167, 173]
noncomputable def mr_p (p : Nat) : Bool := or (not (Nat.beq (Nat.gcd p 83294951893662609690425847675448128125490254797437431023480841994855) 1)) (and (Nat.beq (2 ^ (p - 1) % p) 1) (and (Nat.beq (7 ^ (p - 1) % p) 1) (and (Nat.beq (61 ^ (p - 1) % p) 1) (mr_all (fun e => mr_e p (e + 1)) 177))))
theorem mr_cop {p : Nat} : ∀ (l : List Nat), (∀ s ∈ l, Nat.Coprime s p) → Nat.Coprime (zmul l) p
  | [], _ => Nat.coprime_one_left p
  | s :: l, h => Nat.Coprime.mul_left (h s List.mem_cons_self) (mr_cop l fun t ht => h t (List.mem_cons_of_mem _ ht))
theorem mr_gcd1 {p : Nat} (hf : zfree 1009 p) : Nat.gcd p (zmul mr_l) = 1 := by
  rw [Nat.gcd_comm]
  refine mr_cop mr_l fun s hs => ?_
  have hb : 1 ≤ s ∧ s ≤ 173 := by
    have : mr_l.all (fun s => decide (1 ≤ s ∧ s ≤ 173)) = true := by decide +kernel
    exact of_decide_eq_true (List.all_eq_true.mp this s hs)
  have h1 := Nat.le_of_dvd (by omega) (Nat.gcd_dvd_left s p)
  have h0 : 0 < Nat.gcd s p := Nat.gcd_pos_of_pos_left _ (by omega)
  rcases Nat.lt_or_ge (Nat.gcd s p) 2 with z | z
  · show Nat.gcd s p = 1
    omega
  · exact absurd (Nat.gcd_dvd_right s p) (hf _ z (by omega))
theorem mr_sound {p q : Nat} (hp : 1009 ≤ p) (hp2 : p ≤ 31622) (hpq : p ≤ q) (hn : p * q ≤ 999999999) (ho : p * q % 2 = 1) (hf : zfree 1009 p) (h2 : zpass (p * q) 2 ≠ 0) (h7 : zpass (p * q) 7 ≠ 0) (h61 : zpass (p * q) 61 ≠ 0) (hc : mr_p p = true) : False := by
  have hb : p * q < 2 ^ 30 := by
    have : (2 : Nat) ^ 30 = 1073741824 := by decide
    omega
  have h3 : 3 ≤ p * q := by
    have := Nat.mul_le_mul hp (show 1 ≤ q by omega)
    omega
  have hout := mr_out_eq hp hpq hn ho h2 h7 h61
  have g := mr_gcd1 hf
  rw [show zmul mr_l = 83294951893662609690425847675448128125490254797437431023480841994855 by decide +kernel] at g
  unfold mr_p at hc
  rw [g] at hc
  simp only [Nat.beq_refl, Bool.not_true, Bool.false_or, Bool.and_eq_true] at hc
  obtain ⟨c2, c7, c61, hc⟩ := hc
  have c2 := Nat.eq_of_beq_eq_true c2
  have c7 := Nat.eq_of_beq_eq_true c7
  have c61 := Nat.eq_of_beq_eq_true c61
  have down : ∀ b, zpass (p * q) b ≠ 0 → b ^ (p - 1) % p = 1 → b ^ (Nat.gcd (q - 1) (p - 1)) % p = 1 := fun b hz hb1 => by
    have f := zpass_one h3 ho hb hz
    have f : b ^ (p * q - 1) % p = 1 := by
      have := mr_dvd (Nat.dvd_mul_right p q) (show b ^ (p * q - 1) % (p * q) = 1 % (p * q) by rw [f, Nat.mod_eq_of_lt (by omega)])
      rw [this, Nat.mod_eq_of_lt (by omega)]
    refine mr_gcd (by omega) _ _ ?_ hb1
    have e : p * q - 1 = (p - 1) * q + (q - 1) := by
      obtain ⟨m, rfl⟩ : ∃ m, p = m + 1 := ⟨p - 1, by omega⟩
      rw [Nat.add_mul, Nat.one_mul, Nat.add_sub_cancel]
      omega
    rw [e, Nat.pow_add, Nat.pow_mul, Nat.mul_mod, mr_one (by omega) hb1, Nat.one_mul, Nat.mod_mod] at f
    exact f
  have d2 := down 2 h2 c2
  have d7 := down 7 h7 c7
  have d61 := down 61 h61 c61
  have hd1 := Nat.gcd_dvd_left (q - 1) (p - 1)
  have hd2 := Nat.gcd_dvd_right (q - 1) (p - 1)
  have hd0 : 0 < Nat.gcd (q - 1) (p - 1) := Nat.gcd_pos_of_pos_right _ (by omega)
  generalize Nat.gcd (q - 1) (p - 1) = d at *
  obtain ⟨e, he⟩ := hd2
  obtain ⟨k, hk⟩ := hd1
  have he0 : 0 < e := by
    rcases Nat.eq_zero_or_pos e with z | z
    · subst z; omega
    · exact z
  have fin : mr_d p d = true → False := fun hd => by
    unfold mr_d at hd
    rw [d2, d7, d61] at hd
    simp only [Nat.beq_refl, Bool.and_self, Bool.not_true, Bool.false_or] at hd
    have hk1 : 1 ≤ k := by
      rcases Nat.eq_zero_or_pos k with z | z
      · subst z; omega
      · exact z
    have hq : q ≤ 999999999 / p := (Nat.le_div_iff_mul_le (by omega)).mpr (by rw [Nat.mul_comm]; exact hn)
    have hkd : k ≤ (999999999 / p - 1) / d := (Nat.le_div_iff_mul_le hd0).mpr (by rw [Nat.mul_comm]; omega)
    have := mr_at hd (k - 1) (by omega)
    rw [show k - 1 + 1 = k by omega, Nat.mul_comm k d, show d * k + 1 = q by omega, hout] at this
    cases this
  have hsm : d ≤ 177 ∨ e ≤ 177 := by
    rcases Nat.lt_or_ge 177 d with z | z
    · rcases Nat.lt_or_ge 177 e with y | y
      · have := Nat.mul_le_mul (show 178 ≤ d from z) (show 178 ≤ e from y)
        omega
      · exact Or.inr y
    · exact Or.inl z
  rcases hsm with z | z
  · have := mr_at hc (d - 1) (by omega)
    rw [show d - 1 + 1 = d by omega] at this
    unfold mr_e at this
    rw [he, Nat.mul_mod_right] at this
    simp only [Nat.beq_refl, Bool.not_true, Bool.false_or, Bool.and_eq_true] at this
    exact fin this.1
  · have := mr_at hc (e - 1) (by omega)
    rw [show e - 1 + 1 = e by omega] at this
    unfold mr_e at this
    rw [he, Nat.mul_mod_left] at this
    simp only [Nat.beq_refl, Bool.not_true, Bool.false_or, Bool.and_eq_true] at this
    have := this.2
    rw [Nat.mul_div_cancel _ he0] at this
    exact fin this
