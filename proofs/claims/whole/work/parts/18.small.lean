/-! first contracts: small methods -/
theorem w32_id {x : Int} (h : -2147483648 ≤ x ∧ x ≤ 2147483647) : w32 x = x := by rw [w32_eq]; exact z32 h
theorem w64_id {x : Int} (h : -9223372036854775808 ≤ x ∧ x ≤ 9223372036854775807) : w64 x = x := by rw [w64_eq]; exact z64 h
theorem ztmod (x y : Nat) : Int.tmod (x : Int) (y : Int) = ((x % y : Nat) : Int) := rfl
theorem ztdiv (x y : Nat) : Int.tdiv (x : Int) (y : Int) = ((x / y : Nat) : Int) := rfl
section C1
variable {w : zWt} {d : Nat} {H : zHt} {K : Int → zHt → Prop}
theorem c9 : zclI w d 9 [zR 32] H K = K (H 32 14) H := zclI_eq fun _ h => x9_0 h
theorem c13 {a : Int} : zclI w d 13 [zR 32, zI a] H K = K (-1) (zup H 32 14 a) := zclI_eq fun _ h => x13_0 h
theorem c39 {a : Int} : zclI w d 39 [zR 32, zI a] H K = K a (zup H 32 14 0) := zclI_eq fun _ h => x39_0 h
theorem c60 {a : Int} : zclL w d 60 [zR 32, zL a] H K = K a (zup H 32 14 0) := zclL_eq fun _ h => x60_0 h
theorem c171 : zclI w d 171 [zR 81] H K = K (H 81 0) (zup H 81 1 0) := zclI_eq fun _ h => x171_0 h
theorem c178 {a : Int} : zclI w d 178 [zR 81, zI a] H K = K (-1) (zup H 81 0 a) := zclI_eq fun _ h => x178_0 h
theorem c43 {n : Int} : zclI w d 43 [zI n] H K = K (if 1 ≤ n ∧ n ≤ 999999999 then 1 else 0) H := zclI_eq fun K h => x43_0 ⟨fun q => by rwa [if_neg (by omega)] at h, fun q => ⟨fun q2 => by rwa [if_neg (by omega)] at h, fun q2 => by rwa [if_pos (by omega)] at h⟩⟩
theorem c44 {a b : Int} : zclI w d 44 [zI a, zI b] H K = K (if 0 ≤ a ∧ a ≤ b then 1 else 0) H := zclI_eq fun K h => x44_0 ⟨fun q => by rwa [if_neg (by omega)] at h, fun q => ⟨fun q2 => by rwa [if_neg (by omega)] at h, fun q2 => by rwa [if_pos (by omega)] at h⟩⟩
theorem c173 {v lo hi : Int} : zclI w d 173 [zL v, zL lo, zL hi] H K = K (if lo ≤ v ∧ v ≤ hi then 1 else 0) H := zclI_eq fun K h => x173_0 ⟨fun q => by rwa [if_neg (by omega)] at h, fun q => ⟨fun q2 => by rwa [if_neg (by omega)] at h, fun q2 => by rwa [if_pos (by omega)] at h⟩⟩
theorem c174 {a : Int} : zclI w d 174 [zR 81, zI a] H K = K (if a = 0 then 1 else 0) (zup (zup H 81 1 0) 81 0 a) := zclI_eq fun K h => x174_0 ⟨fun q => by rwa [if_neg q] at h, fun q => by rwa [if_pos q] at h⟩
theorem c176 {n : Int} : zclI w (d + 1) 176 [zI n] H K = K (if 1 ≤ n ∧ n ≤ 999999999 then 1 else 0) H := zclI_eq fun K h => x176_0 (by
  rw [c173]
  refine ⟨?_, h⟩
  split
  · exact Or.inr rfl
  · exact Or.inl rfl)
theorem c40 {a : Int} : zclI w d 40 [zR 32, zI a] H K = K (if a = 0 then H 32 12 else if a = 1 then H 32 13 else -1) H := zclI_eq fun K h => x40_0 ⟨fun q => ⟨fun q2 => by rwa [if_neg q, if_neg q2] at h, fun q2 => by rwa [if_neg q, if_pos q2] at h⟩, fun q => by rwa [if_pos q] at h⟩
theorem c289 {a : Int} : zclI w d 289 [zR 81, zI a] H K = K (if a = 0 then H 81 32 else if a = 1 then H 81 33 else -1) (zup H 81 1 0) := zclI_eq fun K h => x289_0 ⟨fun q => ⟨fun q2 => by rwa [if_neg q, if_neg q2] at h, fun q2 => by rwa [if_neg q, if_pos q2] at h⟩, fun q => by rwa [if_pos q] at h⟩
-- the greatest common divisor, by both
theorem zgcd_step {x y k : Nat} (hyx : y ≤ x) (hy : 0 < y) (h : x * y < 2 ^ (k + 1)) : y * (x % y) < 2 ^ k := by
  have h1 := Nat.div_add_mod x y
  have h2 : y * 1 ≤ y * (x / y) := Nat.mul_le_mul_left y (Nat.div_pos hyx hy)
  have h3 := Nat.mod_lt x hy
  have h4 : (x % y + x % y) * y ≤ x * y := Nat.mul_le_mul_right y (by omega)
  rw [Nat.add_mul] at h4
  rw [Nat.mul_comm y (x % y)]
  rw [Nat.pow_succ] at h
  omega
theorem zgcd_rec (x y : Nat) : Nat.gcd y (x % y) = Nat.gcd x y := by
  rw [Nat.gcd_comm y, ← Nat.gcd_rec, Nat.gcd_comm]
theorem c66l : ∀ (k x y c : Nat), y ≤ x → x * y < 2 ^ k → c + k ≤ 99 → K (if ((Nat.gcd x y : Nat) : Int) < 1 then 1 else ((Nat.gcd x y : Nat) : Int)) H → zgo w d 66 9 [zJ, zJ, zJ, zJ, zL x, zJ, zL y, zJ, zI c, zJ, zJ] [] H (zQL K) := by
  intro k
  induction k with
  | zero =>
    intro x y c hyx hxy hc h
    have hy : y = 0 := by
      rcases Nat.eq_zero_or_pos y with q | q
      · exact q
      · have : 0 < x * y := Nat.mul_pos (by omega) q
        omega
    subst hy
    rw [Nat.gcd_zero_right] at h
    exact x66_9 ⟨fun q => by omega, fun _ => ⟨fun _ => h, fun q => absurd rfl q⟩⟩
  | succ k ih =>
    intro x y c hyx hxy hc h
    rcases Nat.eq_zero_or_pos y with q | q
    · subst q
      rw [Nat.gcd_zero_right] at h
      exact x66_9 ⟨fun q => by omega, fun _ => ⟨fun _ => h, fun q => absurd rfl q⟩⟩
    · refine x66_9 ⟨fun q => by omega, fun _ => ⟨fun q => by omega, fun q2 => ⟨q2, ?_⟩⟩⟩
      have e2 : w32 ((c : Int) + 1) = ((c + 1 : Nat) : Int) := w32_id (by omega)
      rw [ztmod, e2]
      refine ih y (x % y) (c + 1) (Nat.le_of_lt (Nat.mod_lt _ q)) (zgcd_step hyx q hxy) (by omega) ?_
      rw [zgcd_rec]; exact h
theorem c66 {a b : Nat} (ha : a < 2 ^ 48) (hb : b < 2 ^ 48) : zclL w d 66 [zL a, zL b] H K = K (if ((Nat.gcd a b : Nat) : Int) < 1 then 1 else ((Nat.gcd a b : Nat) : Int)) H := zclL_eq fun K h => x66_0 (by
  have hab : ∀ x y : Nat, x < 2 ^ 48 → y < 2 ^ 48 → x * y < 2 ^ 97 := fun x y hx hy => by
    have := Nat.mul_le_mul (Nat.le_of_lt hx) (Nat.le_of_lt hy)
    have e : 2 ^ 48 * 2 ^ 48 < 2 ^ 97 := by decide
    omega
  rcases Nat.lt_or_ge a b with q | q
  · refine x66_9 ⟨fun q => by omega, fun _ => ⟨fun q => by omega, fun q2 => ⟨q2, ?_⟩⟩⟩
    rw [ztmod, Nat.mod_eq_of_lt q]
    refine c66l 97 b a 1 (Nat.le_of_lt q) (hab b a hb ha) (by omega) ?_
    rw [Nat.gcd_comm]; exact h
  · exact c66l 97 a b 0 q (hab a b ha hb) (by omega) h)
theorem c189l : ∀ (y x : Nat), K (Nat.gcd x y : Int) H → zgo w d 189 6 [zJ, zJ, zJ, zJ, zL x, zJ, zL y, zJ, zJ, zJ] [] H (zQL K) := by
  intro y
  induction y using Nat.strongRecOn with
  | ind y ih =>
    intro x h
    rcases Nat.eq_zero_or_pos y with q | q
    · subst q
      rw [Nat.gcd_zero_right] at h
      exact x189_6 ⟨fun _ => h, fun q => absurd rfl q⟩
    · refine x189_6 ⟨fun q => by omega, fun q2 => ⟨q2, ?_⟩⟩
      rw [ztmod]
      refine ih (x % y) (Nat.mod_lt _ q) y ?_
      rw [zgcd_rec]; exact h
theorem c189 {a b : Nat} : zclL w d 189 [zL a, zL b] H K = K (Nat.gcd a b : Int) H := zclL_eq fun K h => x189_0 (c189l b a h)
-- powers
theorem zpow_le {p e n k : Nat} (hp : 1 ≤ p) (h : p ^ e ≤ n) (hk : k ≤ e) : p ^ k ≤ n := Nat.le_trans (Nat.pow_le_pow_right hp hk) h
theorem c55l {p e : Nat} (hp : 1 ≤ p) (hb : p ^ e ≤ 9223372036854775807) (he : e ≤ 2000000000) : ∀ k i : Nat, i + k = e → K ((p ^ e : Nat) : Int) H → zgo w d 55 5 [zI p, zI e, zL ((p ^ i : Nat) : Int), zJ, zI i] [] H (zQL K) := by
  intro k
  induction k with
  | zero =>
    intro i hi h
    have : i = e := by omega
    subst this
    exact x55_5 ⟨fun _ => h, fun q => by omega⟩
  | succ k ih =>
    intro i hi h
    refine x55_5 ⟨fun q => by omega, fun _ => ?_⟩
    have e1 : w64 (((p ^ i : Nat) : Int) * (p : Int)) = ((p ^ (i + 1) : Nat) : Int) := by
      rw [← Int.natCast_mul, show p ^ i * p = p ^ (i + 1) from rfl]
      exact w64_id (by have := zpow_le hp hb (k := i + 1) (by omega); omega)
    have e2 : w32 ((i : Int) + 1) = ((i + 1 : Nat) : Int) := w32_id (by omega)
    rw [e1, e2]
    exact ih (i + 1) (by omega) h
theorem c55 {p e : Nat} (hp : 1 ≤ p) (hb : p ^ e ≤ 9223372036854775807) (he : e ≤ 2000000000) : zclL w d 55 [zI p, zI e] H K = K ((p ^ e : Nat) : Int) H := zclL_eq fun K h => x55_0 (c55l hp hb he e 0 (by omega) h)
theorem c184l {p e : Nat} (hp : 1 ≤ p) (hb : p ^ e ≤ 9223372036854775807) (he : e ≤ 2000000000) : ∀ k i : Nat, i + k = e → K ((p ^ e : Nat) : Int) H → zgo w d 184 5 [zI p, zI e, zL ((p ^ i : Nat) : Int), zJ, zI i] [] H (zQL K) := by
  intro k
  induction k with
  | zero =>
    intro i hi h
    have : i = e := by omega
    subst this
    exact x184_5 ⟨fun _ => h, fun q => by omega⟩
  | succ k ih =>
    intro i hi h
    refine x184_5 ⟨fun q => by omega, fun _ => ?_⟩
    have e1 : w64 (((p ^ i : Nat) : Int) * (p : Int)) = ((p ^ (i + 1) : Nat) : Int) := by
      rw [← Int.natCast_mul, show p ^ i * p = p ^ (i + 1) from rfl]
      exact w64_id (by have := zpow_le hp hb (k := i + 1) (by omega); omega)
    have e2 : w32 ((i : Int) + 1) = ((i + 1 : Nat) : Int) := w32_id (by omega)
    rw [e1, e2]
    exact ih (i + 1) (by omega) h
theorem c184 {p e : Nat} (hp : 1 ≤ p) (hb : p ^ e ≤ 9223372036854775807) (he : e ≤ 2000000000) : zclL w d 184 [zI p, zI e] H K = K ((p ^ e : Nat) : Int) H := zclL_eq fun K h => x184_0 (c184l hp hb he e 0 (by omega) h)
end C1
