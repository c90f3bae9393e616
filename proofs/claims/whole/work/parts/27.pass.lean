/-! powers modulo n, and a number's passing -/
def zsqs (n : Nat) : Nat → Nat → Int
  | 0, _ => 0
  | k + 1, pw => if pw * pw % n = n - 1 then 1 else zsqs n k (pw * pw % n)
def zpass2 (n pw h : Nat) : Int := if pw = 1 then 1 else if pw = n - 1 then 1 else zsqs n (h - 1) pw
def zhalf : Nat → Nat → Nat → Nat × Nat
  | 0, o, h => (o, h)
  | f + 1, o, h => if 1 < o ∧ o % 2 = 0 then zhalf f (o / 2) (h + 1) else (o, h)
def zpass (n b : Nat) : Int := zpass2 n (b ^ (zhalf 30 (n - 1) 0).1 % n) (zhalf 30 (n - 1) 0).2
theorem zmodA (a b k n : Nat) : (a * (b % n) ^ k) % n = (a * b ^ k) % n := by
  rw [Nat.mul_mod, ← Nat.pow_mod, ← Nat.mul_mod]
theorem zmodB (a c n : Nat) : ((a % n) * c) % n = (a * c) % n := by
  rw [Nat.mul_mod, Nat.mod_mod, ← Nat.mul_mod]
theorem zsq_pow (s m : Nat) : (s * s) ^ m = s ^ (m + m) := by rw [Nat.mul_pow, ← Nat.pow_add]
section M27
variable {w : zWt} {d : Nat} {H : zHt} {n : Nat}
theorem zw_mul {a b : Nat} (hn : n ≤ 999999999) (ha : a < n) (hb : b < n) : w64 ((a : Int) * (b : Int)) = ((a * b : Nat) : Int) := by
  rw [← Int.natCast_mul]
  exact w64_id (by have := Nat.mul_le_mul (show a ≤ 999999999 by omega) (show b ≤ 999999999 by omega); omega)
theorem c49l (hn : n ≤ 999999999) : ∀ (left pw sq : Nat) (K : Int → zHt → Prop), pw < n → sq < n → left ≤ 2000000000 → K ((pw * sq ^ left % n : Nat) : Int) H → zgo w d 49 9 [zJ, zJ, zI n, zL pw, zJ, zL sq, zJ, zI left] [] H (zQL K) := by
  intro left
  induction left using Nat.strongRecOn with
  | ind left ih =>
    intro pw sq K hp hs hl h
    have e2 : Int.tmod (left : Int) 2 = ((left % 2 : Nat) : Int) := rfl
    have e3 : w32 (Int.tdiv (left : Int) 2) = ((left / 2 : Nat) : Int) := w32_id (show -2147483648 ≤ ((left / 2 : Nat) : Int) ∧ ((left / 2 : Nat) : Int) ≤ 2147483647 by omega)
    refine x49_9 ⟨fun q => ?_, fun q => ⟨fun q2 => by omega, fun _ => ⟨fun q2 => ⟨by omega, ?_⟩, fun q2 => ⟨by omega, ?_⟩⟩⟩⟩
    · have : left = 0 := by omega
      subst this
      rw [Nat.pow_zero, Nat.mul_one, Nat.mod_eq_of_lt hp] at h
      exact h
    · rw [e2] at q2
      rw [e3, zw_mul hn hs hs, ztmod]
      refine ih (left / 2) (by omega) pw (sq * sq % n) K hp (Nat.mod_lt _ (by omega)) (by omega) ?_
      rw [zmodA, zsq_pow, show left / 2 + left / 2 = left by omega]
      exact h
    · rw [e2] at q2
      rw [e3, zw_mul hn hs hs, zw_mul hn hp hs, ztmod, ztmod]
      refine ih (left / 2) (by omega) (pw * sq % n) (sq * sq % n) K (Nat.mod_lt _ (by omega)) (Nat.mod_lt _ (by omega)) (by omega) ?_
      rw [zmodA, zmodB, zsq_pow, Nat.mul_assoc, Nat.mul_comm sq, ← Nat.pow_succ, show (left / 2 + left / 2).succ = left by omega]
      exact h
theorem c49 {b e : Nat} {K : Int → zHt → Prop} (h2 : 2 ≤ n) (hn : n ≤ 999999999) (hb : b < n) (he : e ≤ 2000000000) : zclL w d 49 [zI b, zI e, zI n] H K = K ((b ^ e % n : Nat) : Int) H :=
  zclL_eq fun K h => x49_0 (c49l hn e 1 b K (by omega) hb he (by rw [Nat.one_mul]; exact h))
theorem c48s (h2 : 2 ≤ n) (hn : n ≤ 999999999) : ∀ (k i hv pw : Nat) (K : Int → zHt → Prop), i + k = hv → hv ≤ 200 → pw < n → K (zsqs n k pw) H → zgo w (d + 1) 48 57 [zI n, zJ, zJ, zI hv, zL pw, zJ, zI i] [] H (zQI K) := by
  intro k
  induction k with
  | zero =>
    intro i hv pw K hi hh hp h
    exact x48_57 ⟨fun _ => h, fun q => by omega⟩
  | succ k ih =>
    intro i hv pw K hi hh hp h
    have e1 : w32 ((n : Int) - 1) = ((n - 1 : Nat) : Int) := by rw [w32_id (by omega)]; omega
    unfold zsqs at h
    refine x48_57 ⟨fun q => by omega, fun _ => ⟨fun q => by omega, fun _ => ⟨by omega, fun q => ?_, fun q => ?_⟩⟩⟩
    · rw [zw_mul hn hp hp, ztmod, e1] at q
      rw [zw_mul hn hp hp, ztmod, show w32 ((i : Int) + 1) = ((i + 1 : Nat) : Int) from w32_id (by omega)]
      rw [if_neg (by omega)] at h
      exact ih (i + 1) hv _ K (by omega) hh (Nat.mod_lt _ (by omega)) h
    · rw [zw_mul hn hp hp, ztmod, e1] at q
      rwa [if_pos (by omega)] at h
theorem c48f {b odd hv : Nat} {K : Int → zHt → Prop} (h2 : 2 ≤ n) (hn : n ≤ 999999999) (hb : b < n) (ho : odd ≤ 2000000000) (hh : hv ≤ 200) (h : K (zpass2 n (b ^ odd % n) hv) H) : zclL w d 49 [zI b, zI odd, zI n] H (fun x3 H2 => (x3 = 1 → K 1 H2) ∧ (¬ x3 = 1 → (¬ x3 = (w32 ((n : Int) - 1)) → zgo w (d + 1) 48 57 [zI n, zJ, zJ, zI hv, zL x3, zJ, zI 1] [] H2 (zQI K)) ∧ (x3 = (w32 ((n : Int) - 1)) → K 1 H2))) := by
  have e1 : w32 ((n : Int) - 1) = ((n - 1 : Nat) : Int) := by rw [w32_id (by omega)]; omega
  rw [c49 h2 hn hb ho, e1]
  unfold zpass2 at h
  refine ⟨fun q => by rwa [if_pos (by omega)] at h, fun q => ⟨fun q2 => ?_, fun q2 => by rwa [if_neg (by omega), if_pos (by omega)] at h⟩⟩
  rw [if_neg (by omega), if_neg (by omega)] at h
  rcases Nat.eq_zero_or_pos hv with z | z
  · subst z
    exact x48_57 ⟨fun _ => h, fun q => by omega⟩
  · exact c48s h2 hn (hv - 1) 1 hv _ K (by omega) hh (Nat.mod_lt _ (by omega)) h
theorem c48l {b : Nat} (h2 : 2 ≤ n) (hn : n ≤ 999999999) (hb : b < n) : ∀ (f odd hv : Nat) (K : Int → zHt → Prop), odd < 2 ^ f → 1 ≤ odd → odd ≤ 2000000000 → hv + f ≤ 100 → K (zpass2 n (b ^ (zhalf f odd hv).1 % n) (zhalf f odd hv).2) H → zgo w (d + 1) 48 6 [zI n, zI b, zI odd, zI hv, zJ, zJ, zJ] [] H (zQI K) := by
  intro f
  induction f with
  | zero => intro odd hv K h1 h3; omega
  | succ f ih =>
    intro odd hv K h1 h3 h4 hh h
    have e2 : Int.tmod (odd : Int) 2 = ((odd % 2 : Nat) : Int) := rfl
    have e3 : w32 (Int.tdiv (odd : Int) 2) = ((odd / 2 : Nat) : Int) := w32_id (show -2147483648 ≤ ((odd / 2 : Nat) : Int) ∧ ((odd / 2 : Nat) : Int) ≤ 2147483647 by omega)
    unfold zhalf at h
    refine x48_6 ⟨fun q => ?_, fun q => ⟨fun q2 => ?_, fun q2 => ?_⟩⟩
    · rw [if_neg (by omega)] at h
      exact c48f h2 hn hb h4 (by omega) h
    · rw [e2] at q2
      rw [if_neg (by omega)] at h
      exact c48f h2 hn hb h4 (by omega) h
    · rw [e2] at q2
      rw [if_pos (by omega)] at h
      rw [e3, show w32 ((hv : Int) + 1) = ((hv + 1 : Nat) : Int) from w32_id (by omega)]
      rw [Nat.pow_succ] at h1
      exact ih (odd / 2) (hv + 1) K (by omega) (by omega) (by omega) (by omega) h
theorem c48 {b : Nat} {K : Int → zHt → Prop} (h2 : 2 ≤ n) (hn : n ≤ 999999999) (hb : b < n) : zclI w (d + 1) 48 [zI n, zI b] H K = K (zpass n b) H :=
  zclI_eq fun K h => x48_0 (by
    rw [show w32 ((n : Int) - 1) = ((n - 1 : Nat) : Int) by rw [w32_id (by omega)]; omega]
    refine c48l h2 hn hb 30 (n - 1) 0 K ?_ (by omega) (by omega) (by omega) h
    have e : 2 ^ 30 = 1073741824 := by decide
    omega)
end M27
