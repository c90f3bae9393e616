/-! texts: what is written, and how long it is -/
def zwr (A P J x : Int) (H : zHt) : zHt := zup (zup H A (H P J) x) P J (w32 (H P J + 1))
def zwl (A P J : Int) : List Int → zHt → zHt
  | [], H => H
  | x :: S, H => zwl A P J S (zwr A P J x H)
theorem zwl_app {A P J : Int} : ∀ {S S' : List Int} {H : zHt}, zwl A P J (S ++ S') H = zwl A P J S' (zwl A P J S H)
  | [], _, _ => rfl
  | _ :: S, _, _ => zwl_app (S := S)
theorem zwl_at {A P J : Int} (hA : A ≠ P) : ∀ {S : List Int} {H : zHt} {m : Nat}, H P J = (m : Int) → m + S.length ≤ 6000 → zwl A P J S H P J = ((m + S.length : Nat) : Int) ∧ (∀ k : Nat, k < S.length → zwl A P J S H A ((m + k : Nat) : Int) = S.getD k 0) ∧ ∀ a j : Int, ¬ (a = P ∧ j = J) → ¬ (a = A ∧ (m : Int) ≤ j) → zwl A P J S H a j = H a j
  | [], H, m, h, _ => ⟨h, fun k hk => absurd hk (Nat.not_lt_zero k), fun _ _ _ _ => rfl⟩
  | x :: S, H, m, h, hb => by
    have hl : (x :: S).length = S.length + 1 := rfl
    have e : zwr A P J x H P J = ((m + 1 : Nat) : Int) := by
      unfold zwr
      rw [zq_eq, h, w32_id (by omega)]; rfl
    obtain ⟨a1, a2, a3⟩ := zwl_at hA (S := S) (H := zwr A P J x H) e (by omega)
    refine ⟨by show zwl A P J S (zwr A P J x H) P J = _; rw [a1, hl]; omega, fun k hk => ?_, fun a j q1 q2 => ?_⟩
    · show zwl A P J S (zwr A P J x H) A _ = _
      cases k with
      | zero =>
        rw [a3 A _ (fun z => hA z.1) (by omega)]
        unfold zwr
        rw [zq_ne (fun z => hA z.1), h]
        show zup H A m x A ((m + 0 : Nat) : Int) = x
        rw [Nat.add_zero, zq_eq]
      | succ k =>
        have := a2 k (by omega)
        rw [show m + 1 + k = m + (k + 1) by omega] at this
        exact this
    · show zwl A P J S (zwr A P J x H) a j = _
      rw [a3 a j q1 (by omega)]
      unfold zwr
      rw [zq_ne q1, zq_ne (by rw [h]; omega)]
def zdgs (n : Nat) : Nat → List Int
  | 0 => [((48 + n % 10 : Nat) : Int)]
  | k + 1 => ((48 + n / 10 ^ (k + 1) % 10 : Nat) : Int) :: zdgs n k
theorem zdgs_len {n : Nat} : ∀ {k : Nat}, (zdgs n k).length = k + 1
  | 0 => rfl
  | k + 1 => by show (zdgs n k).length + 1 = _; rw [zdgs_len]
def zlgr (n : Nat) : Nat → Nat → Nat
  | 0, j => j
  | c + 1, j => if n / 10 ^ j < 10 then j else zlgr n c (j + 1)
def zlg (n : Nat) : Nat := zlgr n 8 0
theorem zlgr_le {n : Nat} : ∀ {c j : Nat}, zlgr n c j ≤ j + c
  | 0, j => Nat.le_refl _
  | c + 1, j => by
    unfold zlgr
    split
    · omega
    · have := zlgr_le (n := n) (c := c) (j := j + 1); omega
theorem zlg_le {n : Nat} : zlg n ≤ 8 := zlgr_le (n := n) (c := 8) (j := 0)
theorem zlgr_pw {n : Nat} : ∀ {c j : Nat}, (j = 0 ∨ 10 ^ j ≤ n) → zlgr n c j = 0 ∨ 10 ^ zlgr n c j ≤ n
  | 0, j, h => h
  | c + 1, j, h => by
    unfold zlgr
    split
    · exact h
    · rename_i z
      refine zlgr_pw (Or.inr ?_)
      have h1 : 10 ≤ n / 10 ^ j := by omega
      have := (Nat.le_div_iff_mul_le (Nat.pow_pos (by decide))).mp h1
      rw [Nat.pow_succ, Nat.mul_comm]; exact this
theorem zlg_pw {n : Nat} : zlg n = 0 ∨ 10 ^ zlg n ≤ n := zlgr_pw (Or.inl rfl)
def zntx (n : Nat) : List Int := zdgs n (zlg n)
theorem zntx_len {n : Nat} : (zntx n).length = zlg n + 1 := zdgs_len
section Z63
variable {w : zWt} {d : Nat} {H : zHt}
theorem c165 {x : Int} {K : zHt → Prop} (h : 0 ≤ H 48 1 ∧ H 48 1 < 3232) : zclV w d 165 [zR 48, zI x] H K = K (zwr 49 48 1 x H) := zclV_eq fun K k => x165_0 ⟨fun q => by omega, fun _ => ⟨h, k⟩⟩
theorem c271 {x : Int} {K : zHt → Prop} (h : 0 ≤ H 81 29 ∧ H 81 29 < 6000) : zclV w d 271 [zR 81, zI x] H K = K (zwr 98 81 29 x H) := zclV_eq fun K k => x271_0 ⟨h, k⟩
theorem zwr_P {A P J x : Int} {m : Nat} (h : H P J = (m : Int)) (hm : m < 6000) : zwr A P J x H P J = ((m + 1 : Nat) : Int) := by
  unfold zwr
  rw [zq_eq, h, w32_id (by omega)]; rfl
theorem ztd10 (n k : Nat) : Int.tdiv (n : Int) ((10 ^ k : Nat) : Int) = ((n / 10 ^ k : Nat) : Int) := ztdiv n (10 ^ k)
theorem zpt10 {k : Nat} (h : k ≤ 8) : 0 < 10 ^ k ∧ 10 ^ k ≤ 100000000 := ⟨Nat.pow_pos (by decide), (Nat.pow_le_pow_right (by decide) h : 10 ^ k ≤ 10 ^ 8)⟩
theorem zw32n {a n : Nat} (h : a ≤ n) (hn : n ≤ 999999999) : w32 (a : Int) = a := w32_id (by omega)
theorem zdg1 {n k : Nat} (hn : n ≤ 999999999) : w32 (48 + Int.tmod (w32 (Int.tdiv (n : Int) ((10 ^ k : Nat) : Int))) 10) = ((48 + n / 10 ^ k % 10 : Nat) : Int) := by
  have h1 : n / 10 ^ k ≤ n := Nat.div_le_self _ _
  rw [ztd10, zw32n h1 hn, show Int.tmod ((n / 10 ^ k : Nat) : Int) 10 = ((n / 10 ^ k % 10 : Nat) : Int) from ztmod _ 10, w32_id (by omega)]; rfl
theorem zp10d {k : Nat} (h : k ≤ 7) : w32 (Int.tdiv ((10 ^ (k + 1) : Nat) : Int) 10) = ((10 ^ k : Nat) : Int) := by
  have h1 := zpt10 (k := k) (by omega)
  rw [show Int.tdiv ((10 ^ (k + 1) : Nat) : Int) 10 = ((10 ^ (k + 1) / 10 : Nat) : Int) from ztdiv _ 10, Nat.pow_succ, Nat.mul_div_cancel _ (by decide), w32_id (by omega)]
theorem zp1d : w32 (Int.tdiv ((10 ^ 0 : Nat) : Int) 10) = 0 := by
  rw [show Int.tdiv ((10 ^ 0 : Nat) : Int) 10 = 0 from rfl, w32_id (by omega)]
theorem zp10m {k : Nat} (h : k ≤ 7) : w32 (((10 ^ k : Nat) : Int) * 10) = ((10 ^ (k + 1) : Nat) : Int) := by
  have h1 := zpt10 (k := k) (by omega)
  rw [w32_id (by omega), Nat.pow_succ]; rfl
-- the class writes a number
theorem c167b {n : Nat} (hn : n ≤ 999999999) : ∀ {k : Nat} {H : zHt} {m : Nat} {K : zHt → Prop}, k ≤ 8 → H 48 1 = (m : Int) → m + (k + 1) ≤ 3232 → K (zwl 49 48 1 (zdgs n k) H) → zgo w (d + 1) 167 29 [zR 48, zI n, zI ((10 ^ k : Nat) : Int), zJ] [] H (zQV K)
  | 0, H, m, K, hk, hm, hb, h => x167_29 ⟨fun q => absurd q (by decide), fun _ => ⟨by decide, by
      rw [zdg1 hn, c165 (by omega), zp1d]
      exact x167_29 ⟨fun _ => by rw [Nat.pow_zero, Nat.div_one]; exact h, fun q => absurd q (by decide)⟩⟩⟩
  | k + 1, H, m, K, hk, hm, hb, h => x167_29 ⟨fun q => by have := (zpt10 hk).1; omega, fun _ => ⟨by have := (zpt10 hk).1; omega, by
      rw [zdg1 hn, c165 (by omega), zp10d (by omega)]
      exact c167b hn (k := k) (m := m + 1) (by omega) (zwr_P hm (by omega)) (by omega) h⟩⟩
theorem c167a {n : Nat} (hn : n ≤ 999999999) {m : Nat} {K : zHt → Prop} (hm : H 48 1 = (m : Int)) (hb : m + 9 ≤ 3232) : ∀ {c j : Nat}, j + c = 8 → K (zwl 49 48 1 (zdgs n (zlgr n c j)) H) → zgo w (d + 1) 167 4 [zR 48, zI n, zI ((10 ^ j : Nat) : Int), zI j] [] H (zQV K)
  | 0, j, hj, h => by
    have hj : j = 8 := by omega
    subst hj
    refine x167_4 ⟨fun q => absurd q (by decide), fun _ => ⟨by decide, fun _ => c167b hn (by omega) hm (by omega) h, fun q => ?_⟩⟩
    rw [ztd10, w32_id (by have : n / 10 ^ 8 ≤ n := Nat.div_le_self _ _; omega)] at q
    have : n / 10 ^ 8 < 10 := (Nat.div_lt_iff_lt_mul (by decide)).mpr (by show n < 10 * 10 ^ 8; omega)
    omega
  | c + 1, j, hj, h => by
    have hd : n / 10 ^ j ≤ n := Nat.div_le_self _ _
    have hp := (zpt10 (k := j) (by omega)).1
    unfold zlgr at h
    refine x167_4 ⟨fun q => by omega, fun _ => ⟨by omega, fun q => ?_, fun q => ?_⟩⟩
    · rw [ztd10, zw32n hd hn] at q
      rw [if_pos (by omega)] at h
      exact c167b hn (by omega) hm (by omega) h
    · rw [ztd10, zw32n hd hn] at q
      rw [if_neg (by omega)] at h
      rw [zp10m (by omega), zi1 (by omega)]
      exact c167a hn hm hb (c := c) (j := j + 1) (by omega) h
theorem c167 {n m : Nat} {K : zHt → Prop} (hn : n ≤ 999999999) (hm : H 48 1 = (m : Int)) (hb : m + 9 ≤ 3232) : zclV w (d + 1) 167 [zR 48, zI n] H K = K (zwl 49 48 1 (zntx n) H) := zclV_eq fun K h => x167_0 (c167a hn hm hb (c := 8) (j := 0) rfl h)
-- the model writes a number
theorem c273b {n : Nat} (hn : n ≤ 999999999) : ∀ {k : Nat} {H : zHt} {m : Nat} {K : zHt → Prop}, k ≤ 8 → H 81 29 = (m : Int) → m + (k + 1) ≤ 3232 → K (zwl 98 81 29 (zdgs n k) H) → zgo w (d + 1) 273 18 [zR 81, zI n, zI ((10 ^ k : Nat) : Int)] [] H (zQV K)
  | 0, H, m, K, hk, hm, hb, h => x273_18 ⟨fun q => absurd q (by decide), fun _ => ⟨by decide, by
      rw [zdg1 hn, c271 (by omega), zp1d]
      exact x273_18 ⟨fun _ => by rw [Nat.pow_zero, Nat.div_one]; exact h, fun q => absurd q (by decide)⟩⟩⟩
  | k + 1, H, m, K, hk, hm, hb, h => x273_18 ⟨fun q => by have := (zpt10 hk).1; omega, fun _ => ⟨by have := (zpt10 hk).1; omega, by
      rw [zdg1 hn, c271 (by omega), zp10d (by omega)]
      exact c273b hn (k := k) (m := m + 1) (by omega) (zwr_P hm (by omega)) (by omega) h⟩⟩
theorem c273a {n : Nat} (hn : n ≤ 999999999) {m : Nat} {K : zHt → Prop} (hm : H 81 29 = (m : Int)) (hb : m + 9 ≤ 3232) : ∀ {c j : Nat}, j + c = 8 → K (zwl 98 81 29 (zdgs n (zlgr n c j)) H) → zgo w (d + 1) 273 2 [zR 81, zI n, zI ((10 ^ j : Nat) : Int)] [] H (zQV K)
  | 0, j, hj, h => by
    have hj : j = 8 := by omega
    subst hj
    refine x273_2 ⟨by decide, fun _ => c273b hn (by omega) hm (by omega) h, fun q => ?_⟩
    rw [ztd10, w32_id (by have : n / 10 ^ 8 ≤ n := Nat.div_le_self _ _; omega)] at q
    have : n / 10 ^ 8 < 10 := (Nat.div_lt_iff_lt_mul (by decide)).mpr (by show n < 10 * 10 ^ 8; omega)
    omega
  | c + 1, j, hj, h => by
    have hd : n / 10 ^ j ≤ n := Nat.div_le_self _ _
    have hp := (zpt10 (k := j) (by omega)).1
    unfold zlgr at h
    refine x273_2 ⟨by omega, fun q => ?_, fun q => ?_⟩
    · rw [ztd10, zw32n hd hn] at q
      rw [if_pos (by omega)] at h
      exact c273b hn (by omega) hm (by omega) h
    · rw [ztd10, zw32n hd hn] at q
      rw [if_neg (by omega)] at h
      rw [zp10m (by omega)]
      exact c273a hn hm hb (c := c) (j := j + 1) (by omega) h
theorem c273 {n m : Nat} {K : zHt → Prop} (hn : n ≤ 999999999) (hm : H 81 29 = (m : Int)) (hb : m + 9 ≤ 3232) : zclV w (d + 1) 273 [zR 81, zI n] H K = K (zwl 98 81 29 (zntx n) H) := zclV_eq fun K h => x273_0 (c273a hn hm hb (c := 8) (j := 0) rfl h)
end Z63
/-! how long the text of a number's primes is -/
def zpe (p e : Nat) : List Int := zntx p ++ (if e ≤ 1 then [] else 94 :: zntx e)
def zfts : List (Nat × Nat) → List Int
  | [] => []
  | q :: l => 42 :: (zpe q.1 q.2 ++ zfts l)
def zftx : List (Nat × Nat) → List Int
  | [] => []
  | q :: l => zpe q.1 q.2 ++ zfts l
theorem zfts_ftx {l : List (Nat × Nat)} (h : l ≠ []) : (zfts l).length = (zftx l).length + 1 := by
  cases l with
  | nil => exact absurd rfl h
  | cons q l => rfl
theorem zpe_len {p e : Nat} : (zpe p e).length = zlg p + 1 + (if e ≤ 1 then 0 else zlg e + 2) := by
  unfold zpe
  rw [List.length_append, zntx_len]
  split
  · rfl
  · show _ + ((zntx e).length + 1) = _; rw [zntx_len]
def zv11 (p : Nat) : Nat := if p = 2 then 229 else if p = 3 then 21 else 1
theorem zlg_sm {n : Nat} (h : n < 100) : zlg n ≤ 1 := by
  rcases zlg_pw (n := n) with z | z
  · omega
  · rcases Nat.lt_or_ge 1 (zlg n) with y | y
    · have : 10 ^ 2 ≤ 10 ^ zlg n := Nat.pow_le_pow_right (by decide) y
      omega
    · exact y
theorem zlg_0 {n : Nat} (h : n < 10) : zlg n = 0 := by
  rcases zlg_pw (n := n) with z | z
  · exact z
  · rcases Nat.lt_or_ge 0 (zlg n) with y | y
    · have : 10 ^ 1 ≤ 10 ^ zlg n := Nat.pow_le_pow_right (by decide) y
      omega
    · omega
theorem z11t : ∀ g : Nat, g ≤ 8 → 2 ≤ g → 11 ^ (2 + g) ≤ 10 ^ (3 * g) := by decide
theorem z11u : ∀ g : Nat, g ≤ 8 → 1 ≤ g → 11 ^ (5 + g) ≤ 10 ^ (6 * g) * 11 := by decide
