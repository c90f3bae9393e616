/-! the law's sums: divisor by divisor -/
def zbrf : Nat → Nat → Nat → Bool
  | 0, _, _ => true
  | f + 1, d, p => if d < p * p then true else if d % (p * p) = 0 then false else zbrf f d (p + 1)
/-- what a law takes of n -/
def zPL (law n d : Nat) : Bool := if law = 0 then true else if law = 1 then decide (Nat.gcd d (n / d) = 1) else if law = 2 then decide (1 < d) else zbrf 64 d 2
def zSo (law n : Nat) : Nat → Nat
  | 0 => 0
  | k + 1 => zSo law n k + (if n % (k + 1) = 0 ∧ zPL law n (k + 1) = true then k + 1 else 0)
theorem zSo_b {law n : Nat} : ∀ {k : Nat}, zSo law n k ≤ k * k
  | 0 => Nat.le_refl _
  | k + 1 => by
    have := @zSo_b law n k
    have e : (k + 1) * (k + 1) = k * k + 2 * k + 1 := by rw [Nat.mul_add, Nat.add_mul]; omega
    have hs : zSo law n (k + 1) = zSo law n k + (if n % (k + 1) = 0 ∧ zPL law n (k + 1) = true then k + 1 else 0) := rfl
    rw [hs, e]
    clear e
    split <;> omega
theorem w32_n {m : Nat} (h : m ≤ 999999999) : w32 (m : Int) = (m : Int) := w32_id (by omega)
section ZN
variable {w : zWt} {d : Nat} {H : zHt}
theorem zn172 {K : Int → zHt → Prop} : ∀ (k : Nat) {d a b : Nat}, a ≤ 999999999 → b < 2 ^ k → k ≤ 29 → K ((Nat.gcd a b : Nat) : Int) H → zclI w (d + 2 * k + 1) 172 [zI (a : Int), zI (b : Int)] H K
  | 0, d, a, b, ha, hb, _, h => by
    have : b = 0 := by rw [Nat.pow_zero] at hb; omega
    subst this
    exact x172_0 ⟨fun q => absurd rfl q, fun _ => by rw [Nat.gcd_zero_right] at h; exact h⟩
  | k + 1, d, a, b, ha, hb, hk, h => by
    have h2 : 2 ^ (k + 1) = 2 * 2 ^ k := by rw [Nat.pow_succ]; omega
    have h29 : 2 ^ k ≤ 2 ^ 28 := Nat.pow_le_pow_right (by decide) (by omega)
    have h28 : (2 : Nat) ^ 28 = 268435456 := by decide
    show zclI w (d + 2 * k + 2 + 1) 172 [zI (a : Int), zI (b : Int)] H K
    refine x172_0 ⟨fun q => ⟨q, ?_⟩, fun q => ?_⟩
    · rw [show Int.tmod (a : Int) (b : Int) = ((a % b : Nat) : Int) from rfl]
      have hb0 : 0 < b := by omega
      have hr := Nat.mod_lt a hb0
      rw [Nat.gcd_comm, Nat.gcd_rec] at h
      refine x172_0 (d := d + 2 * k + 1) ⟨fun q2 => ⟨q2, ?_⟩, fun q2 => ?_⟩
      · rw [show Int.tmod (b : Int) ((a % b : Nat) : Int) = ((b % (a % b) : Nat) : Int) from rfl]
        have hr0 : 0 < a % b := by omega
        have hs := Nat.mod_lt b hr0
        have hd : (a % b) * (b / (a % b)) + b % (a % b) = b := Nat.div_add_mod b (a % b)
        have hq : 1 ≤ b / (a % b) := (Nat.one_le_div_iff hr0).mpr (by omega)
        have hm : (a % b) * 1 ≤ (a % b) * (b / (a % b)) := Nat.mul_le_mul_left _ hq
        rw [Nat.gcd_rec] at h
        refine zn172 k (by omega) (by omega) (by omega) ?_
        rw [Nat.gcd_comm]
        exact h
      · have : a % b = 0 := by omega
        rw [this, Nat.gcd_zero_left] at h
        exact h
    · have : b = 0 := by omega
      subst this
      rw [Nat.gcd_zero_right] at h
      exact h
theorem zn173 {K : Int → zHt → Prop} {n : Nat} (hn : n < 4100) : ∀ (f p : Nat), 1 ≤ p → n < (p + f) * (p + f) → p + f ≤ 66 → K (if zbrf f n p = true then 1 else 0) H → zgo w d 173 2 [zI (n : Int), zI (p : Int)] [] H (zQI K)
  | 0, p, hp, hf, h6, h => by
    have hpp : p * p ≤ 66 * 66 := Nat.mul_le_mul (by omega) (by omega)
    rw [Nat.add_zero] at hf
    have e : ((p : Int) * (p : Int)) = ((p * p : Nat) : Int) := by rw [Int.natCast_mul]
    refine x173_2 ⟨fun _ => h, fun q => ?_⟩
    rw [e, w32_id (by omega)] at q
    omega
  | f + 1, p, hp, hf, h6, h => by
    have hpp : p * p ≤ 66 * 66 := Nat.mul_le_mul (by omega) (by omega)
    have hp1 : 1 * 1 ≤ p * p := Nat.mul_le_mul hp hp
    have e : ((p : Int) * (p : Int)) = ((p * p : Nat) : Int) := by rw [Int.natCast_mul]
    have hz : zbrf (f + 1) n p = if n < p * p then true else if n % (p * p) = 0 then false else zbrf f n (p + 1) := rfl
    refine x173_2 ?_
    rw [e, w32_id (by omega), show Int.tmod (n : Int) ((p * p : Nat) : Int) = ((n % (p * p) : Nat) : Int) from rfl, w32_id (x := (p : Int) + 1) (by omega), show (p : Int) + 1 = ((p + 1 : Nat) : Int) by omega]
    refine ⟨fun q => ?_, fun q => ⟨by omega, fun q2 => ?_, fun q2 => ?_⟩⟩
    · have hv : zbrf (f + 1) n p = true := by rw [hz, if_pos (by omega)]
      rw [hv, if_pos rfl] at h; exact h
    · have hv : zbrf (f + 1) n p = zbrf f n (p + 1) := by rw [hz, if_neg (by omega), if_neg (by omega)]
      rw [hv] at h
      exact zn173 hn f (p + 1) (by omega) (by rw [show p + 1 + f = p + (f + 1) by omega]; exact hf) (by omega) h
    · have hv : zbrf (f + 1) n p = false := by rw [hz, if_neg (by omega), if_pos (by omega)]
      rw [hv, if_neg (by decide)] at h
      exact h
theorem zn173' {K : Int → zHt → Prop} {n : Nat} (hn : n < 4100) (h : K (if zbrf 64 n 2 = true then 1 else 0) H) : zclI w d 173 [zI (n : Int)] H K :=
  x173_0 (zn173 hn 64 2 (by decide) (by show n < 66 * 66; omega) (by decide) h)
theorem zn174l {K : Int → zHt → Prop} {n law : Nat} (hn : n < 4100) (hl : law < 4) (hK : K ((zSo law n (n - 1) : Nat) : Int) H) : ∀ (c k : Nat), k + 1 + c = n → zgo w (d + 28) 174 5 [zI (n : Int), zI (law : Int), zL ((zSo law n k : Nat) : Int), zJ, zI ((k + 1 : Nat) : Int)] [] H (zQL K)
  | 0, k, hc => by
    refine x174_5 ⟨fun _ => ?_, fun q => by omega⟩
    rw [show n - 1 = k by omega] at hK
    exact hK
  | c + 1, k, hc => by
    have hb := @zSo_b law n k
    have hkk : k * k ≤ 4100 * 4100 := Nat.mul_le_mul (by omega) (by omega)
    have hs : zSo law n (k + 1) = zSo law n k + (if n % (k + 1) = 0 ∧ zPL law n (k + 1) = true then k + 1 else 0) := rfl
    have hd : n / (k + 1) ≤ n := Nat.div_le_self _ _
    have nx : ∀ s : Nat, s = zSo law n (k + 1) → zgo w (d + 28) 174 5 [zI (n : Int), zI (law : Int), zL ((s : Nat) : Int), zJ, zI ((k + 1 + 1 : Nat) : Int)] [] H (zQL K) := fun s e => by
      rw [e]; exact zn174l hn hl hK c (k + 1) (by omega)
    refine x174_5 ⟨fun q => by omega, fun _ => ⟨by omega, ?_⟩⟩
    rw [show Int.tmod (n : Int) ((k + 1 : Nat) : Int) = ((n % (k + 1) : Nat) : Int) from rfl, show Int.tdiv (n : Int) ((k + 1 : Nat) : Int) = ((n / (k + 1) : Nat) : Int) from rfl, w32_id (x := ((k + 1 : Nat) : Int) + 1) (by omega), w32_n (m := n / (k + 1)) (Nat.le_trans hd (by omega)), w64_id (by omega), show ((zSo law n k : Nat) : Int) + ((k + 1 : Nat) : Int) = ((zSo law n k + (k + 1) : Nat) : Int) by omega, show ((k + 1 : Nat) : Int) + 1 = ((k + 1 + 1 : Nat) : Int) by omega]
    refine ⟨fun q => nx _ ?_, fun q => ?_⟩
    · rw [hs, if_neg (by omega)]; rfl
    have q : n % (k + 1) = 0 := by omega
    have no : zPL law n (k + 1) = false → zSo law n k = zSo law n (k + 1) := fun z => by rw [hs, if_neg (by rw [z]; intro y; exact absurd y.2 (by decide))]; rfl
    have ye : zPL law n (k + 1) = true → zSo law n k + (k + 1) = zSo law n (k + 1) := fun z => by rw [hs, if_pos ⟨q, z⟩]
    refine ⟨fun l0 => nx _ (ye ?_), fun l0 => ⟨fun l1 => ?_, fun l1 => ?_⟩⟩
    · unfold zPL; rw [if_pos (by omega)]
    · refine x174_40 ?_
      rw [w32_id (x := ((k + 1 : Nat) : Int) + 1) (by omega), w64_id (by omega), show ((zSo law n k : Nat) : Int) + ((k + 1 : Nat) : Int) = ((zSo law n k + (k + 1) : Nat) : Int) by omega, show ((k + 1 : Nat) : Int) + 1 = ((k + 1 + 1 : Nat) : Int) by omega]
      have bare : law = 3 → zPL law n (k + 1) = zbrf 64 (k + 1) 2 := fun z => by unfold zPL; rw [if_neg (by omega), if_neg (by omega), if_neg (by omega)]
      have two : law = 2 → zPL law n (k + 1) = decide (1 < k + 1) := fun z => by unfold zPL; rw [if_neg (by omega), if_neg (by omega), if_pos z]
      refine ⟨fun l2 => ⟨fun l3 => by omega, fun l3 => zn173' (by omega) ⟨fun z => nx _ (no ?_), fun z => nx _ (ye ?_)⟩⟩, fun l2 => ⟨fun z => nx _ (ye ?_), fun z => ⟨fun _ => nx _ (no ?_), fun l3 => by omega⟩⟩⟩
      · rw [bare (by omega)]
        cases e : zbrf 64 (k + 1) 2 with
        | false => rfl
        | true => rw [e, if_pos rfl] at z; omega
      · rw [bare (by omega)]
        cases e : zbrf 64 (k + 1) 2 with
        | true => rfl
        | false => rw [e, if_neg (by decide)] at z; omega
      · rw [two (by omega)]; exact decide_eq_true (by omega)
      · rw [two (by omega)]; exact decide_eq_false (by omega)
    · have one : zPL law n (k + 1) = decide (Nat.gcd (k + 1) (n / (k + 1)) = 1) := by unfold zPL; rw [if_neg (by omega), if_pos (by omega)]
      show zclI w (d + 2 * 13 + 1) 172 _ H _
      refine zn172 13 (d := d) (a := k + 1) (b := n / (k + 1)) (by omega) (Nat.lt_of_le_of_lt hd (show n < 8192 by omega)) (by decide) ⟨fun z => nx _ (ye ?_), fun z => ?_⟩
      · rw [one]; exact decide_eq_true (by omega)
      · have hno := no (by rw [one]; exact decide_eq_false (by omega))
        refine x174_40 ⟨fun _ => ⟨fun _ => ?_, fun l3 => by omega⟩, fun l2 => by omega⟩
        rw [w32_id (x := ((k + 1 : Nat) : Int) + 1) (by omega), show ((k + 1 : Nat) : Int) + 1 = ((k + 1 + 1 : Nat) : Int) by omega]
        exact nx _ hno
theorem zn174 {K : Int → zHt → Prop} {n law : Nat} (hn : 1 ≤ n ∧ n < 4100) (hl : law < 4) (hK : K ((zSo law n (n - 1) : Nat) : Int) H) : zclL w (d + 28) 174 [zI (n : Int), zI (law : Int)] H K :=
  x174_0 (zn174l hn.2 hl hK (n - 1) 0 (by omega))
end ZN
