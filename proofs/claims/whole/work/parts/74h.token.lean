/-! the case load: TOKENS, by both -/
/-- as long as P holds, at most c -/
def zwh (P : Nat → Bool) : Nat → Nat → Nat
  | 0, p => p
  | c + 1, p => if P p = true then zwh P c (p + 1) else p
def zend (P : Nat → Bool) (N p : Nat) : Nat := zwh P (N - p) p
theorem zwh_b {P : Nat → Bool} : ∀ {c p : Nat}, p ≤ zwh P c p ∧ zwh P c p ≤ p + c
  | 0, p => ⟨Nat.le_refl _, Nat.le_refl _⟩
  | c + 1, p => by
    unfold zwh
    split
    · have := zwh_b (P := P) (c := c) (p := p + 1); omega
    · omega
theorem zend_b {P : Nat → Bool} {N p : Nat} (h : p ≤ N) : p ≤ zend P N p ∧ zend P N p ≤ N := by
  unfold zend
  have := zwh_b (P := P) (c := N - p) (p := p); omega
theorem zend_t {P : Nat → Bool} {N p : Nat} (h : p < N) (hp : P p = true) : zend P N p = zend P N (p + 1) := by
  unfold zend
  obtain ⟨c, hc⟩ : ∃ c, N - p = c + 1 := ⟨N - p - 1, by omega⟩
  rw [hc, show N - (p + 1) = c by omega]
  show (if P p = true then zwh P c (p + 1) else p) = _
  rw [if_pos hp]
theorem zend_f {P : Nat → Bool} {N p : Nat} (hp : P p = false) : zend P N p = p := by
  unfold zend
  cases N - p with
  | zero => rfl
  | succ c =>
    show (if P p = true then zwh P c (p + 1) else p) = _
    rw [hp]; rfl
theorem zend_n {P : Nat → Bool} {N p : Nat} (h : N ≤ p) : zend P N p = p := by
  unfold zend
  rw [show N - p = 0 by omega]; rfl
theorem zend_stop {P : Nat → Bool} {N : Nat} : ∀ {c p : Nat}, p + c = N → zend P N p < N → P (zend P N p) = false
  | 0, p, hc, h => by rw [zend_n (by omega)] at h; omega
  | c + 1, p, hc, h => by
    cases hp : P p with
    | false => rw [zend_f hp]; exact hp
    | true =>
      rw [zend_t (by omega) hp] at h ⊢
      exact zend_stop (c := c) (by omega) h
/-- all that lies between -/
theorem zend_in {P : Nat → Bool} {N : Nat} : ∀ {c p i : Nat}, p + c = N → p ≤ i → i < zend P N p → P i = true
  | 0, p, i, hc, h1, h2 => by rw [zend_n (by omega)] at h2; omega
  | c + 1, p, i, hc, h1, h2 => by
    cases hp : P p with
    | false => rw [zend_f hp] at h2; omega
    | true =>
      by_cases z : i = p
      · subst z; exact hp
      · rw [zend_t (by omega) hp] at h2
        exact zend_in (c := c) (by omega) (by omega) h2
def zbl (T : Nat → Int) (p : Nat) : Bool := decide (T p = 10 ∨ T p = 32)
def zlr (T : Nat → Int) (p : Nat) : Bool := decide (97 ≤ T p ∧ T p ≤ 122)
def zdi (T : Nat → Int) (p : Nat) : Bool := decide (48 ≤ T p ∧ T p ≤ 57)
def zqq (T : Nat → Int) (N p : Nat) : Nat := zend (zbl T) N p
def zle2 (T : Nat → Int) (N p : Nat) : Nat := zend (zlr T) N (zqq T N p)
def zde2 (T : Nat → Int) (N p : Nat) : Nat := zend (zdi T) N (zqq T N p)
/-- the kind of the TOKEN behind p: 0 the end, 1 a WORD, 2 a NUMBER, 3 the SIGN, 4 none -/
def zkd (T : Nat → Int) (N p : Nat) : Int := if N ≤ zqq T N p then 0 else if zqq T N p < zle2 T N p then (if zle2 T N p ≤ zqq T N p + 8 then 1 else 4) else if zqq T N p < zde2 T N p then (if zde2 T N p ≤ zqq T N p + 9 then 2 else 4) else if T (zqq T N p) = 59 then 3 else 4
def znx (T : Nat → Int) (N p : Nat) : Nat := if N ≤ zqq T N p then zqq T N p else if zqq T N p < zle2 T N p then zle2 T N p else if zqq T N p < zde2 T N p then zde2 T N p else zqq T N p + 1
/-- a WORD's letters, the last one first -/
def zlt2 (T : Nat → Int) (q : Nat) : Nat → List Int
  | 0 => []
  | k + 1 => (T (q + k) - 96) :: zlt2 T q k
def zwd (T : Nat → Int) (N p : Nat) : List Int := zlt2 T (zqq T N p) (zle2 T N p - zqq T N p)
def zcdw (b : Int) : List Int → Int
  | [] => 0
  | x :: l => zcdw b l * b + x
def zdg (T : Nat → Int) (q : Nat) : Nat → Int
  | 0 => 0
  | k + 1 => zdg T q k * 10 + (T (q + k) - 48)
def znm (T : Nat → Int) (N p : Nat) : Int := zdg T (zqq T N p) (zde2 T N p - zqq T N p)
theorem zkd_in {T : Nat → Int} {N p : Nat} : zkd T N p = 0 ∨ zkd T N p = 1 ∨ zkd T N p = 2 ∨ zkd T N p = 3 ∨ zkd T N p = 4 := by
  unfold zkd
  split
  · omega
  · split
    · split <;> omega
    · split
      · split <;> omega
      · split <;> omega
theorem zkd_0 {T : Nat → Int} {N p : Nat} : zkd T N p = 0 ↔ N ≤ zqq T N p := by
  unfold zkd
  by_cases z : N ≤ zqq T N p
  · rw [if_pos z]; exact ⟨fun _ => z, fun _ => rfl⟩
  · rw [if_neg z]
    refine ⟨fun q => ?_, fun q => absurd q z⟩
    split at q
    · split at q <;> omega
    · split at q
      · split at q <;> omega
      · split at q <;> omega
theorem znx_b {T : Nat → Int} {N p : Nat} (h : p ≤ N) : p ≤ znx T N p ∧ znx T N p ≤ N ∧ (zkd T N p ≠ 0 → p < znx T N p) := by
  have h1 := zend_b (P := zbl T) h
  have h2 := zend_b (P := zlr T) (N := N) (p := zqq T N p) h1.2
  have h3 := zend_b (P := zdi T) (N := N) (p := zqq T N p) h1.2
  have h1 : p ≤ zqq T N p ∧ zqq T N p ≤ N := h1
  have h2 : zqq T N p ≤ zle2 T N p ∧ zle2 T N p ≤ N := h2
  have h3 : zqq T N p ≤ zde2 T N p ∧ zde2 T N p ≤ N := h3
  have hk := zkd_0 (T := T) (N := N) (p := p)
  unfold znx
  split
  · rename_i z
    exact ⟨by omega, by omega, fun q => absurd (hk.mpr z) q⟩
  · split
    · exact ⟨by omega, by omega, fun _ => by omega⟩
    · split
      · exact ⟨by omega, by omega, fun _ => by omega⟩
      · exact ⟨by omega, by omega, fun _ => by omega⟩
theorem zlt2_in {T : Nat → Int} {q : Nat} : ∀ {k : Nat}, (∀ i, i < k → 97 ≤ T (q + i) ∧ T (q + i) ≤ 122) → ∀ x ∈ zlt2 T q k, 1 ≤ x ∧ x ≤ 26
  | 0, _, x, hx => by cases hx
  | k + 1, h, x, hx => by
    rcases List.mem_cons.mp hx with z | z
    · have := h k (by omega)
      rw [z]; omega
    · exact zlt2_in (fun i hi => h i (by omega)) x z
theorem zlt2_len {T : Nat → Int} {q : Nat} : ∀ {k : Nat}, (zlt2 T q k).length = k
  | 0 => rfl
  | k + 1 => by show (zlt2 T q k).length + 1 = _; rw [zlt2_len]
theorem zcdw_b {b : Nat} (hb : 27 ≤ b) : ∀ {l : List Int}, (∀ x ∈ l, 1 ≤ x ∧ x ≤ 26) → 0 ≤ zcdw b l ∧ zcdw b l < ((b ^ l.length : Nat) : Int)
  | [], _ => ⟨Int.le_refl 0, by show (0 : Int) < ((b ^ 0 : Nat) : Int); rw [Nat.pow_zero]; decide⟩
  | x :: l, h => by
    obtain ⟨i1, i2⟩ := zcdw_b hb (fun y hy => h y (List.mem_cons_of_mem _ hy))
    have hx := h x List.mem_cons_self
    have e : ((b ^ (x :: l).length : Nat) : Int) = ((b ^ l.length : Nat) : Int) * (b : Int) := by
      rw [List.length_cons, Nat.pow_succ, Int.natCast_mul]
    rw [e]
    have m1 : 0 ≤ zcdw b l * (b : Int) := Int.mul_nonneg i1 (by omega)
    have m2 : (zcdw b l + 1) * (b : Int) ≤ ((b ^ l.length : Nat) : Int) * (b : Int) := Int.mul_le_mul_of_nonneg_right (by omega) (by omega)
    rw [Int.add_mul, Int.one_mul] at m2
    show 0 ≤ zcdw b l * (b : Int) + x ∧ zcdw b l * (b : Int) + x < _
    omega
theorem zcdw_inj {b : Nat} (hb : 27 ≤ b) : ∀ {l m : List Int}, (∀ x ∈ l, 1 ≤ x ∧ x ≤ 26) → (∀ x ∈ m, 1 ≤ x ∧ x ≤ 26) → zcdw b l = zcdw b m → l = m
  | [], [], _, _, _ => rfl
  | [], y :: m, _, h2, h => by
    obtain ⟨i1, -⟩ := zcdw_b hb (fun z hz => h2 z (List.mem_cons_of_mem _ hz))
    have hy := h2 y List.mem_cons_self
    have h : (0 : Int) = zcdw b m * (b : Int) + y := h
    have m1 : 0 ≤ zcdw b m * (b : Int) := Int.mul_nonneg i1 (by omega)
    omega
  | x :: l, [], h1, _, h => by
    obtain ⟨i1, -⟩ := zcdw_b hb (fun z hz => h1 z (List.mem_cons_of_mem _ hz))
    have hx := h1 x List.mem_cons_self
    have h : zcdw b l * (b : Int) + x = 0 := h
    have m1 : 0 ≤ zcdw b l * (b : Int) := Int.mul_nonneg i1 (by omega)
    omega
  | x :: l, y :: m, h1, h2, h => by
    have hx := h1 x List.mem_cons_self
    have hy := h2 y List.mem_cons_self
    have h : zcdw b l * (b : Int) + x = zcdw b m * (b : Int) + y := h
    have exy : x = y := by
      have e1 : (zcdw b l * (b : Int) + x) % (b : Int) = x := by
        rw [Int.add_comm, Int.add_mul_emod_self_right]; exact Int.emod_eq_of_lt (by omega) (by omega)
      have e2 : (zcdw b m * (b : Int) + y) % (b : Int) = y := by
        rw [Int.add_comm, Int.add_mul_emod_self_right]; exact Int.emod_eq_of_lt (by omega) (by omega)
      rw [← e1, ← e2, h]
    subst exy
    have e : zcdw b l * (b : Int) = zcdw b m * (b : Int) := by omega
    rw [zcdw_inj hb (fun z hz => h1 z (List.mem_cons_of_mem _ hz)) (fun z hz => h2 z (List.mem_cons_of_mem _ hz)) (Int.eq_of_mul_eq_mul_right (by omega) e)]
theorem zdg_b {T : Nat → Int} {q : Nat} : ∀ {k : Nat}, (∀ i, i < k → 48 ≤ T (q + i) ∧ T (q + i) ≤ 57) → 0 ≤ zdg T q k ∧ zdg T q k < ((10 ^ k : Nat) : Int)
  | 0, _ => ⟨Int.le_refl 0, by show (0 : Int) < ((10 ^ 0 : Nat) : Int); decide⟩
  | k + 1, h => by
    obtain ⟨i1, i2⟩ := zdg_b (T := T) (q := q) (k := k) (fun i hi => h i (by omega))
    have hx := h k (by omega)
    have e : ((10 ^ (k + 1) : Nat) : Int) = ((10 ^ k : Nat) : Int) * 10 := by rw [Nat.pow_succ, Int.natCast_mul]; rfl
    rw [e]
    show 0 ≤ zdg T q k * 10 + (T (q + k) - 48) ∧ zdg T q k * 10 + (T (q + k) - 48) < _
    omega
theorem zpow10 {k : Nat} (h : k ≤ 9) : ((10 ^ k : Nat) : Int) ≤ 1000000000 := by
  have : 10 ^ k ≤ 10 ^ 9 := Nat.pow_le_pow_right (by decide) h
  have e : (10 : Nat) ^ 9 = 1000000000 := by decide
  omega
theorem zpow32 {k b : Nat} (hb : b ≤ 32) (hb1 : 1 ≤ b) (h : k ≤ 8) : ((b ^ k : Nat) : Int) ≤ 1099511627776 := by
  have h1 : b ^ k ≤ 32 ^ k := Nat.pow_le_pow_left hb k
  have h2 : 32 ^ k ≤ 32 ^ 8 := Nat.pow_le_pow_right (by decide) h
  have e : (32 : Nat) ^ 8 = 1099511627776 := by decide
  omega
/-- the bytes: by the class, by the model -/
def zTx (H : zHt) (T : Nat → Int) (N : Nat) : Prop := N ≤ 400 ∧ ∀ k : Nat, k < N → H 34 k = T k ∧ 0 ≤ T k ∧ T k ≤ 255
def zTxM (H : zHt) (T : Nat → Int) (N : Nat) : Prop := N ≤ 400 ∧ ∀ k : Nat, k < N → H 99 k = zi8 (T k) ∧ 0 ≤ T k ∧ T k ≤ 255
theorem zi8_lo {x : Int} (h : 0 ≤ x ∧ x ≤ 255) : zi8 x = if x < 128 then x else x - 256 := by
  rw [zi8_e]
  by_cases z : x < 128
  · rw [if_pos z]; exact Int.bmod_eq_of_le (by omega) (by omega)
  · rw [if_neg z]
    have e := Int.add_bmod_right (x - 256) 256
    rw [show x - 256 + ((256 : Nat) : Int) = x by omega] at e
    rw [e]
    exact Int.bmod_eq_of_le (by omega) (by omega)
