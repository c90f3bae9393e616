/-! guides and drivers, by both; the case guide -/
theorem ztwo : ∀ n : Nat, 1 ≤ n → ∃ a k : Nat, n = 2 ^ a * (2 * k + 1) := fun n => by
  induction n using Nat.strongRecOn with
  | ind n ih =>
    intro h
    rcases (by omega : n % 2 = 1 ∨ n % 2 = 0) with z | z
    · exact ⟨0, n / 2, by rw [Nat.pow_zero, Nat.one_mul]; omega⟩
    · obtain ⟨a, k, e⟩ := ih (n / 2) (by omega) (by omega)
      refine ⟨a + 1, k, ?_⟩
      rw [Nat.pow_succ, Nat.mul_comm (2 ^ a) 2, Nat.mul_assoc, ← e]; omega
theorem zlow_and {a k : Nat} (h : 2 ^ a * (2 * k + 1) < 2 ^ 31) : (2 ^ a * (2 * k + 1)) &&& (2 ^ 32 - 2 ^ a * (2 * k + 1)) = 2 ^ a := by
  have ha : 0 < 2 ^ a := Nat.pow_pos (by decide)
  have e0 : 2 ^ a * (2 * k + 1) = 2 ^ a * (2 * k) + 2 ^ a := by rw [Nat.mul_add, Nat.mul_one]
  have h1 : 2 ^ a ≤ 2 ^ a * (2 * k + 1) := Nat.le_mul_of_pos_right _ (by omega)
  have ha31 : a < 31 := (Nat.pow_lt_pow_iff_right (by decide)).mp (Nat.lt_of_le_of_lt h1 h)
  apply Nat.eq_of_testBit_eq
  intro i
  have h32 : (2 : Nat) ^ 31 < 2 ^ 32 := by decide
  rw [Nat.testBit_and, Nat.testBit_two_pow, show 2 ^ 32 - 2 ^ a * (2 * k + 1) = 2 ^ 32 - ((2 ^ a * (2 * k) + (2 ^ a - 1)) + 1) by omega, Nat.testBit_two_pow_sub_succ (by omega)]
  rw [Nat.testBit_two_pow_mul_add (2 * k) (by omega)]
  rw [show 2 ^ a * (2 * k + 1) = 2 ^ a * (2 * k + 1) + 0 from rfl, Nat.testBit_two_pow_mul_add (2 * k + 1) ha]
  by_cases q : i < a
  · rw [if_pos q, if_pos q, Nat.zero_testBit, Bool.false_and, decide_eq_false (by omega)]
  · rw [if_neg q, if_neg q]
    obtain ⟨j, rfl⟩ : ∃ j, i = a + j := ⟨i - a, by omega⟩
    rw [show a + j - a = j by omega]
    cases j with
    | zero =>
      rw [Nat.testBit_zero, Nat.testBit_zero, decide_eq_true (show (2 * k + 1) % 2 = 1 by omega), decide_eq_false (show ¬ (2 * k) % 2 = 1 by omega), decide_eq_true (show a + 0 < 32 by omega), decide_eq_true (show a = a + 0 by omega)]
      rfl
    | succ j =>
      rw [Nat.testBit_succ, Nat.testBit_succ, show (2 * k + 1) / 2 = k by omega, show 2 * k / 2 = k by omega, decide_eq_false (show ¬ a = a + (j + 1) by omega)]
      cases Nat.testBit k j <;> simp
theorem zlow_eq {a k : Nat} (h : 2 ^ a * (2 * k + 1) < 2 ^ 31) : zand ((2 ^ a * (2 * k + 1) : Nat) : Int) (w32 (-((2 ^ a * (2 * k + 1) : Nat) : Int))) = ((2 ^ a : Nat) : Int) := by
  have hl := zlow_and h
  have h1 : 2 ^ a ≤ 2 ^ a * (2 * k + 1) := Nat.le_mul_of_pos_right _ (by omega)
  have h0 : 0 < 2 ^ a := Nat.pow_pos (by decide)
  generalize hn : 2 ^ a * (2 * k + 1) = n at *
  have h31 : (2 : Nat) ^ 31 = 2147483648 := by decide
  have h32 : (2 : Nat) ^ 32 = 4294967296 := by decide
  unfold zand
  rw [w32_of]
  have e1 : (Int32.ofInt (n : Int)).toBitVec.toNat = n := by
    show (BitVec.ofInt 32 (n : Int)).toNat = n
    rw [BitVec.toNat_ofInt]
    omega
  have e2 : (Int32.ofInt (-(n : Int))).toBitVec.toNat = 2 ^ 32 - n := by
    show (BitVec.ofInt 32 (-(n : Int))).toNat = _
    rw [BitVec.toNat_ofInt]
    omega
  have e3 : (Int32.ofInt (n : Int) &&& Int32.ofInt (-(n : Int))).toBitVec.toNat = 2 ^ a := by
    rw [Int32.toBitVec_and, BitVec.toNat_and, e1, e2]; exact hl
  show (Int32.ofInt (n : Int) &&& Int32.ofInt (-(n : Int))).toBitVec.toInt = _
  rw [BitVec.toInt_eq_toNat_of_lt (by rw [e3]; omega), e3]
/-- v of the guide: what the odd part has in common with 2 to the (a and 1), less 1 -/
def zog (a n : Nat) : Nat := Nat.gcd (2 ^ (a + 1) - 1) n
theorem zog_b {a k : Nat} : 1 ≤ zog a (2 ^ a * (2 * k + 1)) ∧ 2 ^ a * zog a (2 ^ a * (2 * k + 1)) ≤ 2 ^ a * (2 * k + 1) := by
  have h0 : 0 < 2 ^ a := Nat.pow_pos (by decide)
  have h1 : 0 < 2 ^ a * (2 * k + 1) := Nat.mul_pos h0 (by omega)
  have hpos : 0 < zog a (2 ^ a * (2 * k + 1)) := Nat.gcd_pos_of_pos_right _ h1
  refine ⟨hpos, Nat.mul_le_mul_left _ ?_⟩
  have d1 : zog a (2 ^ a * (2 * k + 1)) ∣ 2 ^ (a + 1) - 1 := Nat.gcd_dvd_left _ _
  have d2 : zog a (2 ^ a * (2 * k + 1)) ∣ 2 ^ a * (2 * k + 1) := Nat.gcd_dvd_right _ _
  have hc : Nat.Coprime (zog a (2 ^ a * (2 * k + 1))) (2 ^ a) := by
    refine Nat.Coprime.pow_right a ?_
    have g1 : Nat.gcd (zog a (2 ^ a * (2 * k + 1))) 2 ∣ 2 := Nat.gcd_dvd_right _ _
    have g2 : Nat.gcd (zog a (2 ^ a * (2 * k + 1))) 2 ∣ 2 ^ (a + 1) - 1 := Nat.dvd_trans (Nat.gcd_dvd_left _ _) d1
    have := Nat.le_of_dvd (by decide) g1
    have h3 : 0 < Nat.gcd (zog a (2 ^ a * (2 * k + 1))) 2 := Nat.gcd_pos_of_pos_right _ (by decide)
    rcases (by omega : Nat.gcd (zog a (2 ^ a * (2 * k + 1))) 2 = 1 ∨ Nat.gcd (zog a (2 ^ a * (2 * k + 1))) 2 = 2) with z | z
    · exact z
    · rw [z, Nat.pow_succ] at g2
      omega
  exact Nat.le_of_dvd (by omega) (hc.dvd_of_dvd_mul_left d2)
/-- twos of a number -/
noncomputable def zta (n : Nat) : Nat := by
  classical
  exact if h : ∃ a k : Nat, n = 2 ^ a * (2 * k + 1) then h.choose else 0
theorem zta_eq {a k : Nat} : zta (2 ^ a * (2 * k + 1)) = a := by
  unfold zta
  have hx : ∃ b j : Nat, 2 ^ a * (2 * k + 1) = 2 ^ b * (2 * j + 1) := ⟨a, k, rfl⟩
  rw [dif_pos hx]
  obtain ⟨j, hj⟩ := hx.choose_spec
  exact ((zpow_cancel (p := 2) (by decide) (by omega) (by omega) hj).1).symm
theorem zta_n {n : Nat} (h : 1 ≤ n) : ∃ k, n = 2 ^ zta n * (2 * k + 1) := by
  obtain ⟨a, k, e⟩ := ztwo n h
  refine ⟨k, ?_⟩
  rw [e, zta_eq]
/-- GUIDE, or 0 -/
noncomputable def zgde (n : Nat) : Int := if n = 0 ∨ n % 2 = 1 then 0 else ((2 ^ zta n * zog (zta n) n : Nat) : Int)
noncomputable def zdrv (n : Nat) : Int := if n = 0 ∨ n % 2 = 1 then 0 else if 2 ^ (zta n - 1) ∣ zSg (zfac (zog (zta n) n)) then 1 else 0
theorem zgde_e {n : Nat} (h : 1 ≤ n) (h2 : n % 2 = 0) : 1 ≤ zta n ∧ zta n ≤ 30 ∨ 2 ^ 31 ≤ n := by
  obtain ⟨k, e⟩ := zta_n h
  have h1 : 2 ^ zta n ≤ n := by
    have : 2 ^ zta n ≤ 2 ^ zta n * (2 * k + 1) := Nat.le_mul_of_pos_right _ (by omega)
    omega
  rcases Nat.lt_or_ge (zta n) 1 with z | z
  · have z : zta n = 0 := by omega
    rw [z, Nat.pow_zero, Nat.one_mul] at e
    omega
  · rcases Nat.lt_or_ge 30 (zta n) with y | y
    · have : 2 ^ 31 ≤ 2 ^ zta n := Nat.pow_le_pow_right (by decide) y
      exact Or.inr (by omega)
    · exact Or.inl ⟨z, y⟩
theorem zgde_b {n : Nat} (h : 1 ≤ n) : 1 ≤ zog (zta n) n ∧ 2 ^ zta n * zog (zta n) n ≤ n ∧ zog (zta n) n ≤ n ∧ 2 ^ zta n ≤ n ∧ 1 ≤ 2 ^ zta n := by
  obtain ⟨k, e⟩ := zta_n h
  have := zog_b (a := zta n) (k := k)
  rw [← e] at this
  obtain ⟨h1, h2⟩ := this
  have h3 : 0 < 2 ^ zta n := Nat.pow_pos (by decide)
  refine ⟨h1, h2, Nat.le_trans (Nat.le_mul_of_pos_left _ h3) h2, Nat.le_trans (Nat.le_mul_of_pos_right _ h1) h2, h3⟩
theorem zw64_1 {x : Nat} (h1 : 1 ≤ x) (h2 : x ≤ 9223372036854775807) : w64 ((x : Int) - 1) = ((x - 1 : Nat) : Int) := by
  rw [w64_id (by omega)]; omega
section Z44
variable {w : zWt} {d : Nat} {H : zHt}
theorem c67l {a k : Nat} {K : Int → zHt → Prop} (h : 2 ^ a * (2 * k + 1) < 2 ^ 31) (ha : a ≤ 31) : ∀ (c b : Nat), b + c = a → K a H → zgo w d 67 4 [zJ, zI b, zI ((2 ^ c * (2 * k + 1) : Nat) : Int)] [] H (zQI K) := by
  have h31 : (2 : Nat) ^ 31 = 2147483648 := by decide
  intro c
  induction c with
  | zero =>
    intro b hb hK
    have : b = a := by omega
    subst this
    rw [Nat.pow_zero, Nat.one_mul]
    refine x67_4 ⟨fun q => by omega, fun _ => ⟨fun _ => hK, fun q => ?_⟩⟩
    have e : Int.tmod ((2 * k + 1 : Nat) : Int) 2 = (((2 * k + 1) % 2 : Nat) : Int) := ztmod _ 2
    rw [e] at q
    omega
  | succ c ih =>
    intro b hb hK
    have hle : 2 ^ (c + 1) * (2 * k + 1) ≤ 2 ^ a * (2 * k + 1) := Nat.mul_le_mul_right _ (Nat.pow_le_pow_right (by decide) (by omega))
    have e1 : 2 ^ (c + 1) * (2 * k + 1) = 2 * (2 ^ c * (2 * k + 1)) := by rw [Nat.pow_succ, Nat.mul_comm (2 ^ c) 2, Nat.mul_assoc]
    have hp : 0 < 2 ^ c * (2 * k + 1) := Nat.mul_pos (Nat.pow_pos (by decide)) (by omega)
    have et : Int.tmod ((2 ^ (c + 1) * (2 * k + 1) : Nat) : Int) 2 = 0 := by
      rw [show (2 : Int) = ((2 : Nat) : Int) from rfl, ztmod, e1, Nat.mul_mod_right]; rfl
    have ed : w32 (Int.tdiv ((2 ^ (c + 1) * (2 * k + 1) : Nat) : Int) 2) = ((2 ^ c * (2 * k + 1) : Nat) : Int) := by
      rw [show (2 : Int) = ((2 : Nat) : Int) from rfl, ztdiv, e1, Nat.mul_div_cancel_left _ (by decide)]
      exact w32_id (by omega)
    refine x67_4 ⟨fun q => by omega, fun _ => ⟨fun q => absurd et q, fun _ => ?_⟩⟩
    rw [ed, zi1 (by omega)]
    exact ih (b + 1) (by omega) hK
theorem c67 {n : Nat} {K : Int → zHt → Prop} (h1 : 1 ≤ n) (hn : n ≤ 999999999) : zclI w d 67 [zI n] H K = K (zta n) H := zclI_eq fun K h => x67_0 (by
  obtain ⟨k, e⟩ := zta_n h1
  have h31 : (2 : Nat) ^ 31 = 2147483648 := by decide
  have hb := zgde_b h1
  have ha : zta n ≤ 31 := by
    rcases Nat.lt_or_ge 31 (zta n) with y | y
    · have : 2 ^ 31 ≤ 2 ^ zta n := Nat.pow_le_pow_right (by decide) (by omega)
      omega
    · exact y
  have := c67l (w := w) (d := d) (H := H) (K := K) (a := zta n) (k := k) (by rw [← e]; omega) ha (zta n) 0 (by omega) h
  rw [← e] at this
  exact this)
theorem zlow_n {n : Nat} (h1 : 1 ≤ n) (hn : n ≤ 999999999) : zand (n : Int) (w32 (-(n : Int))) = ((2 ^ zta n : Nat) : Int) := by
  obtain ⟨k, e⟩ := zta_n h1
  have h31 : (2 : Nat) ^ 31 = 2147483648 := by decide
  have := zlow_eq (a := zta n) (k := k) (by rw [← e]; omega)
  rw [← e] at this
  exact this
theorem c65 {n : Nat} {K : Int → zHt → Prop} (h1 : 1 ≤ n) (hn : n ≤ 999999999) : zclI w (d + 1) 65 [zI n] H K = K (zog (zta n) n) H := zclI_eq fun K h => x65_0 (by
  have hb := zgde_b h1
  rw [zlow_n h1 hn]
  have h2 : 2 ^ (zta n + 1) = 2 * 2 ^ zta n := by rw [Nat.pow_succ, Nat.mul_comm]
  have e1 : w32 (w32 (2 * ((2 ^ zta n : Nat) : Int)) - 1) = ((2 ^ (zta n + 1) - 1 : Nat) : Int) := by
    rw [h2, w32_id (show _ ≤ 2 * ((2 ^ zta n : Nat) : Int) ∧ _ by omega), w32_id (by omega)]; omega
  have hz : zog (zta n) n = Nat.gcd (2 ^ (zta n + 1) - 1) n := rfl
  rw [e1, c66 (by omega) (by omega), ← hz, if_neg (by omega), w32_id (by omega)]
  exact h)
theorem ztm2 (n : Nat) : Int.tmod (n : Int) 2 = ((n % 2 : Nat) : Int) := ztmod n 2
theorem c64 {n : Nat} {K : Int → zHt → Prop} (hn : n ≤ 999999999) : zclI w (d + 2) 64 [zI n] H K = K (zgde n) H := zclI_eq fun K h => x64_0 (by
  unfold zgde at h
  rw [ztm2]
  refine ⟨fun q => by rwa [if_pos (by omega)] at h, fun q => ⟨fun q2 => ?_, fun q2 => by rwa [if_pos (by omega)] at h⟩⟩
  have hb := zgde_b (n := n) (by omega)
  rw [if_neg (by omega)] at h
  rw [c65 (by omega) hn, zlow_n (by omega) hn, ← Int.natCast_mul, w32_id (by omega)]
  exact h)
theorem c68 {n : Nat} (hMR : zMR) (hn : n ≤ 999999999) : ∃ H', zfc H H' ∧ ∀ K : Int → zHt → Prop, zclI w (d + 4) 68 [zR 32, zI n] H K = K (zdrv n) H' := by
  by_cases he : n = 0 ∨ n % 2 = 1
  · refine ⟨H, zfc_rfl, fun K => zclI_eq fun K h => x68_0 ?_⟩
    unfold zdrv at h
    rw [if_pos he] at h
    rw [c64 hn, show zgde n = 0 from if_pos he]
    exact ⟨fun q => absurd rfl q, fun _ => h⟩
  · have hb := zgde_b (n := n) (by omega)
    obtain ⟨H1, g, e⟩ := c69 (w := w) (H := H) (d := d) (n := zog (zta n) n) hMR hb.1 (by omega)
    obtain ⟨H2, F, -⟩ := c45 (w := w) (H := H) (d := d) (n := zog (zta n) n) hMR hb.1 (by omega)
    obtain ⟨es, s1, s2, -⟩ := zSg_b (by omega) F.2.1
    refine ⟨H1, g, fun K => zclI_eq fun K h => x68_0 ?_⟩
    unfold zdrv at h
    rw [if_neg he] at h
    have e1 : zgde n = ((2 ^ zta n * zog (zta n) n : Nat) : Int) := if_neg he
    have hpos : 0 < 2 ^ zta n * zog (zta n) n := Nat.mul_pos hb.2.2.2.2 hb.1
    rw [c64 hn, e1]
    refine ⟨fun _ => ?_, fun q => by omega⟩
    rw [c65 (by omega) hn, e, es, zlow_n (by omega) hn]
    obtain ⟨a, ha⟩ : ∃ a, zta n = a + 1 := ⟨zta n - 1, by
      have := zgde_e (n := n) (by omega) (by omega)
      have h31 : (2 : Nat) ^ 31 = 2147483648 := by decide
      omega⟩
    rw [ha] at h ⊢
    rw [Nat.add_sub_cancel] at h
    have h2 : (2 : Nat) ^ (a + 1) / 2 = 2 ^ a := by rw [Nat.pow_succ, Nat.mul_div_cancel _ (by decide)]
    have hp : 0 < 2 ^ a := Nat.pow_pos (by decide)
    have hle : 2 ^ a ≤ 2 ^ (a + 1) := Nat.pow_le_pow_right (by decide) (by omega)
    have hz : 2 ^ (a + 1) ≤ n := by rw [← ha]; exact hb.2.2.2.1
    have e2 : (if 1 < w32 (Int.tdiv ((2 ^ (a + 1) : Nat) : Int) 2) then w32 (Int.tdiv ((2 ^ (a + 1) : Nat) : Int) 2) else 1) = ((2 ^ a : Nat) : Int) := by
      rw [show (2 : Int) = ((2 : Nat) : Int) from rfl, ztdiv, h2, w32_id (by omega)]
      by_cases y : (1 : Int) < ((2 ^ a : Nat) : Int)
      · rw [if_pos y]
      · rw [if_neg y]; omega
    rw [e2, ztmod]
    refine ⟨by clear e2 h e1 hpos e es s1 s2 hle hz h2; generalize 2 ^ a = x at hp ⊢; omega, fun q => ?_, fun q => ?_⟩
    · rw [if_neg (fun y => q (by rw [Nat.mod_eq_zero_of_dvd y]; rfl))] at h; exact h
    · rw [if_pos (Nat.dvd_of_mod_eq_zero (by omega))] at h; exact h
-- the model's
def zfg (H H' : zHt) : Prop := ∀ a j : Int, a ≠ 85 → a ≠ 86 → ¬ (a = 81 ∧ (j = 8 ∨ j = 9 ∨ j = 10)) → H' a j = H a j
theorem zfg_fm {H0 H H' : zHt} (h : zfg H0 H) (g : zfm H H') : zfg H0 H' := fun a j h1 h2 h3 => (g a j h1 h2 (by omega)).trans (h a j h1 h2 h3)
theorem zfg_tr {H0 H H' : zHt} (h : zfg H0 H) (g : zfg H H') : zfg H0 H' := fun a j h1 h2 h3 => (g a j h1 h2 h3).trans (h a j h1 h2 h3)
theorem zfg_keep {H H' : zHt} (h : zfg H H') : zkeep H H' := fun a j q => h a j (fun z => by subst z; cases q) (fun z => by subst z; cases q) (fun z => by obtain ⟨rfl, rfl | rfl | rfl⟩ := z <;> cases q)
theorem zmf_fg {H0 H H1 : zHt} (h : zmf H0 H) (f : zfg H H1) : zmf H0 H1 := zmf_tr h ⟨zfg_keep f, f 32 14 (by decide) (by decide) (by decide)⟩
def zLaid (H : zHt) (n : Nat) (H' : zHt) : Prop := (∀ a j : Int, ¬ (a = 81 ∧ (j = 9 ∨ j = 10)) → H' a j = H a j) ∧ H' 81 9 = zta n ∧ H' 81 10 = zog (zta n) n
theorem zLaid_f {H H' : zHt} {n : Nat} (h : zLaid H n H') : zfg H H' := fun a j _ _ h3 => h.1 a j (by omega)
theorem c188l {H0 : zHt} {n a k : Nat} (hn : n = 2 ^ a * (2 * k + 1)) (h9 : n ≤ 999999999) : ∀ (c b : Nat) (H : zHt), b + c = a → (∀ x j : Int, ¬ (x = 81 ∧ (j = 9 ∨ j = 10)) → H x j = H0 x j) → H 81 9 = b → zgo w (d + 1) 188 7 [zR 81, zI n, zI ((2 ^ c * (2 * k + 1) : Nat) : Int)] [] H (zQV (zLaid H0 n)) := by
  have h31 : (2 : Nat) ^ 31 = 2147483648 := by decide
  have hpa : 2 ^ a ≤ n := by rw [hn]; exact Nat.le_mul_of_pos_right _ (by omega)
  have ha : a ≤ 31 := by
    rcases Nat.lt_or_ge 31 a with y | y
    · have : 2 ^ 31 ≤ 2 ^ a := Nat.pow_le_pow_right (by decide) (by omega)
      omega
    · exact y
  intro c
  induction c with
  | zero =>
    intro b H hb hf h9b
    have : b = a := by omega
    subst this
    rw [Nat.pow_zero, Nat.one_mul]
    have hta : zta n = b := by rw [hn, zta_eq]
    have hb := zgde_b (n := n) (by rw [hn]; exact Nat.mul_pos (Nat.pow_pos (by decide)) (by omega))
    have h2 : 2 ^ (b + 1) = 2 * 2 ^ b := by rw [Nat.pow_succ, Nat.mul_comm]
    refine x188_7 ⟨fun _ => ?_, fun q => ?_⟩
    · rw [h9b, zi1 (by omega), show (2 : Int) = ((2 : Nat) : Int) from rfl, c184 (p := 2) (e := b + 1) (by decide) (by rw [h2]; omega) (by omega)]
      rw [zw64_1 (x := 2 ^ (b + 1)) (Nat.pow_pos (by decide)) (by rw [h2]; exact Nat.le_trans (Nat.mul_le_mul_left 2 (Nat.le_trans hpa h9)) (by decide)), c189]
      have hz : Nat.gcd (2 ^ (b + 1) - 1) n = zog (zta n) n := by rw [hta]; rfl
      rw [hz, w32_id (by omega)]
      refine ⟨fun x j q => ?_, ?_, zq_eq⟩
      · rw [zq_ne (by omega)]; exact hf x j q
      · rw [zq_ne (by decide), h9b, hta]
    · rw [ztm2] at q
      omega
  | succ c ih =>
    intro b H hb hf h9b
    have hle : 2 ^ (c + 1) * (2 * k + 1) ≤ 2 ^ a * (2 * k + 1) := Nat.mul_le_mul_right _ (Nat.pow_le_pow_right (by decide) (by omega))
    have e1 : 2 ^ (c + 1) * (2 * k + 1) = 2 * (2 ^ c * (2 * k + 1)) := by rw [Nat.pow_succ, Nat.mul_comm (2 ^ c) 2, Nat.mul_assoc]
    have et : Int.tmod ((2 ^ (c + 1) * (2 * k + 1) : Nat) : Int) 2 = 0 := by
      rw [ztm2, e1, Nat.mul_mod_right]; rfl
    have ed : w32 (Int.tdiv ((2 ^ (c + 1) * (2 * k + 1) : Nat) : Int) 2) = ((2 ^ c * (2 * k + 1) : Nat) : Int) := by
      rw [show (2 : Int) = ((2 : Nat) : Int) from rfl, ztdiv, e1, Nat.mul_div_cancel_left _ (by decide)]
      exact w32_id (by omega)
    refine x188_7 ⟨fun q => absurd et q, fun _ => ?_⟩
    rw [ed, h9b, zi1 (by omega)]
    refine ih (b + 1) _ (by omega) (fun x j q => ?_) zq_eq
    rw [zq_ne (by omega)]; exact hf x j q
theorem c188 {n : Nat} (h1 : 1 ≤ n) (hn : n ≤ 999999999) : ∃ H', zLaid H n H' ∧ ∀ K : zHt → Prop, zclV w (d + 1) 188 [zR 81, zI n] H K = K H' := by
  obtain ⟨k, e⟩ := zta_n h1
  refine zclV_ex (x188_0 ?_)
  have := c188l (w := w) (d := d) (H0 := H) (n := n) (a := zta n) (k := k) e hn (zta n) 0 (zup H 81 9 0) (by omega) (fun x j q => by rw [zq_ne (by omega)]) zq_eq
  rw [← e] at this
  exact this
theorem c190 {n : Nat} {K : Int → zHt → Prop} (h1 : 1 ≤ n) (h2 : n % 2 = 0) (hn : n ≤ 999999999) (ha : H 81 9 = zta n) (ho : H 81 10 = zog (zta n) n) : zclI w (d + 1) 190 [zR 81] H K = K (zgde n) H := zclI_eq fun K h => x190_0 (by
  have hb := zgde_b h1
  have hz := zgde_e h1 h2
  have h31 : (2 : Nat) ^ 31 = 2147483648 := by decide
  rw [ha, show (2 : Int) = ((2 : Nat) : Int) from rfl, c184 (by decide) (by omega) (by omega), ho, w32_id (show _ ≤ ((2 ^ zta n : Nat) : Int) ∧ _ by omega), ← Int.natCast_mul, w32_id (by omega)]
  unfold zgde at h
  rw [if_neg (by omega)] at h
  exact h)
theorem c191l {a : Nat} {K : Int → zHt → Prop} (ha : a ≤ 30) {s0 : Nat} (hs0 : s0 ≤ 511999999488) : ∀ (s b : Nat), s0 = 2 ^ b * s → 1 ≤ s → K (if 2 ^ a ∣ s0 then 1 else 0) H → zgo w (d + 1) 191 22 [zJ, zJ, zI ((a + 1 : Nat) : Int), zL s, zJ, zI b] [] H (zQI K) := by
  intro s
  induction s using Nat.strongRecOn with
  | ind s ih =>
    intro b hb hs hK
    have hb2 : 2 ^ b ≤ s0 := by rw [hb]; exact Nat.le_mul_of_pos_right _ hs
    have hb40 : b ≤ 40 := by
      rcases Nat.lt_or_ge 40 b with y | y
      · have h1 : 2 ^ 41 ≤ 2 ^ b := Nat.pow_le_pow_right (by decide) (by omega)
        have h2 : (2 : Nat) ^ 41 = 2199023255552 := by decide
        omega
      · exact y
    refine x191_22 ⟨fun q => ?_, fun q => ?_⟩
    · rw [ztm2] at q
      have ho : ¬ 2 ∣ s := fun z => q (by rw [Nat.mod_eq_zero_of_dvd z]; rfl)
      have ew : w32 (((a + 1 : Nat) : Int) - 1) = (a : Int) := by rw [w32_id (by omega)]; omega
      rw [ew]
      refine ⟨fun q2 => ?_, fun q2 => ?_⟩
      · rw [if_neg (fun z => ?_)] at hK
        · exact hK
        · obtain ⟨c, hc⟩ : ∃ c, a = b + 1 + c := ⟨a - b - 1, by omega⟩
          rw [hb, hc, Nat.pow_add, Nat.pow_succ, Nat.mul_assoc] at z
          exact ho (Nat.dvd_trans (Nat.dvd_mul_right _ _) (Nat.dvd_of_mul_dvd_mul_left (Nat.pow_pos (by decide)) z))
      · rw [if_pos (by rw [hb]; exact Nat.dvd_trans (Nat.pow_dvd_pow 2 (by omega)) (Nat.dvd_mul_right _ _))] at hK
        exact hK
    · rw [ztm2] at q
      obtain ⟨m, rfl⟩ := Nat.dvd_of_mod_eq_zero (show s % 2 = 0 by omega)
      have hsl : 2 * m ≤ s0 := by rw [hb]; exact Nat.le_mul_of_pos_left _ (Nat.pow_pos (by decide))
      rw [show w64 (Int.tdiv ((2 * m : Nat) : Int) 2) = (m : Int) by
        rw [show (2 : Int) = ((2 : Nat) : Int) from rfl, ztdiv, Nat.mul_div_cancel_left _ (by decide)]; exact w64_id (by omega), zi1 (by omega)]
      exact ih m (by omega) (b + 1) (by rw [hb, Nat.pow_succ, Nat.mul_assoc]) (by omega) hK
theorem c191 {n : Nat} (h1 : 1 ≤ n) (h2 : n % 2 = 0) (hn : n ≤ 999999999) : ∃ H', zfg H H' ∧ ∀ K : Int → zHt → Prop, zclI w (d + 3) 191 [zR 81, zI n] H K = K (zdrv n) H' := by
  have hb := zgde_b h1
  obtain ⟨H1, L, e⟩ := c188 (w := w) (d := d + 1) (H := H) (n := n) h1 hn
  obtain ⟨H2, F, e2⟩ := c182 (w := w) (d := d + 1) (H := H1) (n := zog (zta n) n) hb.1 (by omega)
  obtain ⟨es, s1, s2, -⟩ := zSg_b (by omega) F.2.1
  refine ⟨H2, zfg_fm (zLaid_f L) F.1, fun K => zclI_eq fun K h => x191_0 ?_⟩
  obtain ⟨a, ha⟩ : ∃ a, zta n = a + 1 := ⟨zta n - 1, by
    have := zgde_e (n := n) (by omega) (by omega)
    have h31 : (2 : Nat) ^ 31 = 2147483648 := by decide
    omega⟩
  have ha30 : a ≤ 30 := by
    have := zgde_e (n := n) (by omega) (by omega)
    have h31 : (2 : Nat) ^ 31 = 2147483648 := by decide
    omega
  rw [e, L.2.2, e2, L.2.1, es]
  unfold zdrv at h
  rw [if_neg (by omega)] at h
  rw [ha] at h es s1 s2 hb ⊢
  rw [Nat.add_sub_cancel] at h
  exact c191l ha30 (by omega) _ 0 (by rw [Nat.pow_zero, Nat.one_mul]) (by omega) h
-- the case guide
noncomputable def zAgd (v t : Int) : Int × Int := if (1 ≤ v ∧ v ≤ 999999999) ∧ 0 ≤ t ∧ t ≤ 3 then (if v.toNat % 2 = 1 then (5, -1) else (0, if t = 0 then zgde v.toNat else if t = 1 then (zta v.toNat : Int) else if t = 2 then (zog (zta v.toNat) v.toNat : Int) else zdrv v.toNat)) else (1, -1)
theorem zdrv_01 {n : Nat} : zdrv n = 0 ∨ zdrv n = 1 := by
  unfold zdrv
  split
  · exact Or.inl rfl
  · split
    · exact Or.inr rfl
    · exact Or.inl rfl
theorem b63 {v t : Int} (hMR : zMR) : zclI w (d + 5) 63 [zR 32, zI v, zI t] H (zPC H (zAgd v t)) := by
  unfold zAgd
  by_cases hg : (1 ≤ v ∧ v ≤ 999999999) ∧ 0 ≤ t ∧ t ≤ 3
  · rw [if_pos hg]
    obtain ⟨n, rfl⟩ : ∃ n : Nat, v = n := ⟨v.toNat, by omega⟩
    obtain ⟨H1, g, e⟩ := c68 (w := w) (d := d) (H := H) (n := n) hMR (by omega)
    rw [Int.toNat_natCast]
    refine x63_0 ?_
    simp only [c43, c44, c81, zit0, Classical.not_not]
    refine ⟨fun q => absurd hg.1 q, fun _ => ⟨fun _ => ?_, fun q => absurd hg.2 q⟩⟩
    rw [ztm2, c64 (by omega), c67 (by omega) (by omega), c65 (by omega) (by omega), e]
    refine ⟨fun q => ?_, fun q => zPC_r zcf_rfl (by rw [if_pos (by omega)])⟩
    rw [if_neg (by omega)]
    refine ⟨fun q2 => ?_, fun q2 => zPC_d zcf_rfl (by rw [if_pos q2]), fun q2 => zPC_d zcf_rfl (by rw [if_neg (by omega), if_pos q2]), fun q2 => zPC_d zcf_rfl (by rw [if_neg (by omega), if_neg (by omega), if_pos q2])⟩
    rw [if_neg (by omega), if_neg (by omega), if_neg (by omega)]
    rcases zdrv_01 (n := n) with z | z
    · rw [z]; exact ⟨fun _ => zPC_d (zcf_fc zcf_rfl g) rfl, fun q => absurd rfl q⟩
    · rw [z]; exact ⟨fun q => absurd q (by decide), fun _ => zPC_d (zcf_fc zcf_rfl g) rfl⟩
  · have eA : (1, -1) = ((1 : Int), (-1 : Int)) := rfl
    rw [if_neg hg]
    refine x63_0 ?_
    simp only [c43, c44, c81, zit0, Classical.not_not]
    repeat' (first | exact zPC_r zcf_rfl eA | omega | intro _ | with_reducible refine And.intro ?_ ?_)
theorem b187 {v t : Int} : zclI w (d + 5) 187 [zR 81, zI v, zI t] H (zPM H (zAgd v t)) := by
  unfold zAgd
  by_cases hg : (1 ≤ v ∧ v ≤ 999999999) ∧ 0 ≤ t ∧ t ≤ 3
  · rw [if_pos hg]
    obtain ⟨n, rfl⟩ : ∃ n : Nat, v = n := ⟨v.toNat, by omega⟩
    rw [Int.toNat_natCast]
    refine x187_0 ?_
    simp only [c176, c173, c201, c174_0, c174_1, c174_2, c174_3, c174_4, c174_5, zit0, z10a, z10b, Classical.not_not, not_true_eq_false, false_implies, true_implies, true_and, and_true]
    refine ⟨fun q => absurd hg.1 q, fun _ => ⟨fun _ => ⟨fun q => ?_, fun q => ?_⟩, fun q => absurd hg.2 q⟩⟩
    · rw [ztm2] at q
      rw [if_neg (by omega)]
      obtain ⟨H1, L, e⟩ := c188 (w := w) (d := d + 3) (H := zst H 0) (n := n) (by omega) (by omega)
      obtain ⟨H2, g, e2⟩ := c191 (w := w) (d := d + 1) (H := H1) (n := n) (by omega) (by omega) (by omega)
      have hs1 : H1 81 0 = 0 := (L.1 81 0 (by decide)).trans rfl
      have hs2 : H2 81 0 = 0 := (g 81 0 (by decide) (by decide) (by decide)).trans hs1
      have f1 : zmf H H1 := zmf_fg (zst_f zmf_rfl) (zLaid_f L)
      refine x187_36 ?_
      simp only [c176, c173, c201, c174_0, c174_1, c174_2, c174_3, c174_4, c174_5, zit0, z10a, z10b, Classical.not_not, not_true_eq_false, false_implies, true_implies, true_and, and_true]
      rw [e, c190 (by omega) (by omega) (by omega) L.2.1 L.2.2, e2, L.2.1, L.2.2]
      refine ⟨fun q2 => ?_, fun q2 => zPM_0 f1 hs1 (by rw [if_pos q2]), fun q2 => zPM_0 f1 hs1 (by rw [if_neg (by omega), if_pos q2]), fun q2 => zPM_0 f1 hs1 (by rw [if_neg (by omega), if_neg (by omega), if_pos q2])⟩
      rw [if_neg (by omega), if_neg (by omega), if_neg (by omega)]
      rcases zdrv_01 (n := n) with z | z
      · rw [z]; exact ⟨fun _ => zPM_0 (zmf_fg f1 g) hs2 rfl, fun q => absurd rfl q⟩
      · rw [z]; exact ⟨fun q => absurd q (by decide), fun _ => zPM_0 (zmf_fg f1 g) hs2 rfl⟩
    · rw [ztm2] at q
      rw [if_pos (by omega)]
      refine x187_36 ?_
      simp only [c176, c173, c201, c174_0, c174_1, c174_2, c174_3, c174_4, c174_5, zit0, z10a, z10b, Classical.not_not, not_true_eq_false, false_implies, true_implies, true_and, and_true]
      exact zPM_n zmf_rfl rfl
  · have eA : (1, -1) = ((1 : Int), (-1 : Int)) := rfl
    rw [if_neg hg]
    have L : zgo w (d + 5) 187 36 [zR 81, zI v, zI t] [zI 1, zR 81] H (zQI (zPM H (1, -1))) := by
      refine x187_36 ?_
      simp only [c176, c173, c201, c174_0, c174_1, c174_2, c174_3, c174_4, c174_5, zit0, z10a, z10b, Classical.not_not, not_true_eq_false, false_implies, true_implies, true_and, and_true]
      exact zPM_n zmf_rfl eA
    refine x187_0 ?_
    simp only [c176, c173, c201, c174_0, c174_1, c174_2, c174_3, c174_4, c174_5, zit0, z10a, z10b, Classical.not_not, not_true_eq_false, false_implies, true_implies, true_and, and_true]
    repeat' (first | exact L | omega | intro _ | with_reducible refine And.intro ?_ ?_)
end Z44
theorem l515 {w : zWt} (hw : w.1 ≤ 3072) (hMR : zMR) : zLaw w (zKept zAllR) 515 := fun H i hi hR K nx => x0_515 (d := 1999) (by
  refine ⟨zidx hw hi (by decide) (by decide), zidx hw hi (by decide) (by decide), ?_⟩
  have r1 : r32 (zH0 w.2 0 (w32 ((i : Int) + 1))) := zv_r
  generalize zH0 w.2 0 (w32 ((i : Int) + 1)) = v1 at r1 ⊢
  have r2 : r32 (zH0 w.2 0 (w32 ((i : Int) + 2))) := zv_r
  generalize zH0 w.2 0 (w32 ((i : Int) + 2)) = v2 at r2 ⊢
  exact zcaseI (A := fun H => zAgd v1 v2) (fun H H1 h => by simp only [h 40 4 rfl, h 40 1 rfl, h 40 2 rfl, h 40 3 rfl]) hR (fun hD hW => b63 (d := 1994) hMR) (fun H1 hD => b187 (d := 1994)) (fun x y H' hk e => nx H' hk))
