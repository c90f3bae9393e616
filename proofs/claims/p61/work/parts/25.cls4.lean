/-! the cases index, mean, kin, before, touched, record, practical -/
noncomputable def zlwt (a b t : Int) : Int := w64 (Int.tdiv (if t = 0 then a else b) (Nat.gcd a.toNat b.toNat))
noncomputable def zAidx (v t : Int) : Int × Int := if (1 ≤ v ∧ v ≤ 999999999) ∧ 0 ≤ t ∧ t ≤ 1 then (0, zlwt (zall (zfac v.toNat)) v t) else (1, -1)
noncomputable def zAmean (v h t : Int) : Int × Int := if (1 ≤ v ∧ v ≤ 999999999) ∧ 0 ≤ t ∧ t ≤ 1 then (0, if h = 0 then zlwt (zall (zfac v.toNat)) (zcnt (zfac v.toNat)) t else zlwt (w64 (v * zcnt (zfac v.toNat))) (zall (zfac v.toNat)) t) else (1, -1)
/-- how many divisors -/
def zDn (l : List (Nat × Nat)) : Nat := zPi (fun q => q.2 + 1) l
theorem zDn_b : ∀ {l : List (Nat × Nat)}, (∀ q ∈ l, 1 ≤ q.2 ∧ 2 ≤ q.1) → 1 ≤ zDn l ∧ zDn l ≤ zprod l ∧ zDn l * zDn l ≤ 4 ^ l.length * zprod l
  | [], _ => ⟨Nat.le_refl _, Nat.le_refl _, Nat.le_refl _⟩
  | q :: l, h => by
    obtain ⟨h1, h2⟩ := h q List.mem_cons_self
    obtain ⟨i1, i2, i3⟩ := zDn_b (fun r hr => h r (List.mem_cons_of_mem _ hr))
    have hp : q.2 + 1 ≤ q.1 ^ q.2 := zlt_pow h2
    have sq : ∀ e : Nat, 2 * e + 3 ≤ 4 * 2 ^ e ∧ (e + 1) * (e + 1) ≤ 4 * 2 ^ e := fun e => by
      induction e with
      | zero => exact ⟨by decide, by decide⟩
      | succ e ih =>
        rw [Nat.pow_succ]
        refine ⟨by omega, ?_⟩
        have : (e + 1 + 1) * (e + 1 + 1) = (e + 1) * (e + 1) + (2 * e + 3) := by simp only [Nat.add_mul, Nat.mul_add]; omega
        omega
    have s1 : (q.2 + 1) * (q.2 + 1) ≤ 4 * q.1 ^ q.2 := Nat.le_trans (sq q.2).2 (Nat.mul_le_mul_left 4 (Nat.pow_le_pow_left h2 _))
    have e1 : zDn (q :: l) = (q.2 + 1) * zDn l := rfl
    have e2 : zprod (q :: l) = q.1 ^ q.2 * zprod l := rfl
    rw [e1, e2]
    refine ⟨Nat.mul_pos (by omega) i1, Nat.mul_le_mul hp i2, ?_⟩
    have := Nat.mul_le_mul s1 i3
    rw [List.length_cons, Nat.pow_succ, show (q.2 + 1) * zDn l * ((q.2 + 1) * zDn l) = (q.2 + 1) * (q.2 + 1) * (zDn l * zDn l) by
      rw [Nat.mul_assoc, Nat.mul_assoc, Nat.mul_left_comm (zDn l)]]
    rw [show 4 ^ l.length * 4 * (q.1 ^ q.2 * zprod l) = 4 * q.1 ^ q.2 * (4 ^ l.length * zprod l) by
      rw [Nat.mul_comm (4 ^ l.length) 4, Nat.mul_assoc, Nat.mul_assoc, Nat.mul_left_comm (4 ^ l.length)]]
    exact this
theorem zcnt_b : ∀ {l : List (Nat × Nat)} {s : Nat}, (∀ q ∈ l, 1 ≤ q.2 ∧ 2 ≤ q.1) → s * zDn l ≤ 999999999 → l.foldl (fun s q => w32 (s * w32 ((q.2 : Int) + 1))) (s : Int) = ((s * zDn l : Nat) : Int)
  | [], s, _, _ => by
    show (s : Int) = ((s * 1 : Nat) : Int)
    rw [Nat.mul_one]
  | q :: l, s, h, hb => by
    obtain ⟨i1, -, -⟩ := zDn_b (fun r hr => h r (List.mem_cons_of_mem _ hr))
    rw [show zDn (q :: l) = (q.2 + 1) * zDn l from rfl, ← Nat.mul_assoc] at hb ⊢
    rw [List.foldl_cons]
    rcases Nat.eq_zero_or_pos s with z | z
    · subst z
      have : w32 (((0 : Nat) : Int) * w32 ((q.2 : Int) + 1)) = ((0 : Nat) : Int) := by
        show w32 (0 * _) = 0
        rw [Int.zero_mul]; rfl
      rw [this]
      have ih := zcnt_b (l := l) (s := 0) (fun r hr => h r (List.mem_cons_of_mem _ hr)) (by omega)
      rw [ih]; simp
    · have hb0 : s * (q.2 + 1) ≤ 999999999 := Nat.le_trans (Nat.le_mul_of_pos_right _ i1) hb
      have hq : q.2 + 1 ≤ s * (q.2 + 1) := Nat.le_mul_of_pos_left _ z
      rw [w32_id (show _ ≤ (q.2 : Int) + 1 ∧ _ by omega), show (s : Int) * ((q.2 : Int) + 1) = ((s * (q.2 + 1) : Nat) : Int) by rw [Int.natCast_mul]; rfl, w32_id (by omega)]
      exact zcnt_b (fun r hr => h r (List.mem_cons_of_mem _ hr)) hb
theorem zcnt_n {n : Nat} (hn : n ≤ 999999999) (hG : zGood n (zfac n)) : zcnt (zfac n) = (zDn (zfac n) : Nat) ∧ 1 ≤ zDn (zfac n) ∧ zDn (zfac n) ≤ n ∧ zDn (zfac n) ≤ 20000000 := by
  have hq : ∀ q ∈ zfac n, 1 ≤ q.2 ∧ 2 ≤ q.1 := fun q hq => ⟨(zGood_bd hG hq).2.1, (zGood_bd hG hq).1⟩
  obtain ⟨h1, h2, h3⟩ := zDn_b hq
  rw [hG.2.2] at h2 h3
  have := zcnt_b (l := zfac n) (s := 1) hq (by omega)
  rw [Nat.one_mul] at this
  refine ⟨this, h1, h2, ?_⟩
  have h9 := zGood_nine hG (by omega)
  have h4 : 4 ^ (zfac n).length * n ≤ 4 ^ 9 * 999999999 := Nat.mul_le_mul (Nat.pow_le_pow_right (by decide) h9) hn
  rcases Nat.lt_or_ge 20000000 (zDn (zfac n)) with z | z
  · have := Nat.mul_le_mul (Nat.le_of_lt z) (Nat.le_of_lt z)
    have e : (4 : Nat) ^ 9 * 999999999 < 20000000 * 20000000 := by decide
    omega
  · exact z
section Z41
variable {w : zWt} {d : Nat} {H : zHt}
theorem zmul_b {a b x y : Nat} (ha : a ≤ x) (hb : b ≤ y) (h : x * y < 2 ^ 97 := by decide) : a * b < 2 ^ 97 := Nat.lt_of_le_of_lt (Nat.mul_le_mul ha hb) h
theorem c66p {a b : Nat} {K : Int → zHt → Prop} (h : a * b < 2 ^ 97) : zclL w d 66 [zL a, zL b] H K = K (if ((Nat.gcd a b : Nat) : Int) < 1 then 1 else ((Nat.gcd a b : Nat) : Int)) H := zclL_eq fun K hK => x66_0 (by
  rcases Nat.lt_or_ge a b with q | q
  · refine x66_9 ⟨fun q => by omega, fun _ => ⟨fun q => by omega, fun q2 => ⟨q2, ?_⟩⟩⟩
    rw [ztmod, Nat.mod_eq_of_lt q]
    refine c66l 97 b a 1 (Nat.le_of_lt q) (by rw [Nat.mul_comm]; exact h) (by omega) ?_
    rw [Nat.gcd_comm]; exact hK
  · exact c66l 97 a b 0 q h (by omega) hK)
theorem c77 {a b : Nat} {t : Int} {K : Int → zHt → Prop} (hab : a * b < 2 ^ 97) (h1 : 1 ≤ b) : zclL w (d + 1) 77 [zL a, zL b, zI t] H K = K (zlwt a b t) H := zclL_eq fun K h => x77_0 (by
  have hg : 0 < Nat.gcd a b := Nat.gcd_pos_of_pos_right _ h1
  simp only [c66p hab]
  rw [if_neg (by omega)]
  unfold zlwt at h
  rw [Int.toNat_natCast, Int.toNat_natCast] at h
  exact ⟨fun q => ⟨by omega, by rwa [if_neg q] at h⟩, fun q => ⟨by omega, by rwa [if_pos q] at h⟩⟩)
theorem b76 {v t : Int} (hMR : zMR) : zclL w (d + 4) 76 [zR 32, zI v, zI t] H (zPC H (zAidx v t)) := by
  unfold zAidx
  by_cases hg : (1 ≤ v ∧ v ≤ 999999999) ∧ 0 ≤ t ∧ t ≤ 1
  · rw [if_pos hg]
    obtain ⟨n, rfl⟩ : ∃ n : Nat, v = n := ⟨v.toNat, by omega⟩
    obtain ⟨H1, f, e⟩ := c69 (w := w) (H := H) (d := d) (n := n) hMR (by omega) (by omega)
    obtain ⟨H2, F, -⟩ := c45 (w := w) (H := H) (d := d) (n := n) hMR (by omega) (by omega)
    obtain ⟨s, es, s1, s2, -⟩ := zall_n (by omega) F.2.1
    have s1' : s ≤ 511999999488 := by omega
    refine x76_0 ?_
    simp only [c43, c44, zit0, Classical.not_not]
    repeat' (first | omega | intro _ | with_reducible refine And.intro ?_ ?_)
    rw [e, es, c77 (zmul_b s1' (show n ≤ 999999999 by omega)) (by omega)]
    exact zPC_dL (zcf_fc zcf_rfl f) (by rw [Int.toNat_natCast, es])
  · have eA : (1, -1) = ((1 : Int), (-1 : Int)) := rfl
    rw [if_neg hg]
    refine x76_0 ?_
    simp only [c43, c44, zit0, Classical.not_not]
    repeat' (first | exact zPC_r zcf_rfl eA | omega | intro _ | with_reducible refine And.intro ?_ ?_)
theorem b94 {v h t : Int} (hMR : zMR) : zclL w (d + 4) 94 [zR 32, zI v, zI h, zI t] H (zPC H (zAmean v h t)) := by
  unfold zAmean
  by_cases hg : (1 ≤ v ∧ v ≤ 999999999) ∧ 0 ≤ t ∧ t ≤ 1
  · rw [if_pos hg]
    obtain ⟨n, rfl⟩ : ∃ n : Nat, v = n := ⟨v.toNat, by omega⟩
    obtain ⟨H1, f, e⟩ := c69 (w := w) (H := H) (d := d) (n := n) hMR (by omega) (by omega)
    obtain ⟨H2, f2, e2⟩ := c71 (w := w) (H := H1) (d := d) (n := n) hMR (by omega) (by omega)
    obtain ⟨H3, F, -⟩ := c45 (w := w) (H := H) (d := d) (n := n) hMR (by omega) (by omega)
    obtain ⟨s, es, s1, s2, -⟩ := zall_n (by omega) F.2.1
    have s1' : s ≤ 511999999488 := by omega
    obtain ⟨er, r1, r2, r3⟩ := zcnt_n (by omega) F.2.1
    generalize zDn (zfac n) = r at *
    have hm : n * r ≤ 999999999 * 20000000 := Nat.mul_le_mul (by omega) r3
    refine x94_0 ?_
    simp only [c43, c44, zit0, Classical.not_not]
    refine ⟨fun q => absurd hg.1 q, fun _ => ⟨fun _ => ?_, fun q => absurd hg.2 q⟩⟩
    rw [e, e2, es, er]
    have e3 : w64 ((n : Int) * (r : Int)) = ((n * r : Nat) : Int) := by rw [← Int.natCast_mul]; exact w64_id (by omega)
    refine ⟨fun q => ?_, fun q => ?_⟩
    · rw [c77 (zmul_b s1' r3) (by omega)]
      exact zPC_dL (zcf_fc (zcf_fc zcf_rfl f) f2) (by rw [if_pos q, Int.toNat_natCast, es, er])
    · rw [e3, c77 (zmul_b hm s1') (by omega)]
      exact zPC_dL (zcf_fc (zcf_fc zcf_rfl f) f2) (by rw [if_neg q, Int.toNat_natCast, es, er, e3])
  · have eA : (1, -1) = ((1 : Int), (-1 : Int)) := rfl
    rw [if_neg hg]
    refine x94_0 ?_
    simp only [c43, c44, zit0, Classical.not_not]
    repeat' (first | exact zPC_r zcf_rfl eA | omega | intro _ | with_reducible refine And.intro ?_ ?_)
end Z41
/-! guides and drivers, by both; the case guide -/
theorem ztwo : ∀ n : Nat, 1 ≤ n → ∃ a k : Nat, n = 2 ^ a * (2 * k + 1) := fun n => by
  induction n using Nat.strongRecOn with
  | ind n ih =>
    intro h
    rcases (by omega : n % 2 = 1 ∨ n % 2 = 0) with z | z
    · exact ⟨0, n / 2, by rw [Nat.pow_zero, Nat.one_mul]; omega⟩
    · obtain ⟨a, k, e⟩ := ih (n / 2) (by omega) (by omega)
      refine ⟨a + 1, k, ?_⟩
      rw [Nat.pow_succ, Nat.mul_comm (2 ^ a) 2, Nat.mul_assoc, ← e]; omega
theorem zlow_and {a k : Nat} (h : 2 ^ a * (2 * k + 1) < 2 ^ 31) : (2 ^ a * (2 * k + 1)) &&& (2 ^ 32 - 2 ^ a * (2 * k + 1)) = 2 ^ a := by
  have ha : 0 < 2 ^ a := Nat.pow_pos (by decide)
  have e0 : 2 ^ a * (2 * k + 1) = 2 ^ a * (2 * k) + 2 ^ a := by rw [Nat.mul_add, Nat.mul_one]
  have h1 : 2 ^ a ≤ 2 ^ a * (2 * k + 1) := Nat.le_mul_of_pos_right _ (by omega)
  have ha31 : a < 31 := (Nat.pow_lt_pow_iff_right (by decide)).mp (Nat.lt_of_le_of_lt h1 h)
  apply Nat.eq_of_testBit_eq
  intro i
  have h32 : (2 : Nat) ^ 31 < 2 ^ 32 := by decide
  rw [Nat.testBit_and, Nat.testBit_two_pow, show 2 ^ 32 - 2 ^ a * (2 * k + 1) = 2 ^ 32 - ((2 ^ a * (2 * k) + (2 ^ a - 1)) + 1) by omega, Nat.testBit_two_pow_sub_succ (by omega)]
  rw [Nat.testBit_two_pow_mul_add (2 * k) (by omega)]
  rw [show 2 ^ a * (2 * k + 1) = 2 ^ a * (2 * k + 1) + 0 from rfl, Nat.testBit_two_pow_mul_add (2 * k + 1) ha]
  by_cases q : i < a
  · rw [if_pos q, if_pos q, Nat.zero_testBit, Bool.false_and, decide_eq_false (by omega)]
  · rw [if_neg q, if_neg q]
    obtain ⟨j, rfl⟩ : ∃ j, i = a + j := ⟨i - a, by omega⟩
    rw [show a + j - a = j by omega]
    cases j with
    | zero =>
      rw [Nat.testBit_zero, Nat.testBit_zero, decide_eq_true (show (2 * k + 1) % 2 = 1 by omega), decide_eq_false (show ¬ (2 * k) % 2 = 1 by omega), decide_eq_true (show a + 0 < 32 by omega), decide_eq_true (show a = a + 0 by omega)]
      rfl
    | succ j =>
      rw [Nat.testBit_succ, Nat.testBit_succ, show (2 * k + 1) / 2 = k by omega, show 2 * k / 2 = k by omega, decide_eq_false (show ¬ a = a + (j + 1) by omega)]
      cases Nat.testBit k j <;> simp
theorem zlow_eq {a k : Nat} (h : 2 ^ a * (2 * k + 1) < 2 ^ 31) : zand ((2 ^ a * (2 * k + 1) : Nat) : Int) (w32 (-((2 ^ a * (2 * k + 1) : Nat) : Int))) = ((2 ^ a : Nat) : Int) := by
  have hl := zlow_and h
  have h1 : 2 ^ a ≤ 2 ^ a * (2 * k + 1) := Nat.le_mul_of_pos_right _ (by omega)
  have h0 : 0 < 2 ^ a := Nat.pow_pos (by decide)
  generalize hn : 2 ^ a * (2 * k + 1) = n at *
  have h31 : (2 : Nat) ^ 31 = 2147483648 := by decide
  have h32 : (2 : Nat) ^ 32 = 4294967296 := by decide
  unfold zand
  rw [w32_of]
  have e1 : (Int32.ofInt (n : Int)).toBitVec.toNat = n := by
    show (BitVec.ofInt 32 (n : Int)).toNat = n
    rw [BitVec.toNat_ofInt]
    omega
  have e2 : (Int32.ofInt (-(n : Int))).toBitVec.toNat = 2 ^ 32 - n := by
    show (BitVec.ofInt 32 (-(n : Int))).toNat = _
    rw [BitVec.toNat_ofInt]
    omega
  have e3 : (Int32.ofInt (n : Int) &&& Int32.ofInt (-(n : Int))).toBitVec.toNat = 2 ^ a := by
    rw [Int32.toBitVec_and, BitVec.toNat_and, e1, e2]; exact hl
  show (Int32.ofInt (n : Int) &&& Int32.ofInt (-(n : Int))).toBitVec.toInt = _
  rw [BitVec.toInt_eq_toNat_of_lt (by rw [e3]; omega), e3]
/-- v of the guide: what the odd part has in common with 2 to the (a and 1), less 1 -/
def zog (a n : Nat) : Nat := Nat.gcd (2 ^ (a + 1) - 1) n
theorem zog_b {a k : Nat} : 1 ≤ zog a (2 ^ a * (2 * k + 1)) ∧ 2 ^ a * zog a (2 ^ a * (2 * k + 1)) ≤ 2 ^ a * (2 * k + 1) := by
  have h0 : 0 < 2 ^ a := Nat.pow_pos (by decide)
  have h1 : 0 < 2 ^ a * (2 * k + 1) := Nat.mul_pos h0 (by omega)
  have hpos : 0 < zog a (2 ^ a * (2 * k + 1)) := Nat.gcd_pos_of_pos_right _ h1
  refine ⟨hpos, Nat.mul_le_mul_left _ ?_⟩
  have d1 : zog a (2 ^ a * (2 * k + 1)) ∣ 2 ^ (a + 1) - 1 := Nat.gcd_dvd_left _ _
  have d2 : zog a (2 ^ a * (2 * k + 1)) ∣ 2 ^ a * (2 * k + 1) := Nat.gcd_dvd_right _ _
  have hc : Nat.Coprime (zog a (2 ^ a * (2 * k + 1))) (2 ^ a) := by
    refine Nat.Coprime.pow_right a ?_
    have g1 : Nat.gcd (zog a (2 ^ a * (2 * k + 1))) 2 ∣ 2 := Nat.gcd_dvd_right _ _
    have g2 : Nat.gcd (zog a (2 ^ a * (2 * k + 1))) 2 ∣ 2 ^ (a + 1) - 1 := Nat.dvd_trans (Nat.gcd_dvd_left _ _) d1
    have := Nat.le_of_dvd (by decide) g1
    have h3 : 0 < Nat.gcd (zog a (2 ^ a * (2 * k + 1))) 2 := Nat.gcd_pos_of_pos_right _ (by decide)
    rcases (by omega : Nat.gcd (zog a (2 ^ a * (2 * k + 1))) 2 = 1 ∨ Nat.gcd (zog a (2 ^ a * (2 * k + 1))) 2 = 2) with z | z
    · exact z
    · rw [z, Nat.pow_succ] at g2
      omega
  exact Nat.le_of_dvd (by omega) (hc.dvd_of_dvd_mul_left d2)
/-- twos of a number -/
noncomputable def zta (n : Nat) : Nat := by
  classical
  exact if h : ∃ a k : Nat, n = 2 ^ a * (2 * k + 1) then h.choose else 0
theorem zta_eq {a k : Nat} : zta (2 ^ a * (2 * k + 1)) = a := by
  unfold zta
  have hx : ∃ b j : Nat, 2 ^ a * (2 * k + 1) = 2 ^ b * (2 * j + 1) := ⟨a, k, rfl⟩
  rw [dif_pos hx]
  obtain ⟨j, hj⟩ := hx.choose_spec
  exact ((zpow_cancel (p := 2) (by decide) (by omega) (by omega) hj).1).symm
theorem zta_n {n : Nat} (h : 1 ≤ n) : ∃ k, n = 2 ^ zta n * (2 * k + 1) := by
  obtain ⟨a, k, e⟩ := ztwo n h
  refine ⟨k, ?_⟩
  rw [e, zta_eq]
/-- GUIDE, or 0 -/
noncomputable def zgde (n : Nat) : Int := if n = 0 ∨ n % 2 = 1 then 0 else ((2 ^ zta n * zog (zta n) n : Nat) : Int)
noncomputable def zdrv (n : Nat) : Int := if n = 0 ∨ n % 2 = 1 then 0 else if 2 ^ (zta n - 1) ∣ zSg (zfac (zog (zta n) n)) then 1 else 0
theorem zgde_e {n : Nat} (h : 1 ≤ n) (h2 : n % 2 = 0) : 1 ≤ zta n ∧ zta n ≤ 30 ∨ 2 ^ 31 ≤ n := by
  obtain ⟨k, e⟩ := zta_n h
  have h1 : 2 ^ zta n ≤ n := by
    have : 2 ^ zta n ≤ 2 ^ zta n * (2 * k + 1) := Nat.le_mul_of_pos_right _ (by omega)
    omega
  rcases Nat.lt_or_ge (zta n) 1 with z | z
  · have z : zta n = 0 := by omega
    rw [z, Nat.pow_zero, Nat.one_mul] at e
    omega
  · rcases Nat.lt_or_ge 30 (zta n) with y | y
    · have : 2 ^ 31 ≤ 2 ^ zta n := Nat.pow_le_pow_right (by decide) y
      exact Or.inr (by omega)
    · exact Or.inl ⟨z, y⟩
theorem zgde_b {n : Nat} (h : 1 ≤ n) : 1 ≤ zog (zta n) n ∧ 2 ^ zta n * zog (zta n) n ≤ n ∧ zog (zta n) n ≤ n ∧ 2 ^ zta n ≤ n ∧ 1 ≤ 2 ^ zta n := by
  obtain ⟨k, e⟩ := zta_n h
  have := zog_b (a := zta n) (k := k)
  rw [← e] at this
  obtain ⟨h1, h2⟩ := this
  have h3 : 0 < 2 ^ zta n := Nat.pow_pos (by decide)
  refine ⟨h1, h2, Nat.le_trans (Nat.le_mul_of_pos_left _ h3) h2, Nat.le_trans (Nat.le_mul_of_pos_right _ h1) h2, h3⟩
section Z44
variable {w : zWt} {d : Nat} {H : zHt}
theorem c67l {a k : Nat} {K : Int → zHt → Prop} (h : 2 ^ a * (2 * k + 1) < 2 ^ 31) (ha : a ≤ 31) : ∀ (c b : Nat), b + c = a → K a H → zgo w d 67 4 [zJ, zI b, zI ((2 ^ c * (2 * k + 1) : Nat) : Int)] [] H (zQI K) := by
  have h31 : (2 : Nat) ^ 31 = 2147483648 := by decide
  intro c
  induction c with
  | zero =>
    intro b hb hK
    have : b = a := by omega
    subst this
    rw [Nat.pow_zero, Nat.one_mul]
    refine x67_4 ⟨fun q => by omega, fun _ => ⟨fun _ => hK, fun q => ?_⟩⟩
    have e : Int.tmod ((2 * k + 1 : Nat) : Int) 2 = (((2 * k + 1) % 2 : Nat) : Int) := ztmod _ 2
    rw [e] at q
    omega
  | succ c ih =>
    intro b hb hK
    have hle : 2 ^ (c + 1) * (2 * k + 1) ≤ 2 ^ a * (2 * k + 1) := Nat.mul_le_mul_right _ (Nat.pow_le_pow_right (by decide) (by omega))
    have e1 : 2 ^ (c + 1) * (2 * k + 1) = 2 * (2 ^ c * (2 * k + 1)) := by rw [Nat.pow_succ, Nat.mul_comm (2 ^ c) 2, Nat.mul_assoc]
    have hp : 0 < 2 ^ c * (2 * k + 1) := Nat.mul_pos (Nat.pow_pos (by decide)) (by omega)
    have et : Int.tmod ((2 ^ (c + 1) * (2 * k + 1) : Nat) : Int) 2 = 0 := by
      rw [show (2 : Int) = ((2 : Nat) : Int) from rfl, ztmod, e1, Nat.mul_mod_right]; rfl
    have ed : w32 (Int.tdiv ((2 ^ (c + 1) * (2 * k + 1) : Nat) : Int) 2) = ((2 ^ c * (2 * k + 1) : Nat) : Int) := by
      rw [show (2 : Int) = ((2 : Nat) : Int) from rfl, ztdiv, e1, Nat.mul_div_cancel_left _ (by decide)]
      exact w32_id (by omega)
    refine x67_4 ⟨fun q => by omega, fun _ => ⟨fun q => absurd et q, fun _ => ?_⟩⟩
    rw [ed, zi1 (by omega)]
    exact ih (b + 1) (by omega) hK
theorem c67 {n : Nat} {K : Int → zHt → Prop} (h1 : 1 ≤ n) (hn : n ≤ 999999999) : zclI w d 67 [zI n] H K = K (zta n) H := zclI_eq fun K h => x67_0 (by
  obtain ⟨k, e⟩ := zta_n h1
  have h31 : (2 : Nat) ^ 31 = 2147483648 := by decide
  have hb := zgde_b h1
  have ha : zta n ≤ 31 := by
    rcases Nat.lt_or_ge 31 (zta n) with y | y
    · have : 2 ^ 31 ≤ 2 ^ zta n := Nat.pow_le_pow_right (by decide) (by omega)
      omega
    · exact y
  have := c67l (w := w) (d := d) (H := H) (K := K) (a := zta n) (k := k) (by rw [← e]; omega) ha (zta n) 0 (by omega) h
  rw [← e] at this
  exact this)
theorem zlow_n {n : Nat} (h1 : 1 ≤ n) (hn : n ≤ 999999999) : zand (n : Int) (w32 (-(n : Int))) = ((2 ^ zta n : Nat) : Int) := by
  obtain ⟨k, e⟩ := zta_n h1
  have h31 : (2 : Nat) ^ 31 = 2147483648 := by decide
  have := zlow_eq (a := zta n) (k := k) (by rw [← e]; omega)
  rw [← e] at this
  exact this
theorem c65 {n : Nat} {K : Int → zHt → Prop} (h1 : 1 ≤ n) (hn : n ≤ 999999999) : zclI w (d + 1) 65 [zI n] H K = K (zog (zta n) n) H := zclI_eq fun K h => x65_0 (by
  have hb := zgde_b h1
  rw [zlow_n h1 hn]
  have h2 : 2 ^ (zta n + 1) = 2 * 2 ^ zta n := by rw [Nat.pow_succ, Nat.mul_comm]
  have e1 : w32 (w32 (2 * ((2 ^ zta n : Nat) : Int)) - 1) = ((2 ^ (zta n + 1) - 1 : Nat) : Int) := by
    rw [h2, w32_id (show _ ≤ 2 * ((2 ^ zta n : Nat) : Int) ∧ _ by omega), w32_id (by omega)]; omega
  have hz : zog (zta n) n = Nat.gcd (2 ^ (zta n + 1) - 1) n := rfl
  rw [e1, c66 (by omega) (by omega), ← hz, if_neg (by omega), w32_id (by omega)]
  exact h)
theorem ztm2 (n : Nat) : Int.tmod (n : Int) 2 = ((n % 2 : Nat) : Int) := ztmod n 2
theorem c64 {n : Nat} {K : Int → zHt → Prop} (hn : n ≤ 999999999) : zclI w (d + 2) 64 [zI n] H K = K (zgde n) H := zclI_eq fun K h => x64_0 (by
  unfold zgde at h
  rw [ztm2]
  refine ⟨fun q => by rwa [if_pos (by omega)] at h, fun q => ⟨fun q2 => ?_, fun q2 => by rwa [if_pos (by omega)] at h⟩⟩
  have hb := zgde_b (n := n) (by omega)
  rw [if_neg (by omega)] at h
  rw [c65 (by omega) hn, zlow_n (by omega) hn, ← Int.natCast_mul, w32_id (by omega)]
  exact h)
theorem c68 {n : Nat} (hMR : zMR) (hn : n ≤ 999999999) : ∃ H', zfc H H' ∧ ∀ K : Int → zHt → Prop, zclI w (d + 4) 68 [zR 32, zI n] H K = K (zdrv n) H' := by
  by_cases he : n = 0 ∨ n % 2 = 1
  · refine ⟨H, zfc_rfl, fun K => zclI_eq fun K h => x68_0 ?_⟩
    unfold zdrv at h
    rw [if_pos he] at h
    rw [c64 hn, show zgde n = 0 from if_pos he]
    exact ⟨fun q => absurd rfl q, fun _ => h⟩
  · have hb := zgde_b (n := n) (by omega)
    obtain ⟨H1, g, e⟩ := c69 (w := w) (H := H) (d := d) (n := zog (zta n) n) hMR hb.1 (by omega)
    obtain ⟨H2, F, -⟩ := c45 (w := w) (H := H) (d := d) (n := zog (zta n) n) hMR hb.1 (by omega)
    obtain ⟨es, s1, s2, -⟩ := zSg_b (by omega) F.2.1
    refine ⟨H1, g, fun K => zclI_eq fun K h => x68_0 ?_⟩
    unfold zdrv at h
    rw [if_neg he] at h
    have e1 : zgde n = ((2 ^ zta n * zog (zta n) n : Nat) : Int) := if_neg he
    have hpos : 0 < 2 ^ zta n * zog (zta n) n := Nat.mul_pos hb.2.2.2.2 hb.1
    rw [c64 hn, e1]
    refine ⟨fun _ => ?_, fun q => by omega⟩
    rw [c65 (by omega) hn, e, es, zlow_n (by omega) hn]
    obtain ⟨a, ha⟩ : ∃ a, zta n = a + 1 := ⟨zta n - 1, by
      have := zgde_e (n := n) (by omega) (by omega)
      have h31 : (2 : Nat) ^ 31 = 2147483648 := by decide
      omega⟩
    rw [ha] at h ⊢
    rw [Nat.add_sub_cancel] at h
    have h2 : (2 : Nat) ^ (a + 1) / 2 = 2 ^ a := by rw [Nat.pow_succ, Nat.mul_div_cancel _ (by decide)]
    have hp : 0 < 2 ^ a := Nat.pow_pos (by decide)
    have hle : 2 ^ a ≤ 2 ^ (a + 1) := Nat.pow_le_pow_right (by decide) (by omega)
    have hz : 2 ^ (a + 1) ≤ n := by rw [← ha]; exact hb.2.2.2.1
    have e2 : (if 1 < w32 (Int.tdiv ((2 ^ (a + 1) : Nat) : Int) 2) then w32 (Int.tdiv ((2 ^ (a + 1) : Nat) : Int) 2) else 1) = ((2 ^ a : Nat) : Int) := by
      rw [show (2 : Int) = ((2 : Nat) : Int) from rfl, ztdiv, h2, w32_id (by omega)]
      by_cases y : (1 : Int) < ((2 ^ a : Nat) : Int)
      · rw [if_pos y]
      · rw [if_neg y]; omega
    rw [e2, ztmod]
    refine ⟨by clear e2 h e1 hpos e es s1 s2 hle hz h2; generalize 2 ^ a = x at hp ⊢; omega, fun q => ?_, fun q => ?_⟩
    · rw [if_neg (fun y => q (by rw [Nat.mod_eq_zero_of_dvd y]; rfl))] at h; exact h
    · rw [if_pos (Nat.dvd_of_mod_eq_zero (by omega))] at h; exact h
noncomputable def zAgd (v t : Int) : Int × Int := if (1 ≤ v ∧ v ≤ 999999999) ∧ 0 ≤ t ∧ t ≤ 3 then (if v.toNat % 2 = 1 then (5, -1) else (0, if t = 0 then zgde v.toNat else if t = 1 then (zta v.toNat : Int) else if t = 2 then (zog (zta v.toNat) v.toNat : Int) else zdrv v.toNat)) else (1, -1)
theorem zdrv_01 {n : Nat} : zdrv n = 0 ∨ zdrv n = 1 := by
  unfold zdrv
  split
  · exact Or.inl rfl
  · split
    · exact Or.inr rfl
    · exact Or.inl rfl
theorem b63 {v t : Int} (hMR : zMR) : zclI w (d + 5) 63 [zR 32, zI v, zI t] H (zPC H (zAgd v t)) := by
  unfold zAgd
  by_cases hg : (1 ≤ v ∧ v ≤ 999999999) ∧ 0 ≤ t ∧ t ≤ 3
  · rw [if_pos hg]
    obtain ⟨n, rfl⟩ : ∃ n : Nat, v = n := ⟨v.toNat, by omega⟩
    obtain ⟨H1, g, e⟩ := c68 (w := w) (d := d) (H := H) (n := n) hMR (by omega)
    rw [Int.toNat_natCast]
    refine x63_0 ?_
    simp only [c43, c44, zit0, Classical.not_not]
    refine ⟨fun q => absurd hg.1 q, fun _ => ⟨fun _ => ?_, fun q => absurd hg.2 q⟩⟩
    rw [ztm2, c64 (by omega), c67 (by omega) (by omega), c65 (by omega) (by omega), e]
    refine ⟨fun q => ?_, fun q => zPC_r zcf_rfl (by rw [if_pos (by omega)])⟩
    rw [if_neg (by omega)]
    refine ⟨fun q2 => ?_, fun q2 => zPC_d zcf_rfl (by rw [if_pos q2]), fun q2 => zPC_d zcf_rfl (by rw [if_neg (by omega), if_pos q2]), fun q2 => zPC_d zcf_rfl (by rw [if_neg (by omega), if_neg (by omega), if_pos q2])⟩
    rw [if_neg (by omega), if_neg (by omega), if_neg (by omega)]
    rcases zdrv_01 (n := n) with z | z
    · rw [z]; exact ⟨fun _ => zPC_d (zcf_fc zcf_rfl g) rfl, fun q => absurd rfl q⟩
    · rw [z]; exact ⟨fun q => absurd q (by decide), fun _ => zPC_d (zcf_fc zcf_rfl g) rfl⟩
  · have eA : (1, -1) = ((1 : Int), (-1 : Int)) := rfl
    rw [if_neg hg]
    refine x63_0 ?_
    simp only [c43, c44, zit0, Classical.not_not]
    repeat' (first | exact zPC_r zcf_rfl eA | omega | intro _ | with_reducible refine And.intro ?_ ?_)
end Z44
/-! the cases euclid, counts, euler, kins, untouched -/
section Z45
variable {w : zWt} {d : Nat} {H : zHt}
theorem zio {n : Int} (h : 1 ≤ n) : n = ((n.toNat : Nat) : Int) := by omega
end Z45
/-! rows: told by the class, gone by the model -/
theorem zplc_r : ∀ {v : Int} {l : List Int} {k : Int}, zplc v l k = -1 ∨ (k ≤ zplc v l k ∧ zplc v l k < k + l.length)
  | v, [], k => Or.inl rfl
  | v, a :: l, k => by
    unfold zplc
    rw [List.length_cons]
    by_cases h : a = v
    · rw [if_pos h]; exact Or.inr ⟨Int.le_refl _, by omega⟩
    · rw [if_neg h]
      rcases zplc_r (v := v) (l := l) (k := k + 1) with z | z
      · exact Or.inl z
      · exact Or.inr ⟨by omega, by omega⟩
/-- what is so of a row -/
def zRowOk (r : List Int × Int × Int) : Prop := 1 ≤ r.1.length ∧ r.1.length ≤ 101 ∧ (∀ k : Nat, k < r.1.length → 0 ≤ r.1.getD k 0 ∧ r.1.getD k 0 ≤ 999999999) ∧ (∀ k : Nat, k + 1 < r.1.length → 1 ≤ r.1.getD k 0) ∧ ((r.2.1 = 1 ∧ 0 ≤ r.2.2 ∧ r.2.2 < r.1.length) ∨ ((r.2.1 = 0 ∨ r.2.1 = 2 ∨ r.2.1 = 3) ∧ r.2.2 = -1)) ∧ 1 ≤ r.1.getD 0 0
theorem zget_app {l : List Int} {x : Int} : (l ++ [x]).getD l.length 0 = x := by
  rw [List.getD_eq_getElem?_getD, List.getElem?_append_right (Nat.le_refl _), Nat.sub_self]; rfl
theorem zget_app2 {l : List Int} {x : Int} {k : Nat} (h : k < l.length) : (l ++ [x]).getD k 0 = l.getD k 0 := by
  rw [List.getD_eq_getElem?_getD, List.getElem?_append_left h, List.getD_eq_getElem?_getD]
theorem zgoes_ok {law bound : Int} (hMR : zMR) (hl : 0 ≤ law ∧ law ≤ 3) (hb : bound ≤ 999999999) : ∀ (s : Nat) (vs : List Int), 1 ≤ vs.length → vs.length + s ≤ 101 → (∀ k : Nat, k < vs.length → 1 ≤ vs.getD k 0 ∧ vs.getD k 0 ≤ 999999999) → zRowOk (zgoes law bound s vs)
  | 0, vs, h1, h2, h3 => ⟨h1, h2, fun k hk => ⟨by have := (h3 k hk).1; show 0 ≤ vs.getD k 0; omega, (h3 k hk).2⟩, fun k hk => (h3 k (by show k < vs.length; have : k + 1 < vs.length := hk; omega)).1, Or.inr ⟨Or.inr (Or.inr rfl), rfl⟩, (h3 0 h1).1⟩
  | s + 1, vs, h1, h2, h3 => by
    have hlast := h3 (vs.length - 1) (by omega)
    have base : ∀ e b : Int, ((e = 1 ∧ 0 ≤ b ∧ b < vs.length) ∨ ((e = 0 ∨ e = 2 ∨ e = 3) ∧ b = -1)) → zRowOk (vs, e, b) := fun e b he => ⟨h1, by show vs.length ≤ 101; omega, fun k hk => ⟨by have := (h3 k hk).1; show 0 ≤ vs.getD k 0; omega, (h3 k hk).2⟩, fun k hk => (h3 k (by show k < vs.length; have : k + 1 < vs.length := hk; omega)).1, he, (h3 0 h1).1⟩
    unfold zgoes
    have hr : 0 ≤ zsum law (vs.getD (vs.length - 1) 0).toNat := by
      obtain ⟨H2, F, -⟩ := c45 (w := (0, fun _ => 0, [])) (H := fun _ _ => 0) (d := 0) (n := (vs.getD (vs.length - 1) 0).toNat) hMR (by omega) (by omega)
      exact (zsum_r (by omega) (by omega) F.2.1 hl).1
    generalize zsum law (vs.getD (vs.length - 1) 0).toNat = x at *
    have hp := zplc_r (v := x) (l := vs) (k := 0)
    by_cases c1 : zplc x vs 0 ≠ -1
    · rw [if_pos c1]
      exact base _ _ (Or.inl ⟨rfl, by omega, by omega⟩)
    · rw [if_neg c1]
      by_cases c2 : bound < x
      · rw [if_pos c2]
        exact base _ _ (Or.inr ⟨Or.inr (Or.inl rfl), rfl⟩)
      · rw [if_neg c2]
        by_cases c3 : x = 0
        · rw [if_pos c3]
          refine ⟨by show 1 ≤ (vs ++ [0]).length; rw [List.length_append]; omega, by show (vs ++ [0]).length ≤ 101; rw [List.length_append]; simp; omega, fun k hk => ?_, fun k hk => ?_, Or.inr ⟨Or.inl rfl, rfl⟩, ?_⟩
          · have hk : k < (vs ++ [0]).length := hk
            rw [List.length_append] at hk
            simp at hk
            by_cases z : k = vs.length
            · subst z
              show 0 ≤ (vs ++ [0]).getD vs.length 0 ∧ (vs ++ [0]).getD vs.length 0 ≤ 999999999
              rw [zget_app]; decide
            · show 0 ≤ (vs ++ [0]).getD k 0 ∧ (vs ++ [0]).getD k 0 ≤ 999999999
              rw [zget_app2 (by omega)]
              have := h3 k (by omega)
              omega
          · have hk : k + 1 < (vs ++ [0]).length := hk
            rw [List.length_append] at hk
            simp at hk
            show 1 ≤ (vs ++ [0]).getD k 0
            rw [zget_app2 (by omega)]
            exact (h3 k (by omega)).1
          · show 1 ≤ (vs ++ [0]).getD 0 0
            rw [zget_app2 (by omega)]
            exact (h3 0 h1).1
        · rw [if_neg c3]
          refine zgoes_ok hMR hl hb s (vs ++ [x]) (by rw [List.length_append]; omega) (by rw [List.length_append]; simp; omega) (fun k hk => ?_)
          rw [List.length_append] at hk
          simp at hk
          by_cases z : k = vs.length
          · subst z
            rw [zget_app]; omega
          · rw [zget_app2 (by omega)]
            exact h3 k (by omega)
theorem zrow_ok {law bound steps n : Int} (hMR : zMR) (hl : 0 ≤ law ∧ law ≤ 3) (hb : bound ≤ 999999999) (hs : steps ≤ 100) (hn : 1 ≤ n ∧ n ≤ 999999999) : zRowOk (zrow law bound steps n) := by
  refine zgoes_ok hMR hl hb steps.toNat [n] (Nat.le_refl _) (by show 1 + steps.toNat ≤ 101; omega) (fun k hk => ?_)
  have : k = 0 := by simp at hk; exact hk
  subst this
  exact hn
theorem zArr_app {H : zHt} {A x : Int} {l : List Int} (h : zArr H A l) : zArr (zup H A l.length x) A (l ++ [x]) := fun k hk => by
  rw [List.length_append] at hk
  simp at hk
  by_cases z : k = l.length
  · subst z; rw [zq_eq, zget_app]
  · rw [zq_ne (by omega), zget_app2 (by omega)]; exact h k (by omega)
def zwkf (o : Int) (H0 H : zHt) : Prop := ∀ a j : Int, a ≠ 37 → a ≠ 38 → ¬ (a = 36 ∧ j = 3) → a ≠ o → a ≠ o + 1 → H a j = H0 a j
theorem zwkf_up {o i x a : Int} {H0 H : zHt} (h : zwkf o H0 H) (ha : a = o ∨ a = o + 1) : zwkf o H0 (zup H a i x) := fun b j h1 h2 h3 h4 h5 => by
  rw [zq_ne (by omega)]; exact h b j h1 h2 h3 h4 h5
theorem zwkf_fc {o : Int} {H0 H H1 : zHt} (h : zwkf o H0 H) (g : zfc H H1) : zwkf o H0 H1 := fun b j h1 h2 h3 h4 h5 => (g b j h1 h2 h3).trans (h b j h1 h2 h3 h4 h5)
theorem zisW_b {o : Int} (h : zisW o) : o = 46 ∨ (69 ≤ o ∧ o ≤ 79 ∧ o % 2 = 1) := by unfold zisW at h; omega
section Z47
variable {w : zWt} {d : Nat} {H : zHt}
theorem c110 {o v : Int} {vs : List Int} {K : Int → zHt → Prop} (ho : zisW o) (h1 : H o 1 = vs.length) (h9 : vs.length ≤ 101) (hA : zArr H (o + 1) vs) : zclI w d 110 [zR o, zL v] H K = K (zplc v vs 0) H := by
  have L : ∀ (suf pre : List Int) (K : Int → zHt → Prop), vs = pre ++ suf → K (zplc v suf pre.length) H → zgo w d 110 2 [zR o, zL v, zJ, zI pre.length] [] H (zQI K) := by
    intro suf
    induction suf with
    | nil =>
      intro pre K hl h
      have hlen : vs.length = pre.length := by rw [hl, List.append_nil]
      exact x110_2 ho ⟨fun _ => h, fun q => by omega⟩
    | cons x suf ih =>
      intro pre K hl h
      have hlen : vs.length = pre.length + (suf.length + 1) := by rw [hl, List.length_append]; rfl
      have hx : H (o + 1) (pre.length : Int) = x := by
        rw [hA pre.length (by omega), hl, List.getD_eq_getElem?_getD, List.getElem?_append_right (Nat.le_refl _), Nat.sub_self]; rfl
      unfold zplc at h
      refine x110_2 ho ⟨fun q => by omega, fun _ => ⟨by omega, fun q => ?_, fun q => ?_⟩⟩
      · rw [hx] at q
        rw [if_neg q] at h
        rw [show w32 ((pre.length : Int) + 1) = ((pre ++ [x]).length : Int) by rw [w32_id (by omega), List.length_append]; simp]
        refine ih (pre ++ [x]) K (by rw [hl]; simp) ?_
        rw [show ((pre ++ [x]).length : Int) = (pre.length : Int) + 1 by rw [List.length_append]; simp]
        exact h
      · rw [hx] at q
        rw [if_pos q] at h; exact h
  exact zclI_eq fun K h => x110_0 ho (L vs [] K rfl h)
theorem c109l {o law : Int} {H0 : zHt} (hMR : zMR) (ho : zisW o) (hl : 0 ≤ law ∧ law ≤ 3) (hb : H0 40 2 ≤ 999999999) (hs : H0 40 3 ≤ 100) : ∀ (s : Nat) (vs : List Int) (H : zHt), 1 ≤ vs.length → (vs.length : Int) + s = H0 40 3 + 1 → (∀ k : Nat, k < vs.length → 1 ≤ vs.getD k 0 ∧ vs.getD k 0 ≤ 999999999) → zwkf o H0 H → H o 4 = 1 → zWalkIs H o (vs, 3, -1) → zgo w (d + 4) 109 30 [zR o, zJ, zI law, zR 40, zR 36, zI vs.length, zJ, zJ] [] H (zQV fun H' => zwkf o H0 H' ∧ H' o 4 = 1 ∧ zWalkIs H' o (zgoes law (H0 40 2) s vs)) := by
  have hob := zisW_b ho
  intro s
  induction s with
  | zero =>
    intro vs H hv1 hvs hv hF h4 hW
    have e3 : H 40 3 = H0 40 3 := hF 40 3 (by decide) (by decide) (by decide) (by omega) (by omega)
    exact x109_30 ho (by unfold zisD; omega) ⟨fun _ => ⟨hF, h4, hW⟩, fun q => by omega⟩
  | succ s ih =>
    intro vs H hv1 hvs hv hF h4 hW
    have e2 : H 40 2 = H0 40 2 := hF 40 2 (by decide) (by decide) (by decide) (by omega) (by omega)
    have e3 : H 40 3 = H0 40 3 := hF 40 3 (by decide) (by decide) (by decide) (by omega) (by omega)
    obtain ⟨w1, w2, w3, w4⟩ := hW
    have w1 : H o 1 = vs.length := w1
    have w4 : zArr H (o + 1) vs := w4
    have hlast := hv (vs.length - 1) (by omega)
    have ei : w32 ((vs.length : Int) - 1) = ((vs.length - 1 : Nat) : Int) := by rw [w32_id (by omega)]; omega
    obtain ⟨H1, g, e⟩ := c53 (w := w) (H := H) (d := d) (law := law) (n := (vs.getD (vs.length - 1) 0).toNat) hMR (by omega) (by omega) hl
    obtain ⟨H2, F, -⟩ := c45 (w := w) (H := H) (d := d) (n := (vs.getD (vs.length - 1) 0).toNat) hMR (by omega) (by omega)
    have hsr := (zsum_r (law := law) (by omega) (by omega) F.2.1 hl).1
    have gF := zwkf_fc hF g
    have g1 : H1 o 1 = vs.length := (g o 1 (by omega) (by omega) (by omega)).trans w1
    have g2 : H1 o 2 = 3 := (g o 2 (by omega) (by omega) (by omega)).trans w2
    have g4 : H1 o 4 = 1 := (g o 4 (by omega) (by omega) (by omega)).trans h4
    have gA : zArr H1 (o + 1) vs := zArr_eq (fun k _ => g (o + 1) k (by omega) (by omega) (by omega)) w4
    have g42 : H1 40 2 = H0 40 2 := (g 40 2 (by decide) (by decide) (by decide)).trans e2
    unfold zgoes
    refine x109_30 ho (by unfold zisD; omega) ⟨fun q => by omega, fun _ => ⟨fun q => by omega, fun _ => ?_⟩⟩
    rw [ei, w4 (vs.length - 1) (by omega), zio hlast.1, e]
    refine ⟨by omega, ?_⟩
    rw [Int.toNat_of_nonneg (by omega)]
    generalize zsum law (vs.getD (vs.length - 1) 0).toNat = x at *
    rw [c110 ho g1 (by omega) gA, zq_eq]
    generalize hp : zplc x vs 0 = p
    have r2 : zup H1 o 3 p 40 2 = H0 40 2 := by rw [zq_ne (by omega)]; exact g42
    rw [r2]
    refine ⟨fun c1 => ⟨fun c2 => ⟨by omega, fun c3 => ?_, fun c3 => ?_⟩, fun c2 => ?_⟩, fun c1 => ?_⟩
    · rw [if_neg (by omega), if_neg (by omega), if_neg c3]
      have hx : x ≤ 999999999 := by omega
      rw [w32_id (show _ ≤ x ∧ _ by omega)]
      have ev : zup (zup H1 o 3 p) (o + 1) vs.length x o 1 = vs.length := by rw [zq_ne (by omega), zq_ne (by omega)]; exact g1
      rw [ev, zi1 (by omega), show ((vs.length + 1 : Nat) : Int) = ((vs ++ [x]).length : Int) by rw [List.length_append]; rfl]
      refine ih (vs ++ [x]) _ (by rw [List.length_append]; omega) (by rw [List.length_append]; simp; omega) (fun k hk => ?_) (zwkf_up (zwkf_up (zwkf_up gF (Or.inl rfl)) (Or.inr rfl)) (Or.inl rfl)) ?_ ⟨zq_eq, ?_, ?_, ?_⟩
      · rw [List.length_append] at hk
        simp at hk
        by_cases z : k = vs.length
        · subst z; rw [zget_app]; omega
        · rw [zget_app2 (by omega)]; exact hv k (by omega)
      · rw [zq_ne (by omega), zq_ne (by omega), zq_ne (by omega)]; exact g4
      · show _ = (3 : Int)
        rw [zq_ne (by omega), zq_ne (by omega), zq_ne (by omega)]; exact g2
      · show _ = (-1 : Int)
        rw [zq_ne (by omega), zq_ne (by omega), zq_eq]; exact c1
      · refine zArr_eq (H := zup H1 (o + 1) vs.length x) (fun k _ => ?_) (zArr_app gA)
        rw [zq_ne (by omega)]
        by_cases z : k = vs.length
        · subst z; rw [zq_eq, zq_eq]
        · rw [zq_ne (by omega), zq_ne (by omega), zq_ne (by omega)]
    · rw [if_neg (by omega), if_neg (by omega), if_pos c3]
      subst c3
      have ew : w32 0 = 0 := rfl
      rw [ew]
      have ev : zup (zup H1 o 3 p) (o + 1) vs.length 0 o 1 = vs.length := by rw [zq_ne (by omega), zq_ne (by omega)]; exact g1
      rw [ev, zi1 (by omega)]
      refine ⟨zwkf_up (zwkf_up (zwkf_up (zwkf_up gF (Or.inl rfl)) (Or.inr rfl)) (Or.inl rfl)) (Or.inl rfl), ?_, ?_, zq_eq, ?_, ?_⟩
      · rw [zq_ne (by omega), zq_ne (by omega), zq_ne (by omega), zq_ne (by omega)]; exact g4
      · rw [zq_ne (by omega), zq_eq]
        show _ = ((vs ++ [0]).length : Int)
        rw [List.length_append]; rfl
      · show _ = (-1 : Int)
        rw [zq_ne (by omega), zq_ne (by omega), zq_ne (by omega), zq_eq]; exact c1
      · refine zArr_eq (H := zup H1 (o + 1) vs.length 0) (fun k _ => ?_) (zArr_app gA)
        rw [zq_ne (by omega), zq_ne (by omega)]
        by_cases z : k = vs.length
        · subst z; rw [zq_eq, zq_eq]
        · rw [zq_ne (by omega), zq_ne (by omega), zq_ne (by omega)]
    · rw [if_neg (by omega), if_pos c2]
      refine ⟨zwkf_up (zwkf_up gF (Or.inl rfl)) (Or.inl rfl), ?_, ?_, zq_eq, ?_, ?_⟩
      · rw [zq_ne (by omega), zq_ne (by omega)]; exact g4
      · rw [zq_ne (by omega), zq_ne (by omega)]; exact g1
      · show _ = (-1 : Int)
        rw [zq_ne (by omega), zq_eq]; exact c1
      · exact zArr_eq (fun k _ => by rw [zq_ne (by omega), zq_ne (by omega)]) gA
    · rw [if_pos c1]
      refine ⟨zwkf_up (zwkf_up gF (Or.inl rfl)) (Or.inl rfl), ?_, ?_, zq_eq, ?_, ?_⟩
      · rw [zq_ne (by omega), zq_ne (by omega)]; exact g4
      · rw [zq_ne (by omega), zq_ne (by omega)]; exact g1
      · show _ = p
        rw [zq_ne (by omega), zq_eq]
      · exact zArr_eq (fun k _ => by rw [zq_ne (by omega), zq_ne (by omega)]) gA
theorem c109 {o n law : Int} (hMR : zMR) (ho : zisW o) (hl : 0 ≤ law ∧ law ≤ 3) (hb : H 40 2 ≤ 999999999) (hs : 1 ≤ H 40 3 ∧ H 40 3 ≤ 100) (hn : 1 ≤ n ∧ n ≤ 999999999) : ∃ H', (zwkf o H H' ∧ H' o 4 = 1 ∧ zWalkIs H' o (zrow law (H 40 2) (H 40 3) n)) ∧ ∀ K : zHt → Prop, zclV w (d + 4) 109 [zR o, zI n, zI law, zR 40, zR 36] H K = K H' := by
  have hob := zisW_b ho
  refine zclV_ex (x109_0 ho (by unfold zisD; omega) ?_)
  refine c109l (d := d) (H0 := H) hMR ho hl hb hs.2 (H 40 3).toNat [n] _ (Nat.le_refl _) (by show (1 : Int) + _ = _; omega) (fun k hk => ?_) (zwkf_up (zwkf_up (zwkf_up (zwkf_up (zwkf_up (fun _ _ _ _ _ _ _ => rfl) (Or.inr rfl)) (Or.inl rfl)) (Or.inl rfl)) (Or.inl rfl)) (Or.inl rfl)) zq_eq ⟨?_, ?_, ?_, ?_⟩
  · have : k = 0 := by simp at hk; exact hk
    subst this; exact hn
  · rw [zq_ne (by omega), zq_ne (by omega), zq_ne (by omega), zq_eq]; rfl
  · rw [zq_ne (by omega), zq_ne (by omega), zq_eq]
  · rw [zq_ne (by omega), zq_eq]
  · intro k hk
    have : k = 0 := by simp at hk; exact hk
    subst this
    show _ = n
    rw [zq_ne (by omega), zq_ne (by omega), zq_ne (by omega), zq_ne (by omega)]; exact zq_eq
/-- the row r of the desk -/
noncomputable def zRW (H : zHt) (r : Int) : List Int × Int × Int := zrow (H 40 4) (H 40 2) (H 40 3) (H 41 r)
theorem zRW_ok {r : Int} (hMR : zMR) (hD : zDk H) (hr : 0 ≤ r ∧ r < H 40 1) : zRowOk (zRW H r) := by
  have := hD.2.2.2.2.2.2.2.2 r.toNat (by omega)
  rw [Int.toNat_of_nonneg hr.1] at this
  exact zrow_ok hMR hD.1 hD.2.2.2.2.2.2.1.2 hD.2.2.2.2.2.2.2.1.2 this.2
theorem zisW_r {r : Nat} (h : r ≤ 5) : zisW (69 + 2 * (r : Int)) := by unfold zisW; omega
theorem c108 {r : Nat} (hMR : zMR) (hD : zDk H) (hW : zWlk H) (hr : (r : Int) < H 40 1) : ∃ H', (zcf H H' ∧ H' 32 14 = H 32 14 ∧ zWalkIs H' (69 + 2 * r) (zRW H r) ∧ ∀ q : Nat, q ≤ 5 → q ≠ r → ∀ j, H' (69 + 2 * q) j = H (69 + 2 * q) j ∧ H' (69 + 2 * q + 1) j = H (69 + 2 * q + 1) j) ∧ ∀ K : Int → zHt → Prop, zclR w (d + 5) 108 [zR 32, zI r] H K = K (69 + 2 * r) H' := by
  have h6 := hD.2.2.2.2.2.1
  have hr5 : r ≤ 5 := by omega
  by_cases ht : H (69 + 2 * r) 4 = 0
  · have hst := hD.2.2.2.2.2.2.2.2 r hr
    obtain ⟨H1, ⟨f, t4, hw⟩, e⟩ := c109 (w := w) (d := d) (H := H) (o := 69 + 2 * r) (n := H 41 r) (law := H 40 4) hMR (zisW_r hr5) hD.1 hD.2.2.2.2.2.2.1.2 hD.2.2.2.2.2.2.2.1 hst.2
    have k2 : zkeep2 H H1 := fun a j q => f a j (fun z => by subst z; cases q) (fun z => by subst z; cases q) (fun z => by obtain ⟨rfl, rfl⟩ := z; cases q) (fun z => by
      subst z; unfold zrel2 at q; rw [decide_eq_true (show (69 : Int) ≤ 69 + 2 * (r : Int) by omega), decide_eq_true (show 69 + 2 * (r : Int) ≤ 80 by omega)] at q; simp at q) (fun z => by
      subst z; unfold zrel2 at q; rw [decide_eq_true (show (69 : Int) ≤ 69 + 2 * (r : Int) + 1 by omega), decide_eq_true (show 69 + 2 * (r : Int) + 1 ≤ 80 by omega)] at q; simp at q)
    refine ⟨H1, ⟨⟨⟨k2, fun hw0 q q5 q1 q2 => ?_⟩, f 81 0 (by decide) (by decide) (by decide) (by omega) (by omega)⟩, f 32 14 (by decide) (by decide) (by decide) (by omega) (by omega), hw, fun q q5 qr j => ⟨f _ j (by omega) (by omega) (by omega) (by omega) (by omega), f _ j (by omega) (by omega) (by omega) (by omega) (by omega)⟩⟩, fun K => zclR_eq fun K h => x108_0 ⟨by omega, fun q => absurd ht q, fun _ => by rw [e]; exact h⟩⟩
    rw [k2 40 1 rfl] at q1
    rw [k2 40 4 rfl, k2 40 2 rfl, k2 40 3 rfl, k2 41 q rfl]
    by_cases z : q = r
    · subst z; exact hw
    · have fa : ∀ j, H1 (69 + 2 * q) j = H (69 + 2 * q) j := fun j => f _ j (by omega) (by omega) (by omega) (by omega) (by omega)
      have fb : ∀ j, H1 (69 + 2 * q + 1) j = H (69 + 2 * q + 1) j := fun j => f _ j (by omega) (by omega) (by omega) (by omega) (by omega)
      rw [fa] at q2
      obtain ⟨a1, a2, a3, a4⟩ := hw0 q q5 q1 q2
      exact ⟨by rw [fa]; exact a1, by rw [fa]; exact a2, by rw [fa]; exact a3, zArr_eq (fun k _ => fb k) a4⟩
  · exact ⟨H, ⟨zcf_rfl, rfl, hW r hr5 hr ht, fun q _ _ j => ⟨rfl, rfl⟩⟩, fun K => zclR_eq fun K h => x108_0 ⟨by omega, fun _ => h, fun q => absurd q ht⟩⟩
/-- a call on a row, by the class: from the row on -/
theorem zwalk {r : Int} {P : Int → zHt → Prop} (hMR : zMR) (hD : zDk H) (hW : zWlk H) (hr : 0 ≤ r ∧ r < H 40 1) (h : ∀ (o : Int) (H1 : zHt), zisW o → o = 69 + 2 * r → zcf H H1 → zWalkIs H1 o (zRW H r) → P o H1) : zclR w (d + 5) 108 [zR 32, zI r] H (fun x H1 => zisW x ∧ P x H1) := by
  obtain ⟨n, rfl⟩ : ∃ n : Nat, r = n := ⟨r.toNat, by omega⟩
  have h6 := hD.2.2.2.2.2.1
  obtain ⟨H1, ⟨a1, a2, a3, a4⟩, e⟩ := c108 (w := w) (d := d) (H := H) (r := n) hMR hD hW hr.2
  rw [e]
  have hw := zisW_r (r := n) (by omega)
  exact ⟨hw, h _ H1 hw rfl a1 a3⟩
end Z47
/-- the form of an answer about a row -/
noncomputable def zAr (H : zHt) (g : Bool) (r : Int) (f : List Int × Int × Int → Int × Int) : Int × Int := if g = true then (if 0 ≤ r ∧ r < H 40 1 then f (zRW H r) else (2, -1)) else (1, -1)
/-! the cases value, ends, round, peak, climb, total, growth -/
theorem zArr_i {H : zHt} {A k : Int} {l : List Int} (h : zArr H A l) (h0 : 0 ≤ k) (h1 : k < l.length) : H A k = l.getD k.toNat 0 := by
  have := h k.toNat (by omega)
  rw [Int.toNat_of_nonneg h0] at this
  exact this
def zfval (k : Int) (r : List Int × Int × Int) : Int × Int := if k = -1 then (0, (r.1.length : Int)) else if k < r.1.length then (0, r.1.getD k.toNat 0) else (5, -1)
def zfend (r : List Int × Int × Int) : Int × Int := (0, r.2.1)
/-- the least of c values from k on, and m -/
def zmnl (vs : List Int) : Nat → Nat → Int → Int
  | 0, _, m => m
  | c + 1, k, m => zmnl vs c (k + 1) (if vs.getD k 0 < m then vs.getD k 0 else m)
theorem zmnl_le {vs : List Int} : ∀ {c k : Nat} {m : Int}, zmnl vs c k m ≤ m ∧ (∀ i, k ≤ i → i < k + c → zmnl vs c k m ≤ vs.getD i 0) ∧ (zmnl vs c k m = m ∨ ∃ i, k ≤ i ∧ i < k + c ∧ zmnl vs c k m = vs.getD i 0)
  | 0, k, m => ⟨Int.le_refl _, fun i h1 h2 => by omega, Or.inl rfl⟩
  | c + 1, k, m => by
    obtain ⟨h1, h2, h3⟩ := zmnl_le (vs := vs) (c := c) (k := k + 1) (m := if vs.getD k 0 < m then vs.getD k 0 else m)
    have e : zmnl vs (c + 1) k m = zmnl vs c (k + 1) (if vs.getD k 0 < m then vs.getD k 0 else m) := rfl
    rw [← e] at h1 h2 h3
    have hk : zmnl vs (c + 1) k m ≤ vs.getD k 0 ∧ zmnl vs (c + 1) k m ≤ m := by
      by_cases z : vs.getD k 0 < m
      · rw [if_pos z] at h1; omega
      · rw [if_neg z] at h1; omega
    refine ⟨hk.2, fun i i1 i2 => ?_, ?_⟩
    · by_cases z : i = k
      · subst z; exact hk.1
      · exact h2 i (by omega) (by omega)
    · rcases h3 with z | ⟨i, i1, i2, i3⟩
      · by_cases y : vs.getD k 0 < m
        · rw [if_pos y] at z; exact Or.inr ⟨k, Nat.le_refl _, by omega, z⟩
        · rw [if_neg y] at z; exact Or.inl z
      · exact Or.inr ⟨i, by omega, by omega, i3⟩
theorem zmnl_eq {vs : List Int} {c k i j : Nat} (hi : k ≤ i ∧ i < k + c) (hj : k ≤ j ∧ j < k + c) : zmnl vs c k (vs.getD i 0) = zmnl vs c k (vs.getD j 0) := by
  obtain ⟨a1, a2, a3⟩ := zmnl_le (vs := vs) (c := c) (k := k) (m := vs.getD i 0)
  obtain ⟨b1, b2, b3⟩ := zmnl_le (vs := vs) (c := c) (k := k) (m := vs.getD j 0)
  apply Int.le_antisymm
  · rcases b3 with z | ⟨x, x1, x2, x3⟩
    · rw [z]; exact a2 j hj.1 hj.2
    · rw [x3]; exact a2 x x1 x2
  · rcases a3 with z | ⟨x, x1, x2, x3⟩
    · rw [z]; exact b2 i hi.1 hi.2
    · rw [x3]; exact b2 x x1 x2
def zlor (r : List Int × Int × Int) : Int := zmnl r.1 (r.1.length - r.2.2.toNat) r.2.2.toNat (r.1.getD r.2.2.toNat 0)
def zfrnd (t : Int) (r : List Int × Int × Int) : Int × Int := if r.2.1 = 1 then (0, if t = 0 then r.2.2 else if t = 1 then (r.1.length : Int) - r.2.2 else zlor r) else (5, -1)
section Z48
variable {w : zWt} {d : Nat} {H : zHt}
theorem b107 {r k : Int} (hMR : zMR) (hD : zDk H) (hW : zWlk H) : zclI w (d + 6) 107 [zR 32, zI r, zI k] H (zPC H (zAr H (decide (-1 ≤ k)) r (zfval k))) := by
  have h6 := hD.2.2.2.2.2.1
  unfold zAr
  by_cases hg : -1 ≤ k
  · rw [if_pos (decide_eq_true hg)]
    by_cases hr : 0 ≤ r ∧ r < H 40 1
    · rw [if_pos hr]
      refine x107_0 ?_
      simp only [c106 h6.2, zit0, Classical.not_not]
      refine ⟨fun _ => ⟨fun _ => zwalk hMR hD hW hr (fun o H1 ho _ hF hw => ?_), fun q => absurd hr q⟩, fun q => by omega⟩
      have ok := zRW_ok hMR hD hr
      obtain ⟨w1, w2, w3, w4⟩ := hw
      unfold zfval
      rw [w1]
      refine ⟨fun q => ⟨fun q2 => ?_, fun q2 => ⟨?_, ?_⟩⟩, fun q => ?_⟩
      · exact zPC_r hF (by rw [if_neg q, if_neg (by omega)])
      · have := ok.2.1; omega
      · rw [zArr_i w4 (by omega) q2]
        exact zPC_d hF (by rw [if_neg q, if_pos q2])
      · exact zPC_d hF (by rw [if_pos q])
    · have eA : (2, -1) = ((2 : Int), (-1 : Int)) := rfl
      rw [if_neg hr]
      refine x107_0 ?_
      simp only [c106 h6.2, zit0, Classical.not_not]
      exact ⟨fun _ => ⟨fun q => absurd q hr, fun _ => zPC_r zcf_rfl eA⟩, fun q => by omega⟩
  · have eA : (1, -1) = ((1 : Int), (-1 : Int)) := rfl
    rw [decide_eq_false hg, if_neg (by decide)]
    exact x107_0 ⟨fun q => absurd q hg, fun _ => zPC_r zcf_rfl eA⟩
theorem b111 {r : Int} (hMR : zMR) (hD : zDk H) (hW : zWlk H) : zclI w (d + 6) 111 [zR 32, zI r] H (zPC H (zAr H true r zfend)) := by
  have h6 := hD.2.2.2.2.2.1
  unfold zAr
  rw [if_pos rfl]
  refine x111_0 ?_
  simp only [c106 h6.2, zit0, Classical.not_not]
  refine ⟨fun hr => zwalk hMR hD hW hr (fun o H1 ho _ hF hw => ?_), fun hr => ?_⟩
  · rw [if_pos hr, hw.2.1]
    exact zPC_d hF rfl
  · rw [if_neg hr]; exact zPC_r zcf_rfl rfl
theorem c113 {o : Int} {r : List Int × Int × Int} {K : Int → zHt → Prop} (ho : zisW o) (hok : zRowOk r) (he : r.2.1 = 1) (hw : zWalkIs H o r) : zclI w (d + 2) 113 [zR o] H K = K (zlor r) H := by
  obtain ⟨w1, w2, w3, w4⟩ := hw
  obtain ⟨k1, k2, k3, k4, k5, k6⟩ := hok
  have hb : 0 ≤ r.2.2 ∧ r.2.2 < r.1.length := by
    rcases k5 with z | z
    · exact z.2
    · omega
  have L : ∀ (c k : Nat) (m : Int) (K : Int → zHt → Prop), k + c = r.1.length → K (zmnl r.1 c k m) H → zgo w (d + 2) 113 14 [zR o, zI m, zI k] [] H (zQI K) := by
    intro c
    induction c with
    | zero => exact fun k m K hk h => x113_14 ho ⟨fun _ => h, fun q => by omega⟩
    | succ c ih =>
      intro k m K hk h
      refine x113_14 ho ⟨fun q => by omega, fun _ => ⟨by omega, ?_⟩⟩
      rw [w4 k (by omega), zi1 (by omega)]
      exact ih (k + 1) _ K (by omega) h
  refine zclI_eq fun K h => x113_0 ho ?_
  have e1 : w32 ((r.1.length : Int) - 1) = ((r.1.length - 1 : Nat) : Int) := by rw [w32_id (by omega)]; omega
  have e2 : (if (0 : Int) < ((r.1.length - 1 : Nat) : Int) then ((r.1.length - 1 : Nat) : Int) else 0) = ((r.1.length - 1 : Nat) : Int) := by
    split <;> omega
  refine x114_0 ho ?_
  rw [w1, e1, e2, w4 (r.1.length - 1) (by omega), w3]
  refine ⟨by omega, ?_⟩
  have e3 : (if 0 < r.2.2 then r.2.2 else 0) = ((r.2.2.toNat : Nat) : Int) := by
    split <;> omega
  rw [e3]
  refine L (r.1.length - r.2.2.toNat) r.2.2.toNat _ K (by omega) ?_
  rw [zmnl_eq (j := r.2.2.toNat) (by omega) (by omega)]
  exact h
theorem b112 {r t : Int} (hMR : zMR) (hD : zDk H) (hW : zWlk H) : zclI w (d + 6) 112 [zR 32, zI r, zI t] H (zPC H (zAr H (decide (0 ≤ t ∧ t ≤ 2)) r (zfrnd t))) := by
  have h6 := hD.2.2.2.2.2.1
  unfold zAr
  refine x112_0 ?_
  simp only [c44, c106 h6.2, zit0, Classical.not_not]
  refine ⟨fun hg => ⟨fun hr => zwalk hMR hD hW hr (fun o H1 ho _ hF hw => ?_), fun hr => ?_⟩, fun hg => ?_⟩
  · rw [if_pos (decide_eq_true hg), if_pos hr]
    have ok := zRW_ok hMR hD hr
    have hwc := hw
    obtain ⟨w1, w2, w3, w4⟩ := hw
    unfold zfrnd
    rw [w1, w2, w3]
    have hb : (zRW H r).2.1 = 1 → 0 ≤ (zRW H r).2.2 ∧ (zRW H r).2.2 < (zRW H r).1.length := fun z => by
      rcases ok.2.2.2.2.1 with y | y
      · exact y.2
      · omega
    have := ok.2.1
    refine ⟨fun q => ⟨fun q2 => ?_, fun q2 => ?_, fun q2 q3 => ?_⟩, fun q => ?_⟩
    · exact zPC_d hF (by rw [if_pos q, if_pos q2])
    · have := hb q
      rw [w32_id (by omega)]
      exact zPC_d hF (by rw [if_pos q, if_neg (by omega), if_pos q2])
    · rw [c113 (d := d + 3) ho ok q hwc]
      exact zPC_d hF (by rw [if_pos q, if_neg q2, if_neg q3])
    · exact zPC_r hF (by rw [if_neg q])
  · rw [if_pos (decide_eq_true hg), if_neg hr]; exact zPC_r zcf_rfl rfl
  · rw [decide_eq_false hg, if_neg (by decide)]; exact zPC_r zcf_rfl rfl
end Z48
