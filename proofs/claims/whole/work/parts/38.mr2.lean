/-! the three bases: the kernel's walk over all p -/
set_option maxRecDepth 100000 in
theorem mr_c0 : mr_all (fun k => mr_p (2 * (k + 0) + 1009)) 150 = true := by decide +kernel
set_option maxRecDepth 100000 in
theorem mr_c1 : mr_all (fun k => mr_p (2 * (k + 150) + 1009)) 250 = true := by decide +kernel
set_option maxRecDepth 100000 in
theorem mr_c2 : mr_all (fun k => mr_p (2 * (k + 400) + 1009)) 400 = true := by decide +kernel
set_option maxRecDepth 100000 in
theorem mr_c3 : mr_all (fun k => mr_p (2 * (k + 800) + 1009)) 700 = true := by decide +kernel
set_option maxRecDepth 100000 in
theorem mr_c4 : mr_all (fun k => mr_p (2 * (k + 1500) + 1009)) 1000 = true := by decide +kernel
set_option maxRecDepth 100000 in
theorem mr_c5 : mr_all (fun k => mr_p (2 * (k + 2500) + 1009)) 1500 = true := by decide +kernel
set_option maxRecDepth 100000 in
theorem mr_c6 : mr_all (fun k => mr_p (2 * (k + 4000) + 1009)) 2000 = true := by decide +kernel
set_option maxRecDepth 100000 in
theorem mr_c7 : mr_all (fun k => mr_p (2 * (k + 6000) + 1009)) 2000 = true := by decide +kernel
set_option maxRecDepth 100000 in
theorem mr_c8 : mr_all (fun k => mr_p (2 * (k + 8000) + 1009)) 2000 = true := by decide +kernel
set_option maxRecDepth 100000 in
theorem mr_c9 : mr_all (fun k => mr_p (2 * (k + 10000) + 1009)) 2000 = true := by decide +kernel
set_option maxRecDepth 100000 in
theorem mr_c10 : mr_all (fun k => mr_p (2 * (k + 12000) + 1009)) 2000 = true := by decide +kernel
set_option maxRecDepth 100000 in
theorem mr_c11 : mr_all (fun k => mr_p (2 * (k + 14000) + 1009)) 1307 = true := by decide +kernel
theorem mr_pall {p : Nat} (h1 : 1009 ≤ p) (h2 : p ≤ 31622) (ho : p % 2 = 1) : mr_p p = true := by
  obtain ⟨k, rfl⟩ : ∃ k, p = 2 * k + 1009 := ⟨(p - 1009) / 2, by omega⟩
  have hk : k < 15307 := by omega
  rcases Nat.lt_or_ge k 150 with z0 | z0
  · exact mr_at mr_c0 k (by omega)
  rcases Nat.lt_or_ge k 400 with z1 | z1
  · have := mr_at mr_c1 (k - 150) (by omega)
    rw [show k - 150 + 150 = k by omega] at this
    exact this
  rcases Nat.lt_or_ge k 800 with z2 | z2
  · have := mr_at mr_c2 (k - 400) (by omega)
    rw [show k - 400 + 400 = k by omega] at this
    exact this
  rcases Nat.lt_or_ge k 1500 with z3 | z3
  · have := mr_at mr_c3 (k - 800) (by omega)
    rw [show k - 800 + 800 = k by omega] at this
    exact this
  rcases Nat.lt_or_ge k 2500 with z4 | z4
  · have := mr_at mr_c4 (k - 1500) (by omega)
    rw [show k - 1500 + 1500 = k by omega] at this
    exact this
  rcases Nat.lt_or_ge k 4000 with z5 | z5
  · have := mr_at mr_c5 (k - 2500) (by omega)
    rw [show k - 2500 + 2500 = k by omega] at this
    exact this
  rcases Nat.lt_or_ge k 6000 with z6 | z6
  · have := mr_at mr_c6 (k - 4000) (by omega)
    rw [show k - 4000 + 4000 = k by omega] at this
    exact this
  rcases Nat.lt_or_ge k 8000 with z7 | z7
  · have := mr_at mr_c7 (k - 6000) (by omega)
    rw [show k - 6000 + 6000 = k by omega] at this
    exact this
  rcases Nat.lt_or_ge k 10000 with z8 | z8
  · have := mr_at mr_c8 (k - 8000) (by omega)
    rw [show k - 8000 + 8000 = k by omega] at this
    exact this
  rcases Nat.lt_or_ge k 12000 with z9 | z9
  · have := mr_at mr_c9 (k - 10000) (by omega)
    rw [show k - 10000 + 10000 = k by omega] at this
    exact this
  rcases Nat.lt_or_ge k 14000 with z10 | z10
  · have := mr_at mr_c10 (k - 12000) (by omega)
    rw [show k - 12000 + 12000 = k by omega] at this
    exact this
  have := mr_at mr_c11 (k - 14000) (by omega)
  rw [show k - 14000 + 14000 = k by omega] at this
  exact this
theorem z_MR : zMR := fun n h1 h2 hf p2 p7 p61 => by
  rcases Classical.em (zprime n) with z | z
  · exact z
  exfalso
  -- its least divisor
  have ex : ∀ c, c ≤ 40000 → zfree (1009 + c) n ∨ ∃ p, 1009 ≤ p ∧ p < 1009 + c ∧ p ∣ n ∧ zfree p n := fun c => by
    induction c with
    | zero => exact fun _ => Or.inl hf
    | succ c ih =>
      intro hc
      rcases ih (by omega) with y | ⟨p, q1, q2, q3, q4⟩
      · by_cases hd : (1009 + c) ∣ n
        · exact Or.inr ⟨1009 + c, by omega, by omega, hd, y⟩
        · exact Or.inl (zfree_succ y hd)
      · exact Or.inr ⟨p, q1, by omega, q3, q4⟩
  rcases ex 31000 (by omega) with y | ⟨p, q1, q2, q3, q4⟩
  · exact z (zfree_rest (by omega) y (by omega))
  · obtain ⟨q, rfl⟩ := q3
    have hq0 : 0 < q := by
      rcases Nat.eq_zero_or_pos q with y | y
      · subst y; omega
      · exact y
    have hpq : p ≤ q := by
      rcases Nat.lt_or_ge q p with y | y
      · rcases Nat.lt_or_ge q 2 with x | x
        · have : q = 1 := by omega
          subst this
          rw [Nat.mul_one] at *
          exact absurd (zfree_prime (by omega) q4 (Nat.dvd_refl p)) z
        · exact absurd (Nat.dvd_mul_left q p) (q4 q x y)
      · exact y
    have hp2 : p ≤ 31622 := by
      rcases Nat.lt_or_ge 31622 p with y | y
      · have := Nat.mul_le_mul (show 31623 ≤ p from y) (show 31623 ≤ q by omega)
        omega
      · exact y
    have ho : p * q % 2 = 1 := by
      rcases (by omega : p * q % 2 = 0 ∨ p * q % 2 = 1) with y | y
      · exact absurd (Nat.dvd_of_mod_eq_zero y) (hf 2 (by omega) (by omega))
      · exact y
    have ho2 : p % 2 = 1 := by
      rcases (by omega : p % 2 = 0 ∨ p % 2 = 1) with y | y
      · exact absurd (Nat.dvd_trans (Nat.dvd_of_mod_eq_zero y) (Nat.dvd_mul_right p q)) (hf 2 (by omega) (by omega))
      · exact y
    exact mr_sound q1 hp2 hpq h2 ho (zfree_dvd hf (Nat.dvd_mul_right p q)) p2 p7 p61 (mr_pall q1 hp2 ho2)
