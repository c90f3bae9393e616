/-! powers modulo n, and a number's passing -/
def zsqs (n : Nat) : Nat → Nat → Int
  | 0, _ => 0
  | k + 1, pw => if pw * pw % n = n - 1 then 1 else zsqs n k (pw * pw % n)
def zpass2 (n pw h : Nat) : Int := if pw = 1 then 1 else if pw = n - 1 then 1 else zsqs n (h - 1) pw
def zhalf : Nat → Nat → Nat → Nat × Nat
  | 0, o, h => (o, h)
  | f + 1, o, h => if 1 < o ∧ o % 2 = 0 then zhalf f (o / 2) (h + 1) else (o, h)
def zpass (n b : Nat) : Int := zpass2 n (b ^ (zhalf 30 (n - 1) 0).1 % n) (zhalf 30 (n - 1) 0).2
theorem zmodA (a b k n : Nat) : (a * (b % n) ^ k) % n = (a * b ^ k) % n := by
  rw [Nat.mul_mod, ← Nat.pow_mod, ← Nat.mul_mod]
theorem zmodB (a c n : Nat) : ((a % n) * c) % n = (a * c) % n := by
  rw [Nat.mul_mod, Nat.mod_mod, ← Nat.mul_mod]
theorem zsq_pow (s m : Nat) : (s * s) ^ m = s ^ (m + m) := by rw [Nat.mul_pow, ← Nat.pow_add]
section M27
variable {w : zWt} {d : Nat} {H : zHt} {n : Nat}
theorem zw_mul {a b : Nat} (hn : n ≤ 999999999) (ha : a < n) (hb : b < n) : w64 ((a : Int) * (b : Int)) = ((a * b : Nat) : Int) := by
  rw [← Int.natCast_mul]
  exact w64_id (by have := Nat.mul_le_mul (show a ≤ 999999999 by omega) (show b ≤ 999999999 by omega); omega)
theorem c49l (hn : n ≤ 999999999) : ∀ (left pw sq : Nat) (K : Int → zHt → Prop), pw < n → sq < n → left ≤ 2000000000 → K ((pw * sq ^ left % n : Nat) : Int) H → zgo w d 49 9 [zJ, zJ, zI n, zL pw, zJ, zL sq, zJ, zI left] [] H (zQL K) := by
  intro left
  induction left using Nat.strongRecOn with
  | ind left ih =>
    intro pw sq K hp hs hl h
    have e2 : Int.tmod (left : Int) 2 = ((left % 2 : Nat) : Int) := rfl
    have e3 : w32 (Int.tdiv (left : Int) 2) = ((left / 2 : Nat) : Int) := w32_id (show -2147483648 ≤ ((left / 2 : Nat) : Int) ∧ ((left / 2 : Nat) : Int) ≤ 2147483647 by omega)
    refine x49_9 ⟨fun q => ?_, fun q => ⟨fun q2 => by omega, fun _ => ⟨fun q2 => ⟨by omega, ?_⟩, fun q2 => ⟨by omega, ?_⟩⟩⟩⟩
    · have : left = 0 := by omega
      subst this
      rw [Nat.pow_zero, Nat.mul_one, Nat.mod_eq_of_lt hp] at h
      exact h
    · rw [e2] at q2
      rw [e3, zw_mul hn hs hs, ztmod]
      refine ih (left / 2) (by omega) pw (sq * sq % n) K hp (Nat.mod_lt _ (by omega)) (by omega) ?_
      rw [zmodA, zsq_pow, show left / 2 + left / 2 = left by omega]
      exact h
    · rw [e2] at q2
      rw [e3, zw_mul hn hs hs, zw_mul hn hp hs, ztmod, ztmod]
      refine ih (left / 2) (by omega) (pw * sq % n) (sq * sq % n) K (Nat.mod_lt _ (by omega)) (Nat.mod_lt _ (by omega)) (by omega) ?_
      rw [zmodA, zmodB, zsq_pow, Nat.mul_assoc, Nat.mul_comm sq, ← Nat.pow_succ, show (left / 2 + left / 2).succ = left by omega]
      exact h
theorem c49 {b e : Nat} {K : Int → zHt → Prop} (h2 : 2 ≤ n) (hn : n ≤ 999999999) (hb : b < n) (he : e ≤ 2000000000) : zclL w d 49 [zI b, zI e, zI n] H K = K ((b ^ e % n : Nat) : Int) H :=
  zclL_eq fun K h => x49_0 (c49l hn e 1 b K (by omega) hb he (by rw [Nat.one_mul]; exact h))
theorem c48s (h2 : 2 ≤ n) (hn : n ≤ 999999999) : ∀ (k i hv pw : Nat) (K : Int → zHt → Prop), i + k = hv → hv ≤ 200 → pw < n → K (zsqs n k pw) H → zgo w (d + 1) 48 57 [zI n, zJ, zJ, zI hv, zL pw, zJ, zI i] [] H (zQI K) := by
  intro k
  induction k with
  | zero =>
    intro i hv pw K hi hh hp h
    exact x48_57 ⟨fun _ => h, fun q => by omega⟩
  | succ k ih =>
    intro i hv pw K hi hh hp h
    have e1 : w32 ((n : Int) - 1) = ((n - 1 : Nat) : Int) := by rw [w32_id (by omega)]; omega
    unfold zsqs at h
    refine x48_57 ⟨fun q => by omega, fun _ => ⟨fun q => by omega, fun _ => ⟨by omega, fun q => ?_, fun q => ?_⟩⟩⟩
    · rw [zw_mul hn hp hp, ztmod, e1] at q
      rw [zw_mul hn hp hp, ztmod, show w32 ((i : Int) + 1) = ((i + 1 : Nat) : Int) from w32_id (by omega)]
      rw [if_neg (by omega)] at h
      exact ih (i + 1) hv _ K (by omega) hh (Nat.mod_lt _ (by omega)) h
    · rw [zw_mul hn hp hp, ztmod, e1] at q
      rwa [if_pos (by omega)] at h
theorem c48f {b odd hv : Nat} {K : Int → zHt → Prop} (h2 : 2 ≤ n) (hn : n ≤ 999999999) (hb : b < n) (ho : odd ≤ 2000000000) (hh : hv ≤ 200) (h : K (zpass2 n (b ^ odd % n) hv) H) : zclL w d 49 [zI b, zI odd, zI n] H (fun x3 H2 => (x3 = 1 → K 1 H2) ∧ (¬ x3 = 1 → (¬ x3 = (w32 ((n : Int) - 1)) → zgo w (d + 1) 48 57 [zI n, zJ, zJ, zI hv, zL x3, zJ, zI 1] [] H2 (zQI K)) ∧ (x3 = (w32 ((n : Int) - 1)) → K 1 H2))) := by
  have e1 : w32 ((n : Int) - 1) = ((n - 1 : Nat) : Int) := by rw [w32_id (by omega)]; omega
  rw [c49 h2 hn hb ho, e1]
  unfold zpass2 at h
  refine ⟨fun q => by rwa [if_pos (by omega)] at h, fun q => ⟨fun q2 => ?_, fun q2 => by rwa [if_neg (by omega), if_pos (by omega)] at h⟩⟩
  rw [if_neg (by omega), if_neg (by omega)] at h
  rcases Nat.eq_zero_or_pos hv with z | z
  · subst z
    exact x48_57 ⟨fun _ => h, fun q => by omega⟩
  · exact c48s h2 hn (hv - 1) 1 hv _ K (by omega) hh (Nat.mod_lt _ (by omega)) h
theorem c48l {b : Nat} (h2 : 2 ≤ n) (hn : n ≤ 999999999) (hb : b < n) : ∀ (f odd hv : Nat) (K : Int → zHt → Prop), odd < 2 ^ f → 1 ≤ odd → odd ≤ 2000000000 → hv + f ≤ 100 → K (zpass2 n (b ^ (zhalf f odd hv).1 % n) (zhalf f odd hv).2) H → zgo w (d + 1) 48 6 [zI n, zI b, zI odd, zI hv, zJ, zJ, zJ] [] H (zQI K) := by
  intro f
  induction f with
  | zero => intro odd hv K h1 h3; omega
  | succ f ih =>
    intro odd hv K h1 h3 h4 hh h
    have e2 : Int.tmod (odd : Int) 2 = ((odd % 2 : Nat) : Int) := rfl
    have e3 : w32 (Int.tdiv (odd : Int) 2) = ((odd / 2 : Nat) : Int) := w32_id (show -2147483648 ≤ ((odd / 2 : Nat) : Int) ∧ ((odd / 2 : Nat) : Int) ≤ 2147483647 by omega)
    unfold zhalf at h
    refine x48_6 ⟨fun q => ?_, fun q => ⟨fun q2 => ?_, fun q2 => ?_⟩⟩
    · rw [if_neg (by omega)] at h
      exact c48f h2 hn hb h4 (by omega) h
    · rw [e2] at q2
      rw [if_neg (by omega)] at h
      exact c48f h2 hn hb h4 (by omega) h
    · rw [e2] at q2
      rw [if_pos (by omega)] at h
      rw [e3, show w32 ((hv : Int) + 1) = ((hv + 1 : Nat) : Int) from w32_id (by omega)]
      rw [Nat.pow_succ] at h1
      exact ih (odd / 2) (hv + 1) K (by omega) (by omega) (by omega) (by omega) h
theorem c48 {b : Nat} {K : Int → zHt → Prop} (h2 : 2 ≤ n) (hn : n ≤ 999999999) (hb : b < n) : zclI w (d + 1) 48 [zI n, zI b] H K = K (zpass n b) H :=
  zclI_eq fun K h => x48_0 (by
    rw [show w32 ((n : Int) - 1) = ((n - 1 : Nat) : Int) by rw [w32_id (by omega)]; omega]
    refine c48l h2 hn hb 30 (n - 1) 0 K ?_ (by omega) (by omega) (by omega) h
    have e : 2 ^ 30 = 1073741824 := by decide
    omega)
end M27
/-! the class's factors -/
def zs (i : Nat) : Nat := if i < 168 then (zsmall.getD i 0).toNat else 1009
theorem zs_all : (List.range 168).all (fun i => decide (2 ≤ zs i ∧ zs i < zs (i + 1) ∧ zs i ≤ 997 ∧ zsmall.getD i 0 = (zs i : Int)) && (List.range (zs (i + 1) - zs i - 1)).all (fun k => (List.range (zs i - 1)).any (fun c => decide ((zs i + 1 + k) % (c + 2) = 0)))) = true := by decide +kernel
theorem zs_at {i : Nat} (hi : i < 168) : 2 ≤ zs i ∧ zs i < zs (i + 1) ∧ zs i ≤ 997 ∧ zsmall.getD i 0 = (zs i : Int) := by
  have := List.all_eq_true.mp zs_all i (List.mem_range.mpr hi)
  simp only [Bool.and_eq_true] at this
  exact of_decide_eq_true this.1
theorem zs_gap {i dd : Nat} (hi : i < 168) (h1 : zs i < dd) (h2 : dd < zs (i + 1)) : ∃ c, 2 ≤ c ∧ c ≤ zs i ∧ c ∣ dd := by
  have := List.all_eq_true.mp zs_all i (List.mem_range.mpr hi)
  simp only [Bool.and_eq_true] at this
  have h3 := List.all_eq_true.mp this.2 (dd - zs i - 1) (List.mem_range.mpr (by omega))
  obtain ⟨c, hc, h4⟩ := List.any_eq_true.mp h3
  have h5 := of_decide_eq_true h4
  have h6 := List.mem_range.mp hc
  rw [show zs i + 1 + (dd - zs i - 1) = dd by omega] at h5
  exact ⟨c + 2, by omega, by omega, Nat.dvd_of_mod_eq_zero h5⟩
theorem zs_free {i left : Nat} (hi : i < 168) (h : zfree (zs i) left) (hn : ¬ zs i ∣ left) : zfree (zs (i + 1)) left := by
  intro dd h1 h2 hd
  rcases Nat.lt_or_ge dd (zs i) with z | z
  · exact h dd h1 z hd
  · rcases Nat.eq_or_lt_of_le z with y | y
    · exact hn (y ▸ hd)
    · obtain ⟨c, c1, c2, c3⟩ := zs_gap hi y h2
      rcases Nat.eq_or_lt_of_le c2 with u | u
      · exact hn (u ▸ Nat.dvd_trans c3 hd)
      · exact h c c1 u (Nat.dvd_trans c3 hd)
theorem zfree_dvd {p a b : Nat} (h : zfree p a) (hd : b ∣ a) : zfree p b := fun dd h1 h2 h3 => h dd h1 h2 (Nat.dvd_trans h3 hd)
theorem zfree_succ {p a : Nat} (h : zfree p a) (hn : ¬ p ∣ a) : zfree (p + 1) a := fun dd h1 h2 h3 => by
  rcases Nat.eq_or_lt_of_le (Nat.le_of_lt_succ h2) with y | y
  · exact hn (y ▸ h3)
  · exact h dd h1 y h3
def zFC (H : zHt) (n : Nat) (H' : zHt) : Prop := zfc H H' ∧ zGood n (zfac n) ∧ zLst H' 36 3 37 38 (zfac n)
/-- what is wanted of the three bases -/
def zMR : Prop := ∀ n, 1018081 ≤ n → n ≤ 999999999 → zfree 1009 n → zpass n 2 ≠ 0 → zpass n 7 ≠ 0 → zpass n 61 ≠ 0 → zprime n
section M28
variable {w : zWt} {d : Nat} {H : zHt} {n : Nat}
theorem c50l (hn : n ≤ 999999999) (h9 : 1018081 ≤ n) : ∀ (k p : Nat), 40000 ≤ p + k → p ≤ 31700 → 1009 ≤ p → p % 6 = 1 → zfree p n → zgo w d 50 4 [zI n, zI p] [] H (zQI fun x H' => H' = H ∧ ∃ r : Nat, x = r ∧ 2 ≤ r ∧ r ∣ n ∧ zfree r n) := by
  intro k
  induction k with
  | zero => intro p h1 h2; omega
  | succ k ih =>
    intro p hk hp1 hp2 hm hf
    have e1 : w32 (Int.tdiv (n : Int) (p : Int)) = ((n / p : Nat) : Int) := by
      rw [ztdiv]; exact w32_id (by have := Nat.div_le_self n p; have h0 : (0 : Int) ≤ ((n / p : Nat) : Int) := Int.natCast_nonneg _; omega)
    have e2 : w32 ((p : Int) + 4) = ((p + 4 : Nat) : Int) := w32_id (by omega)
    have e3 : w32 ((p : Int) + 6) = ((p + 6 : Nat) : Int) := w32_id (by omega)
    have no2 : ∀ k, 2 ∣ k → ¬ k ∣ n := fun k h1 h2 => hf 2 (by omega) (by omega) (Nat.dvd_trans h1 h2)
    have no3 : ∀ k, 3 ∣ k → ¬ k ∣ n := fun k h1 h2 => hf 3 (by omega) (by omega) (Nat.dvd_trans h1 h2)
    refine x50_4 ⟨by omega, fun q => ?_, fun q => ⟨fun q2 => ⟨by rw [e2]; omega, fun q3 => ?_, fun q3 => ?_⟩, fun q2 => ?_⟩⟩
    · rw [e1] at q
      have hlt : n < p * p := (Nat.div_lt_iff_lt_mul (by omega)).mp (by omega)
      have hpr := zfree_rest (by omega) hf hlt
      refine ⟨rfl, n, rfl, by omega, Nat.dvd_refl n, fun dd h1 h2 h3 => ?_⟩
      rcases hpr.2 dd h3 with z | z <;> omega
    · rw [ztmod] at q2
      rw [e2, ztmod] at q3
      have n1 : ¬ p ∣ n := fun z => q2 (by rw [Nat.mod_eq_zero_of_dvd z]; rfl)
      have n2 : ¬ (p + 4) ∣ n := fun z => q3 (by rw [Nat.mod_eq_zero_of_dvd z]; rfl)
      have f1 := zfree_succ hf n1
      have f2 := zfree_succ f1 (no2 (p + 1) (by omega))
      have f3 := zfree_succ f2 (no3 (p + 2) (by omega))
      have f4 := zfree_succ f3 (no2 (p + 3) (by omega))
      have f5 := zfree_succ f4 n2
      have f6 := zfree_succ f5 (no2 (p + 5) (by omega))
      rw [e1] at q
      have hpp : p * p ≤ n := (Nat.le_div_iff_mul_le (by omega)).mp (by omega)
      have := zsq_lt (show p * p ≤ 999999999 by omega)
      rw [e3]
      exact ih (p + 6) (by omega) (by omega) (by omega) (by omega) f6
    · rw [ztmod] at q2
      rw [e2, ztmod] at q3
      have n1 : ¬ p ∣ n := fun z => q2 (by rw [Nat.mod_eq_zero_of_dvd z]; rfl)
      have f1 := zfree_succ hf n1
      have f2 := zfree_succ f1 (no2 (p + 1) (by omega))
      have f3 := zfree_succ f2 (no3 (p + 2) (by omega))
      have f4 := zfree_succ f3 (no2 (p + 3) (by omega))
      exact ⟨rfl, p + 4, e2, by omega, Nat.dvd_of_mod_eq_zero (by omega), f4⟩
    · rw [ztmod] at q2
      exact ⟨rfl, p, rfl, by omega, Nat.dvd_of_mod_eq_zero (by omega), hf⟩
theorem c50 (hn : n ≤ 999999999) (h9 : 1018081 ≤ n) (hf : zfree 1009 n) : ∃ r : Nat, 2 ≤ r ∧ r ∣ n ∧ zfree r n ∧ ∀ K : Int → zHt → Prop, zclI w d 50 [zI n] H K = K r H := by
  obtain ⟨x, H', ⟨rfl, r, rfl, h1, h2, h3⟩, hK⟩ := zclI_ex (x50_0 (c50l (w := w) (d := d) (H := H) hn h9 40000 1009 (by omega) (by omega) (by omega) (by omega) hf))
  exact ⟨r, h1, h2, h3, hK⟩
theorem c45end {H0 : zHt} {l : List (Nat × Nat)} {left p : Nat} (hn : n ≤ 999999999) (hf : zfc H0 H) (hl : zPart l p) (hL : zLst H 36 3 37 38 l) (hne : n = zprod l * left) (h1 : 1 ≤ left) (hpl : left = 1 ∨ (p ≤ left ∧ zprime left)) : ((left : Int) ≤ 1 → zFC H0 n H) ∧ (1 < (left : Int) → zclV w d 47 [zR 36, zI left, zI 1] H (zFC H0 n)) := by
  refine ⟨fun q => ?_, fun q => ?_⟩
  · have hG : zGood n l := ⟨hl.1, hl.2.1, by rw [hne, show left = 1 by omega, Nat.mul_one]⟩
    exact ⟨hf, by rw [zfac_eq hG]; exact hG, by rw [zfac_eq hG]; exact hL⟩
  · rcases hpl with z | ⟨z1, z2⟩
    · omega
    · have hll : zPart l left := ⟨hl.1, hl.2.1, fun q hq => by have := hl.2.2 q hq; omega⟩
      have hlen : l.length ≤ 8 := zPart_len (e := 1) (m := 1) (n := n) hll z2 (Nat.le_refl 1) (Nat.le_refl 1) (by rw [Nat.pow_one, Nat.mul_one]; exact hne) (by omega)
      have hc := hL.1
      have hG : zGood n (l ++ [(left, 1)]) := by
        have := zPart_app (p' := left + 1) hll z2 (Nat.le_refl 1) (by omega)
        exact ⟨this.1, this.2.1, by rw [zprod_app, Nat.pow_one]; exact hne.symm⟩
      rw [c47 (by omega)]
      exact ⟨zfc_add hf, by rw [zfac_eq hG]; exact hG, by rw [zfac_eq hG]; exact zLst_add (p := left) (e := 1) hL hlen⟩
theorem c45fin {H0 : zHt} {l : List (Nat × Nat)} {left : Nat} (hn : n ≤ 999999999) (hf : zfc H0 H) (hl : zPart l 1009) (hL : zLst H 36 3 37 38 l) (hne : n = zprod l * left) (h9 : 1018081 ≤ left) (hfr : zfree 1009 left) : zclI w (d + 1) 50 [zI left] H (fun x9 H8 => zclI w (d + 1) 46 [zR 36, zI left, zI x9] H8 (fun x11 H10 => (x11 ≤ 1 → zFC H0 n H10) ∧ (1 < x11 → zclV w (d + 1) 47 [zR 36, zI x11, zI 1] H10 (fun H13 => zFC H0 n H13)))) := by
  have hz := zprod_pos hl.2.1
  have hle : left ≤ n := by rw [hne]; exact Nat.le_mul_of_pos_left _ hz
  obtain ⟨r, r1, r2, r3, e⟩ := c50 (w := w) (d := d + 1) (H := H) (n := left) (by omega) h9 hfr
  rw [e]
  have hrp := zfree_prime r1 r3 r2
  have hr9 : 1009 ≤ r := by
    rcases Nat.lt_or_ge r 1009 with z | z
    · exact absurd r2 (hfr r r1 z)
    · exact z
  have hrl : r ≤ left := Nat.le_of_dvd (by omega) r2
  have hlr : zPart l r := ⟨hl.1, hl.2.1, fun q hq => by have := hl.2.2 q hq; omega⟩
  obtain ⟨m, hm⟩ := r2
  have hm1 : 1 ≤ m := by
    rcases Nat.eq_zero_or_pos m with z | z
    · subst z; omega
    · exact z
  have hlen : l.length ≤ 8 := zPart_len (e := 1) (m := m) (n := n) hlr hrp (Nat.le_refl 1) hm1 (by rw [Nat.pow_one, Nat.mul_assoc, ← hm]; exact hne) (by omega)
  have hc := hL.1
  obtain ⟨left', e', a1, a2, a3, e2⟩ := c46 (w := w) (d := d) (H := H) (left := left) (p := r) (by omega) (by omega) r1 (by omega) (fun _ => by omega)
  rw [e2]
  have he' : 1 ≤ e' := by
    rcases Nat.eq_zero_or_pos e' with z | z
    · subst z
      rw [Nat.pow_zero, Nat.one_mul] at a2
      exact absurd ⟨m, a2 ▸ hm⟩ a3
    · exact z
  rw [if_neg (by omega)]
  have hne' : n = zprod (l ++ [(r, e')]) * left' := by rw [zprod_app, Nat.mul_assoc, ← a2]; exact hne
  have hdv : left' ∣ left := ⟨r ^ e', by rw [a2, Nat.mul_comm]⟩
  have f1 := zfree_succ (zfree_dvd r3 hdv) a3
  refine c45end (d := d + 1) (p := r + 1) hn (zfc_add hf) (zPart_app hlr hrp he' (by omega)) (zLst_add (p := r) (e := e') hL hlen) hne' a1 ?_
  rcases Nat.lt_or_ge left' 2 with z | z
  · left; omega
  · right
    have hrl' : r + 1 ≤ left' := by
      rcases Nat.lt_or_ge left' (r + 1) with y | y
      · exact absurd (Nat.dvd_refl left') (f1 left' z y)
      · exact y
    refine ⟨hrl', zfree_rest z f1 ?_⟩
    have h5 : r ≤ r ^ e' := by
      obtain ⟨k, rfl⟩ : ∃ k, e' = k + 1 := ⟨e' - 1, by omega⟩
      rw [Nat.pow_succ]
      exact Nat.le_mul_of_pos_left r (Nat.pow_pos (by omega))
    have h6 : 1009 * left' ≤ left := by
      rw [a2]; exact Nat.mul_le_mul_right left' (by omega)
    have h7 := Nat.mul_le_mul (show 1010 ≤ r + 1 by omega) (show 1010 ≤ r + 1 by omega)
    omega
theorem c45tail {H0 : zHt} {l : List (Nat × Nat)} {left p : Nat} (hMR : zMR) (hn : n ≤ 999999999) (hf : zfc H0 H) (hl : zPart l p) (hL : zLst H 36 3 37 38 l) (hne : n = zprod l * left) (h1 : 1 ≤ left) (hp : 2 ≤ p) (hp9 : p ≤ 1009) (hfr : zfree p left) (hx : left < p * p ∨ p = 1009) : zgo w (d + 2) 45 49 [zR 36, zJ, zI left, zJ] [] H (zQV (zFC H0 n)) := by
  have hz := zprod_pos hl.2.1
  have hle : left ≤ n := by rw [hne]; exact Nat.le_mul_of_pos_left _ hz
  have hpp := Nat.mul_le_mul hp9 hp9
  have hpl : 2 ≤ left → p ≤ left := fun h2 => by
    rcases Nat.lt_or_ge left p with y | y
    · exact absurd (Nat.dvd_refl left) (hfr left h2 y)
    · exact y
  refine x45_49 ⟨fun q => ?_, fun q => ?_⟩
  · refine c45end (d := d + 1) hn hf hl hL hne h1 ?_
    rcases Nat.lt_or_ge left 2 with z | z
    · left; omega
    · right
      refine ⟨hpl z, zfree_rest z hfr ?_⟩
      rcases hx with y | y
      · exact y
      · subst y; omega
  · have h9 : p = 1009 := by
      rcases hx with y | y
      · omega
      · exact y
    subst h9
    have F := c45fin (w := w) (d := d) hn hf hl hL hne (show 1018081 ≤ left by omega) hfr
    have hpr : zpass left 2 ≠ 0 → zpass left 7 ≠ 0 → zpass left 61 ≠ 0 → zprime left := hMR left (by omega) (by omega) hfr
    have c2 : ∀ K : Int → zHt → Prop, zclI w (d + 1) 48 [zI left, zI 2] H K = K (zpass left 2) H := fun K => c48 (b := 2) (by omega) (by omega) (by omega)
    have c7 : ∀ K : Int → zHt → Prop, zclI w (d + 1) 48 [zI left, zI 7] H K = K (zpass left 7) H := fun K => c48 (b := 7) (by omega) (by omega) (by omega)
    have c61 : ∀ K : Int → zHt → Prop, zclI w (d + 1) 48 [zI left, zI 61] H K = K (zpass left 61) H := fun K => c48 (b := 61) (by omega) (by omega) (by omega)
    rw [c2]
    refine ⟨fun _ => F, fun q2 => ?_⟩
    rw [c7]
    refine ⟨fun _ => F, fun q7 => ?_⟩
    rw [c61]
    refine ⟨fun q61 => ?_, fun _ => F⟩
    exact c45end (d := d + 1) hn hf hl hL hne h1 (Or.inr ⟨hpl (by omega), hpr q2 q7 q61⟩)
theorem c45l {H0 : zHt} (hMR : zMR) (hn : n ≤ 999999999) : ∀ (k i left : Nat) (l : List (Nat × Nat)) (H : zHt), i + k = 168 → zfc H0 H → zPart l (zs i) → zLst H 36 3 37 38 l → n = zprod l * left → 1 ≤ left → zfree (zs i) left → zgo w (d + 2) 45 9 [zR 36, zJ, zI left, zI i] [] H (zQV (zFC H0 n)) := by
  intro k
  induction k with
  | zero =>
    intro i left l H hi hf hl hL hne h1 hfr
    have : i = 168 := by omega
    subst this
    exact x45_9 ⟨fun _ => c45tail hMR hn hf hl hL hne h1 (by decide) (by decide) hfr (Or.inr rfl), fun q => by omega⟩
  | succ k ih =>
    intro i left l H hi hf hl hL hne h1 hfr
    obtain ⟨s1, s2, s3, s4⟩ := zs_at (show i < 168 by omega)
    have hz := zprod_pos hl.2.1
    have hle : left ≤ n := by rw [hne]; exact Nat.le_mul_of_pos_left _ hz
    have eS : zH0 w.2.1 1 (i : Int) = (zs i : Int) := by
      unfold zH0
      rw [if_neg (by decide), if_pos rfl, Int.toNat_natCast]
      exact s4
    have s5 : zs i ≤ 1009 := Nat.le_trans s3 (by decide)
    have hss := Nat.mul_le_mul s3 s3
    have e1 : w32 ((zs i : Int) * (zs i : Int)) = ((zs i * zs i : Nat) : Int) := by
      rw [← Int.natCast_mul]; exact w32_id (by omega)
    refine x45_9 ⟨fun q => by omega, fun _ => ⟨by omega, fun q => ?_, fun q => ?_⟩⟩
    · rw [eS, e1] at q
      exact c45tail hMR hn hf hl hL hne h1 s1 s5 hfr (Or.inl (Int.ofNat_lt.mp q))
    · rw [eS]
      have hc := hL.1
      have hlen : zs i ∣ left → l.length ≤ 8 := fun hd => by
        have hpr := zfree_prime s1 hfr hd
        obtain ⟨m, hm⟩ := hd
        refine zPart_len (e := 1) (m := m) (n := n) hl hpr (Nat.le_refl 1) ?_ (by rw [Nat.pow_one, Nat.mul_assoc, ← hm]; exact hne) (by omega)
        rcases Nat.eq_zero_or_pos m with z | z
        · subst z; omega
        · exact z
      obtain ⟨left', e', a1, a2, a3, e2⟩ := c46 (w := w) (d := d) (H := H) (left := left) (p := zs i) h1 (by omega) s1 (by omega) (fun hd => by have := hlen hd; omega)
      rw [e2, show w32 ((i : Int) + 1) = ((i + 1 : Nat) : Int) from w32_id (by omega)]
      have hdv : left' ∣ left := ⟨zs i ^ e', by rw [a2, Nat.mul_comm]⟩
      have hfn := zs_free (show i < 168 by omega) (zfree_dvd hfr hdv) a3
      rcases Nat.eq_zero_or_pos e' with z | z
      · subst z
        rw [Nat.pow_zero, Nat.one_mul] at a2
        subst a2
        rw [if_pos rfl]
        exact ih (i + 1) left l H (by omega) hf ⟨hl.1, hl.2.1, fun q hq => by have := hl.2.2 q hq; omega⟩ hL hne h1 hfn
      · rw [if_neg (by omega)]
        have hd : zs i ∣ left := by rw [a2]; exact zdvd_pow z _
        have hpr := zfree_prime s1 hfr hd
        exact ih (i + 1) left' (l ++ [(zs i, e')]) _ (by omega) (zfc_add hf) (zPart_app hl hpr z s2) (zLst_add (p := zs i) (e := e') hL (hlen hd)) (by rw [zprod_app, Nat.mul_assoc, ← a2]; exact hne) a1 hfn
theorem c45 (hMR : zMR) (h1 : 1 ≤ n) (hn : n ≤ 999999999) : ∃ H', zFC H n H' ∧ ∀ K : zHt → Prop, zclV w (d + 2) 45 [zR 36, zI n] H K = K H' := by
  refine zclV_ex (x45_0 ?_)
  exact c45l hMR hn 168 0 n [] _ (by omega) (zfc_0 zfc_rfl) ⟨List.Pairwise.nil, (fun q hq => nomatch hq), (fun q hq => nomatch hq)⟩ ⟨zq_eq, fun i q hq => by simp at hq⟩ (by simp [zprod]) h1 (fun dd h1 h2 => by
    have : zs 0 = 2 := by decide
    omega)
end M28
/-! the class's sums, kinds, primes -/
theorem zw64_w (a : Int) : w64 (w64 a) = w64 a := w64_id (w64_r a)
theorem zss1 : ∀ (l : List (Nat × Nat)) (s b : Int), (l.foldl (zsst 1) (s, b)).1 = l.foldl (fun s q => w64 (s * w64 (zpw q.1 q.2 + 1))) s
  | [], _, _ => rfl
  | q :: l, s, b => by
    rw [List.foldl_cons, List.foldl_cons]
    have e : zsst 1 (s, b) q = (w64 (s * w64 (zpw q.1 q.2 + 1)), if b = 0 then 0 else if (q.2 : Int) = 1 then 1 else 0) := by
      unfold zsst
      rw [if_pos rfl, Int.add_comm 1]
    rw [e]
    exact zss1 l _ _
theorem zss3 {law : Int} (hl : law ≠ 1) : ∀ (l : List (Nat × Nat)) (s b : Int), (∀ q ∈ l, q.1 ≤ 999999999) → (l.foldl (zsst law) (s, b)).1 = l.foldl (fun s q => w64 (s * ((q.1 : Int) + 1))) s
  | [], _, _, _ => rfl
  | q :: l, s, b, h => by
    rw [List.foldl_cons, List.foldl_cons]
    have hq := h q List.mem_cons_self
    have e : zsst law (s, b) q = (w64 (s * ((q.1 : Int) + 1)), if b = 0 then 0 else if (q.2 : Int) = 1 then 1 else 0) := by
      unfold zsst
      rw [if_neg hl, show w64 (1 + (q.1 : Int)) = (q.1 : Int) + 1 by rw [Int.add_comm]; exact w64_id (by omega)]
    rw [e]
    exact zss3 hl l _ _ (fun r hr => h r (List.mem_cons_of_mem _ hr))
theorem zssb {law : Int} : ∀ (l : List (Nat × Nat)) (s b : Int), (∀ q ∈ l, 1 ≤ q.2) → ((l.foldl (zsst law) (s, b)).2 = 0 ↔ (b = 0 ∨ ¬ ∀ q ∈ l, q.2 ≤ 1))
  | [], s, b, _ => by simp
  | q :: l, s, b, h => by
    rw [List.foldl_cons]
    have hq := h q List.mem_cons_self
    have ih := zssb (law := law) l (zsst law (s, b) q).1 (zsst law (s, b) q).2 (fun r hr => h r (List.mem_cons_of_mem _ hr))
    rw [ih]
    have e : (zsst law (s, b) q).2 = if b = 0 then 0 else if (q.2 : Int) = 1 then 1 else 0 := rfl
    rw [e]
    rw [List.forall_mem_cons]
    by_cases hb : b = 0
    · simp [hb]
    · by_cases h1 : (q.2 : Int) = 1
      · have : q.2 ≤ 1 := by omega
        simp [hb, h1, this]
      · have : ¬ q.2 ≤ 1 := by omega
        simp [hb, h1, this]
theorem zbare_r : ∀ (l : List (Nat × Nat)) (s : Int), r64 s → r64 (l.foldl (fun s q => w64 (s * ((q.1 : Int) + 1))) s)
  | [], _, h => h
  | q :: l, s, _ => zbare_r l _ (w64_r _)
section M29
variable {w : zWt} {d : Nat} {H : zHt} {n : Nat}
theorem c53 {law : Int} (hMR : zMR) (h1 : 1 ≤ n) (hn : n ≤ 999999999) (hl : 0 ≤ law ∧ law ≤ 3) : ∃ H', zfc H H' ∧ ∀ K : Int → zHt → Prop, zclL w (d + 3) 53 [zR 36, zI law, zI n] H K = K (zsum law n) H' := by
  by_cases hn1 : n = 1
  · refine ⟨H, zfc_rfl, fun K => zclL_eq fun K h => x53_0 ⟨fun q => by omega, fun _ => ?_⟩⟩
    simpa [zsum, hn1] using h
  · obtain ⟨H', hF, e⟩ := c45 (w := w) (H := H) (d := d) hMR h1 hn
    obtain ⟨f1, hG, hL⟩ := hF
    refine ⟨H', f1, fun K => zclL_eq fun K h => x53_0 ⟨fun _ => ?_, fun q => by omega⟩⟩
    rw [e]
    unfold zsum at h
    rw [if_neg hn1] at h
    have hq1 : ∀ q ∈ zfac n, q.1 ≤ 999999999 := fun q hq => by have := (zGood_bd hG hq).2.2.1; omega
    have hq2 : ∀ q ∈ zfac n, 1 ≤ q.2 := fun q hq => (zGood_bd hG hq).2.1
    refine ⟨fun q1 => ⟨fun q3 => ?_, fun q3 => ?_⟩, fun q1 => ?_⟩
    · rw [c58 hn hG hL]
      refine ⟨fun q2 => ?_, fun q2 => ?_⟩
      · rw [if_pos (by omega)] at h
        rw [Int.sub_zero, zw64_w]; exact h
      · rw [if_neg (by omega), if_pos q2] at h
        exact h
    · rw [if_neg (by omega), if_neg (by omega)] at h
      rw [c56 hn hG hL, c57 hn hG hL]
      unfold zsre at h
      rw [if_neg q1, zss3 q1 _ _ _ hq1] at h
      have hb := zssb (law := law) (zfac n) 1 1 hq2
      refine ⟨fun q => ?_, fun q => ?_⟩
      · rw [if_pos (hb.mpr (Or.inr (fun z => by rw [if_pos z] at q; exact absurd q (by decide))))] at h
        rw [Int.sub_zero, w64_id (zbare_r _ _ ⟨by decide, by decide⟩)]
        exact h
      · rw [if_neg (fun z => by
          rcases hb.mp z with y | y
          · exact absurd y (by decide)
          · rw [if_neg y] at q; exact q rfl)] at h
        exact h
    · rw [if_neg (by omega), if_neg (by omega)] at h
      rw [c54 hn hG hL]
      unfold zsre at h
      rw [if_pos q1] at h
      subst q1
      rw [zss1] at h
      exact h
theorem c62 {law : Int} (hMR : zMR) (h1 : 1 ≤ n) (hn : n ≤ 999999999) (hl : 0 ≤ law ∧ law ≤ 3) : ∃ H', zfc H H' ∧ ∀ K : Int → zHt → Prop, zclI w (d + 4) 62 [zR 32, zI law, zI n] H K = K (zkind2 law n) H' := by
  obtain ⟨H', hF, e⟩ := c53 (w := w) (H := H) (d := d) hMR h1 hn hl
  refine ⟨H', hF, fun K => zclI_eq fun K h => x62_0 ?_⟩
  rw [e]
  unfold zkind2 at h
  exact ⟨fun q => ⟨fun q2 => by rwa [if_neg (by omega), if_neg q] at h, fun q2 => by rwa [if_pos q2] at h⟩, fun q => by rwa [if_neg (by omega), if_pos q] at h⟩
theorem c52 (hMR : zMR) (h1 : 1 ≤ n) (hn : n ≤ 999999999) (hl : 0 ≤ H 40 4 ∧ H 40 4 ≤ 3) : ∃ H', zfc H H' ∧ ∀ K : Int → zHt → Prop, zclL w (d + 4) 52 [zR 32, zI n] H K = K (zsum (H 40 4) n) H' := by
  obtain ⟨H', hF, e⟩ := c53 (w := w) (H := H) (d := d) hMR h1 hn hl
  exact ⟨H', hF, fun K => zclL_eq fun K h => x52_0 (by rw [e]; exact h)⟩
theorem c69 (hMR : zMR) (h1 : 1 ≤ n) (hn : n ≤ 999999999) : ∃ H', zfc H H' ∧ ∀ K : Int → zHt → Prop, zclL w (d + 3) 69 [zR 36, zI n] H K = K (zall (zfac n)) H' := by
  obtain ⟨H', hF, e⟩ := c45 (w := w) (H := H) (d := d) hMR h1 hn
  refine ⟨H', hF.1, fun K => zclL_eq fun K h => x69_0 ?_⟩
  rw [e, c58 hn hF.2.1 hF.2.2]
  exact h
theorem c71 (hMR : zMR) (h1 : 1 ≤ n) (hn : n ≤ 999999999) : ∃ H', zfc H H' ∧ ∀ K : Int → zHt → Prop, zclI w (d + 3) 71 [zR 36, zI n] H K = K (zcnt (zfac n)) H' := by
  obtain ⟨H', hF, e⟩ := c45 (w := w) (H := H) (d := d) hMR h1 hn
  refine ⟨H', hF.1, fun K => zclI_eq fun K h => x71_0 ?_⟩
  rw [e]
  exact c71l hn hF.2.1 hF.2.2 (zfac n) [] 1 K rfl h
end M29
