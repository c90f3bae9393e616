/-! what is kept between the calls; first cases of the law -/
/-- the places that later calls show -/
def zrel (a j : Int) : Bool := a == 34 || (decide (40 ≤ a) && decide (a ≤ 41)) || a == 44 || a == 49 || (decide (53 ≤ a) && decide (a ≤ 80)) || a == 82 || a == 84 || a == 93 || a == 101 || a == 98 || a == 99 || (a == 32 && decide (11 ≤ j) && decide (j ≤ 13)) || (a == 33 && j == 8) || (a == 48 && j == 1) || (a == 81 && (j == 5 || j == 29 || j == 31 || j == 32 || j == 33))
def zkeep (H H' : zHt) : Prop := ∀ a j : Int, zrel a j = true → H' a j = H a j
theorem zkeep_rfl {H : zHt} : zkeep H H := fun _ _ _ => rfl
theorem zkeep_up {H0 H : zHt} {o i x : Int} (hr : zrel o i = false) (h : zkeep H0 H) : zkeep H0 (zup H o i x) := fun a j q => by
  rw [zq_ne (fun z => by rw [z.1, z.2, hr] at q; cases q)]; exact h a j q
theorem zfc_keep {H H' : zHt} (h : zfc H H') : zkeep H H' := fun a j q => h a j (fun z => by subst z; cases q) (fun z => by subst z; cases q) (fun z => by obtain ⟨rfl, rfl⟩ := z; cases q)
def zDk (H : zHt) : Prop := (0 ≤ H 40 4 ∧ H 40 4 ≤ 3) ∧ True ∧ True ∧ True ∧ True ∧ (0 ≤ H 40 1 ∧ H 40 1 ≤ 6) ∧ (1 ≤ H 40 2 ∧ H 40 2 ≤ 999999999) ∧ (1 ≤ H 40 3 ∧ H 40 3 ≤ 100) ∧ ∀ k : Nat, (k : Int) < H 40 1 → True ∧ 1 ≤ H 41 k ∧ H 41 k ≤ 999999999
section Z31
variable {w : zWt} {R0 : zHt → Prop}
/-- sum, by the class and by the model -/
theorem a51 {d : Nat} {v : Int} {H : zHt} (hMR : zMR) (hd : zDk H) : ∃ H', zkeep H H' ∧ H' 81 0 = H 81 0 ∧ H' 32 14 = (if 1 ≤ v ∧ v ≤ 999999999 then 0 else 1) ∧ ∀ K : Int → zHt → Prop, zclL w (d + 5) 51 [zR 32, zI v] H K = K (if 1 ≤ v ∧ v ≤ 999999999 then zsum (H 40 4) v.toNat else -1) H' := by
  by_cases hv : 1 ≤ v ∧ v ≤ 999999999
  · obtain ⟨n, rfl⟩ : ∃ n : Nat, v = n := ⟨v.toNat, by omega⟩
    obtain ⟨H', hf, e⟩ := c52 (w := w) (H := H) (d := d) (n := n) hMR (by omega) (by omega) hd.1
    refine ⟨zup H' 32 14 0, zkeep_up rfl (zfc_keep hf), ?_, ?_, fun K => zclL_eq fun K h => x51_0 ?_⟩
    · rw [zq_ne (by decide)]; exact hf 81 0 (by decide) (by decide) (by decide)
    · rw [zq_eq, if_pos hv]
    · rw [if_pos hv, Int.toNat_natCast] at h
      rw [c43, if_pos hv]
      refine ⟨fun _ => ?_, fun q => absurd q (by decide)⟩
      rw [e, c60]; exact h
  · refine ⟨zup H 32 14 1, zkeep_up rfl zkeep_rfl, ?_, ?_, fun K => zclL_eq fun K h => x51_0 ?_⟩
    · rw [zq_ne (by decide)]
    · rw [zq_eq, if_neg hv]
    · rw [if_neg hv] at h
      rw [c43, if_neg hv]
      refine ⟨fun q => absurd rfl q, fun _ => ?_⟩
      rw [c13]; exact h
/-- kind -/
theorem a61 {d : Nat} {v : Int} {H : zHt} (hMR : zMR) (hd : zDk H) : ∃ H', zkeep H H' ∧ H' 81 0 = H 81 0 ∧ H' 32 14 = (if 1 ≤ v ∧ v ≤ 999999999 then 0 else 1) ∧ ∀ K : Int → zHt → Prop, zclI w (d + 5) 61 [zR 32, zI v] H K = K (if 1 ≤ v ∧ v ≤ 999999999 then zkind2 (H 40 4) v.toNat else -1) H' := by
  by_cases hv : 1 ≤ v ∧ v ≤ 999999999
  · obtain ⟨n, rfl⟩ : ∃ n : Nat, v = n := ⟨v.toNat, by omega⟩
    obtain ⟨H', hf, e⟩ := c62 (w := w) (H := H) (d := d) (n := n) hMR (by omega) (by omega) hd.1
    refine ⟨zup H' 32 14 0, zkeep_up rfl (zfc_keep hf), ?_, ?_, fun K => zclI_eq fun K h => x61_0 ?_⟩
    · rw [zq_ne (by decide)]; exact hf 81 0 (by decide) (by decide) (by decide)
    · rw [zq_eq, if_pos hv]
    · rw [if_pos hv, Int.toNat_natCast] at h
      rw [c43, if_pos hv]
      refine ⟨fun _ => ?_, fun q => absurd q (by decide)⟩
      rw [e, c39]; exact h
  · refine ⟨zup H 32 14 1, zkeep_up rfl zkeep_rfl, ?_, ?_, fun K => zclI_eq fun K h => x61_0 ?_⟩
    · rw [zq_ne (by decide)]
    · rw [zq_eq, if_neg hv]
    · rw [if_neg hv] at h
      rw [c43, if_neg hv]
      refine ⟨fun q => absurd rfl q, fun _ => ?_⟩
      rw [c13]; exact h
end Z31
/-! the law's case many -/
section Z32
variable {w : zWt} {R0 : zHt → Prop}
theorem a41 {d : Nat} {v : Int} {H : zHt} : ∃ H', zkeep H H' ∧ H' 81 0 = H 81 0 ∧ H' 32 14 = (if 0 ≤ v ∧ v ≤ 4 then 0 else 1) ∧ ∀ K : Int → zHt → Prop, zclI w (d + 1) 41 [zR 32, zI v] H K = K (if v = 0 then H 40 1 else if v = 1 then H 40 2 else if v = 2 then H 40 3 else if v = 3 then H 40 4 else if v = 4 then H 32 11 else -1) H' := by
  by_cases hv : 0 ≤ v ∧ v ≤ 4
  · refine ⟨zup H 32 14 0, zkeep_up rfl zkeep_rfl, by rw [zq_ne (by decide)], by rw [zq_eq, if_pos hv], fun K => zclI_eq fun K h => x41_0 ⟨fun q => by omega, fun q => ?_, fun q => ?_, fun q => ?_, fun q => ?_, fun q => ?_⟩⟩
    · subst q; rw [c39]; simpa using h
    · subst q; rw [c39]; simpa using h
    · subst q; rw [c39]; simpa using h
    · subst q; rw [c39]; simpa using h
    · subst q; rw [c39]; simpa using h
  · refine ⟨zup H 32 14 1, zkeep_up rfl zkeep_rfl, by rw [zq_ne (by decide)], by rw [zq_eq, if_neg hv], fun K => zclI_eq fun K h => x41_0 ⟨fun q => ?_, fun q => by omega, fun q => by omega, fun q => by omega, fun q => by omega, fun q => by omega⟩⟩
    rw [if_neg (by omega), if_neg (by omega), if_neg (by omega), if_neg (by omega), if_neg (by omega)] at h
    rw [c13]; exact h
end Z32
/-! the law's case row -/
section Z34
variable {w : zWt} {R0 : zHt → Prop}
theorem c106 {d : Nat} {v : Int} {H : zHt} {K : Int → zHt → Prop} (h6 : H 40 1 ≤ 6) : zclI w d 106 [zR 32, zI v] H K = K (if 0 ≤ v ∧ v < H 40 1 then 1 else 0) H :=
  zclI_eq fun K h => x106_0 ⟨fun q => by rwa [if_neg (by omega)] at h, fun q => ⟨fun q2 => by rwa [if_neg (by omega)] at h, fun q2 => ⟨fun q3 => by omega, fun q3 => by rwa [if_pos ⟨q, q2⟩] at h⟩⟩⟩
theorem a105 {d : Nat} {v : Int} {H : zHt} (hd : zDk H) : ∃ H', zkeep H H' ∧ H' 81 0 = H 81 0 ∧ H' 32 14 = (if 0 ≤ v ∧ v < H 40 1 then 0 else 2) ∧ ∀ K : Int → zHt → Prop, zclI w (d + 1) 105 [zR 32, zI v] H K = K (if 0 ≤ v ∧ v < H 40 1 then H 41 v else -1) H' := by
  have h6 := hd.2.2.2.2.2.1
  by_cases hv : 0 ≤ v ∧ v < H 40 1
  · refine ⟨zup H 32 14 0, zkeep_up rfl zkeep_rfl, by rw [zq_ne (by decide)], by rw [zq_eq, if_pos hv], fun K => zclI_eq fun K h => x105_0 ?_⟩
    rw [if_pos hv] at h
    rw [c106 h6.2, if_pos hv]
    refine ⟨fun _ => ⟨by omega, ?_⟩, fun q => absurd q (by decide)⟩
    rw [c39]; exact h
  · refine ⟨zup H 32 14 2, zkeep_up rfl zkeep_rfl, by rw [zq_ne (by decide)], by rw [zq_eq, if_neg hv], fun K => zclI_eq fun K h => x105_0 ?_⟩
    rw [if_neg hv] at h
    rw [c106 h6.2, if_neg hv]
    refine ⟨fun q => absurd rfl q, fun _ => ?_⟩
    rw [c13]; exact h
end Z34
/-! the law's case factor -/
def zfA (l : List (Nat × Nat)) (i what : Int) : Int := if i = -1 then l.length else if (l.length : Int) ≤ i then -1 else if what = 0 then (l.getD i.toNat (0, 0)).1 else (l.getD i.toNat (0, 0)).2
def zfS (l : List (Nat × Nat)) (i : Int) : Int := if i = -1 then 0 else if (l.length : Int) ≤ i then 5 else 0
theorem zLst_g {H : zHt} {c k A B i : Int} {l : List (Nat × Nat)} (h : zLst H c k A B l) (h0 : 0 ≤ i) (h1 : i < l.length) : H A i = (l.getD i.toNat (0, 0)).1 ∧ H B i = (l.getD i.toNat (0, 0)).2 := by
  have hi : i.toNat < l.length := by omega
  have := h.2 i.toNat _ (List.getElem?_eq_getElem hi)
  rw [Int.toNat_of_nonneg h0] at this
  rw [List.getD_eq_getElem?_getD, List.getElem?_eq_getElem hi]
  exact this
section Z35
variable {w : zWt} {R0 : zHt → Prop}
theorem a42 {d : Nat} {v i t : Int} {H : zHt} (hMR : zMR) : ∃ H', zkeep H H' ∧ H' 81 0 = H 81 0 ∧ H' 32 14 = (if (1 ≤ v ∧ v ≤ 999999999) ∧ -1 ≤ i ∧ 0 ≤ t ∧ t ≤ 1 then zfS (zfac v.toNat) i else 1) ∧ ∀ K : Int → zHt → Prop, zclI w (d + 3) 42 [zR 32, zI v, zI i, zI t] H K = K (if (1 ≤ v ∧ v ≤ 999999999) ∧ -1 ≤ i ∧ 0 ≤ t ∧ t ≤ 1 then zfA (zfac v.toNat) i t else -1) H' := by
  by_cases hg : (1 ≤ v ∧ v ≤ 999999999) ∧ -1 ≤ i ∧ 0 ≤ t ∧ t ≤ 1
  · obtain ⟨n, rfl⟩ : ∃ n : Nat, v = n := ⟨v.toNat, by omega⟩
    obtain ⟨H1, ⟨f1, hG, hL⟩, e⟩ := c45 (w := w) (H := H) (d := d) (n := n) hMR (by omega) (by omega)
    have h9 := zGood_nine hG (by omega)
    have hc := hL.1
    refine ⟨zup H1 32 14 (zfS (zfac n) i), zkeep_up rfl (zfc_keep f1), ?_, ?_, fun K => zclI_eq fun K h => x42_0 ?_⟩
    · rw [zq_ne (by decide)]; exact f1 81 0 (by decide) (by decide) (by decide)
    · rw [zq_eq, if_pos hg, Int.toNat_natCast]
    · rw [if_pos hg, Int.toNat_natCast] at h
      rw [c43, if_pos hg.1]
      refine ⟨fun q => absurd q (by decide), fun _ => ⟨fun q => by omega, fun _ => ?_⟩⟩
      rw [c44, if_pos hg.2.2]
      refine ⟨fun _ => ?_, fun q => absurd q (by decide)⟩
      rw [e]
      unfold zfA zfS at h
      refine ⟨fun q => ⟨fun q2 => ⟨fun q3 => ⟨by omega, ?_⟩, fun q3 => ⟨by omega, ?_⟩⟩, fun q2 => ?_⟩, fun q => ?_⟩
      · rw [if_neg q, if_neg (by omega), if_neg q3, if_neg q, if_neg (by omega)] at h
        rw [c39, (zLst_g hL (by omega) (by omega)).2]; exact h
      · rw [if_neg q, if_neg (by omega), if_pos q3, if_neg q, if_neg (by omega)] at h
        rw [c39, (zLst_g hL (by omega) (by omega)).1]; exact h
      · rw [if_neg q, if_pos (by omega), if_neg q, if_pos (by omega)] at h
        rw [c13]; exact h
      · rw [if_pos q, if_pos q] at h
        rw [c39, hc]; exact h
  · refine ⟨zup H 32 14 1, zkeep_up rfl zkeep_rfl, by rw [zq_ne (by decide)], by rw [zq_eq, if_neg hg], fun K => zclI_eq fun K h => x42_0 ?_⟩
    rw [if_neg hg] at h
    rw [c43]
    refine ⟨fun q => by rw [c13]; exact h, fun q => ⟨fun q2 => by rw [c13]; exact h, fun q2 => ?_⟩⟩
    rw [c44]
    refine ⟨fun q3 => ?_, fun q3 => by rw [c13]; exact h⟩
    exfalso
    apply hg
    refine ⟨?_, q2, ?_⟩
    · rcases Classical.em (1 ≤ v ∧ v ≤ 999999999) with z | z
      · exact z
      · rw [if_neg z] at q; exact absurd rfl q
    · rcases Classical.em (0 ≤ t ∧ t ≤ 1) with z | z
      · exact z
      · rw [if_neg z] at q3; exact absurd rfl q3
end Z35
/-! the law's case part -/
theorem zpw_eq {p : Nat} (hp : 1 ≤ p) : ∀ e : Nat, p ^ e ≤ 999999999 → zpw p e = ((p ^ e : Nat) : Int)
  | 0, _ => rfl
  | e + 1, h => by
    have h1 : p ^ e ≤ p ^ (e + 1) := Nat.pow_le_pow_right hp (by omega)
    show w64 (zpw p e * p) = _
    rw [zpw_eq hp e (by omega), ← Int.natCast_mul, show p ^ e * p = p ^ (e + 1) from rfl]
    exact w64_id (by omega)
section Z36
variable {w : zWt} {R0 : zHt → Prop}
end Z36
/-! the three bases: no product of two primes from 1009 on passes 2, 7 and 61 -/
theorem mr_dvd {a b n m : Nat} (hm : m ∣ n) (h : a % n = b % n) : a % m = b % m := by
  rw [← Nat.mod_mod_of_dvd a hm, h, Nat.mod_mod_of_dvd b hm]
theorem mr_neg {n x : Nat} (hn : 2 ≤ n) (h : x % n = n - 1) : x ^ 2 % n = 1 := by
  obtain ⟨m, rfl⟩ : ∃ m, n = m + 2 := ⟨n - 2, by omega⟩
  rw [Nat.pow_mod, h, show m + 2 - 1 = m + 1 by omega, show (m + 1) ^ 2 = (m + 2) * m + 1 by rw [Nat.pow_two]; simp only [Nat.add_mul, Nat.mul_add]; omega, Nat.mul_add_mod, Nat.mod_eq_of_lt (by omega)]
theorem zhalf_eq : ∀ (f o h : Nat), o < 2 ^ f → (zhalf f o h).1 * 2 ^ (zhalf f o h).2 = o * 2 ^ h ∧ h ≤ (zhalf f o h).2 ∧ (1 < o → o % 2 = 0 → h < (zhalf f o h).2)
  | 0, o, h, ho => by
    have : o = 0 := by omega
    subst this
    exact ⟨rfl, Nat.le_refl _, fun q => by omega⟩
  | f + 1, o, h, ho => by
    unfold zhalf
    by_cases hc : 1 < o ∧ o % 2 = 0
    · rw [if_pos hc]
      rw [Nat.pow_succ] at ho
      obtain ⟨a1, a2, a3⟩ := zhalf_eq f (o / 2) (h + 1) (by omega)
      refine ⟨?_, by omega, fun _ _ => by omega⟩
      rw [a1, Nat.pow_succ, Nat.mul_comm (2 ^ h) 2, ← Nat.mul_assoc, Nat.div_mul_cancel (Nat.dvd_of_mod_eq_zero hc.2)]
    · rw [if_neg hc]
      exact ⟨rfl, Nat.le_refl _, fun q1 q2 => absurd ⟨q1, q2⟩ hc⟩
theorem zsqs_one {n : Nat} (hn : 2 ≤ n) : ∀ (k pw : Nat), zsqs n k pw ≠ 0 → ∃ i, i ≤ k ∧ 1 ≤ i ∧ pw ^ (2 ^ i) % n = n - 1
  | 0, _, h => absurd rfl h
  | k + 1, pw, h => by
    unfold zsqs at h
    by_cases hc : pw * pw % n = n - 1
    · exact ⟨1, by omega, by omega, by rw [Nat.pow_one, Nat.pow_two]; exact hc⟩
    · rw [if_neg hc] at h
      obtain ⟨i, h1, h2, h3⟩ := zsqs_one hn k _ h
      refine ⟨i + 1, by omega, by omega, ?_⟩
      rw [← Nat.pow_mod, ← Nat.pow_two, ← Nat.pow_mul] at h3
      rw [Nat.pow_succ, Nat.mul_comm]; exact h3
theorem mr_one {n x k : Nat} (hn : 2 ≤ n) (h : x % n = 1) : x ^ k % n = 1 := by
  rw [Nat.pow_mod, h, Nat.one_pow, Nat.mod_eq_of_lt (by omega)]
/-- who passes is as by Fermat -/
theorem zpass_one {n b : Nat} (hn : 3 ≤ n) (ho : n % 2 = 1) (hb : n < 2 ^ 30) (h : zpass n b ≠ 0) : b ^ (n - 1) % n = 1 := by
  unfold zpass at h
  obtain ⟨a1, a2, a3⟩ := zhalf_eq 30 (n - 1) 0 (by omega)
  have a3 := a3 (by omega) (by omega)
  rw [Nat.pow_zero, Nat.mul_one] at a1
  generalize (zhalf 30 (n - 1) 0).1 = o at *
  generalize (zhalf 30 (n - 1) 0).2 = s at *
  rw [← a1, Nat.pow_mul]
  unfold zpass2 at h
  have up : ∀ i, i < s → (b ^ o) ^ (2 ^ i) % n = n - 1 → (b ^ o) ^ (2 ^ s) % n = 1 := fun i hi q => by
    have e : 2 ^ s = 2 ^ i * 2 * 2 ^ (s - i - 1) := by rw [← Nat.pow_succ, ← Nat.pow_add]; congr 1; omega
    rw [e, Nat.pow_mul, Nat.pow_mul]
    exact mr_one (by omega) (mr_neg (by omega) q)
  by_cases h1 : b ^ o % n = 1
  · exact mr_one (by omega) h1
  · rw [if_neg h1] at h
    by_cases h2 : b ^ o % n = n - 1
    · exact up 0 a3 (by rw [Nat.pow_zero, Nat.pow_one]; exact h2)
    · rw [if_neg h2] at h
      obtain ⟨i, q1, q2, q3⟩ := zsqs_one (by omega) _ _ h
      refine up i (by omega) ?_
      rw [← Nat.pow_mod] at q3; exact q3
theorem mr_gcd {b p : Nat} (hp : 2 ≤ p) : ∀ (m k : Nat), b ^ m % p = 1 → b ^ k % p = 1 → b ^ (Nat.gcd m k) % p = 1 := by
  intro m
  induction m using Nat.strongRecOn with
  | ind m ih =>
    intro k h1 h2
    rcases Nat.eq_zero_or_pos m with z | z
    · subst z; rw [Nat.gcd_zero_left]; exact h2
    · rw [Nat.gcd_rec]
      refine ih (k % m) (Nat.mod_lt _ z) m ?_ h1
      have e := Nat.div_add_mod k m
      have : b ^ k = (b ^ m) ^ (k / m) * b ^ (k % m) := by rw [← Nat.pow_mul, ← Nat.pow_add, e]
      rw [this, Nat.mul_mod, mr_one hp h1, Nat.one_mul, Nat.mod_mod] at h2
      exact h2
noncomputable def mr_all (f : Nat → Bool) (n : Nat) : Bool := Nat.rec true (fun k ih => and (f k) ih) n
theorem mr_at {f : Nat → Bool} : ∀ {n : Nat}, mr_all f n = true → ∀ k, k < n → f k = true
  | 0, _, k, hk => by omega
  | n + 1, h, k, hk => by
    have h2 : and (f n) (mr_all f n) = true := h
    rw [Bool.and_eq_true] at h2
    rcases Nat.eq_or_lt_of_le (Nat.le_of_lt_succ hk) with z | z
    · subst z; exact h2.1
    · exact mr_at h2.2 k z
noncomputable def mr_pm (n f : Nat) : Nat → Nat → Nat → Nat := Nat.rec (fun pw _ _ => pw) (fun _ ih pw sq e => bif Nat.beq e 0 then pw else ih (bif Nat.beq (e % 2) 1 then pw * sq % n else pw) (sq * sq % n) (e / 2)) f
theorem mr_pm_eq {n : Nat} : ∀ (f pw sq e : Nat), pw < n → e < 2 ^ f → mr_pm n f pw sq e = pw * sq ^ e % n
  | 0, pw, sq, e, h, he => by
    have : e = 0 := by omega
    subst this
    show pw = _
    rw [Nat.pow_zero, Nat.mul_one, Nat.mod_eq_of_lt h]
  | f + 1, pw, sq, e, h, he => by
    show (bif Nat.beq e 0 then pw else mr_pm n f (bif Nat.beq (e % 2) 1 then pw * sq % n else pw) (sq * sq % n) (e / 2)) = _
    rw [Nat.pow_succ] at he
    have hn : 0 < n := by omega
    have d := Nat.div_add_mod e 2
    have sq2 : ∀ k, (sq * sq % n) ^ k % n = sq ^ (2 * k) % n := fun k => by rw [← Nat.pow_mod, ← Nat.pow_two, ← Nat.pow_mul]
    cases hz : Nat.beq e 0 with
    | true =>
      have : e = 0 := Nat.eq_of_beq_eq_true hz
      subst this
      rw [Nat.pow_zero, Nat.mul_one, Nat.mod_eq_of_lt h]; rfl
    | false =>
      cases ho : Nat.beq (e % 2) 1 with
      | true =>
        have e1 : e % 2 = 1 := Nat.eq_of_beq_eq_true ho
        show mr_pm n f (pw * sq % n) (sq * sq % n) (e / 2) = _
        rw [mr_pm_eq f _ _ _ (Nat.mod_lt _ hn) (by omega), Nat.mul_mod, sq2, ← Nat.mul_mod, zmodB]
        rw [Nat.mul_assoc, show sq * sq ^ (2 * (e / 2)) = sq ^ e by rw [Nat.mul_comm, ← Nat.pow_succ]; congr 1; omega]
      | false =>
        have e1 : e % 2 ≠ 1 := Nat.ne_of_beq_eq_false ho
        show mr_pm n f pw (sq * sq % n) (e / 2) = _
        rw [mr_pm_eq f _ _ _ h (by omega), Nat.mul_mod, sq2, ← Nat.mul_mod, show 2 * (e / 2) = e by omega]
noncomputable def mr_ps (n b : Nat) : Int := zpass2 n (mr_pm n 30 1 b (zhalf 30 (n - 1) 0).1) (zhalf 30 (n - 1) 0).2
theorem mr_ps_eq {n b : Nat} (hn : 2 ≤ n) (h : n < 2 ^ 30) : mr_ps n b = zpass n b := by
  obtain ⟨a1, -, -⟩ := zhalf_eq 30 (n - 1) 0 (by omega)
  rw [Nat.pow_zero, Nat.mul_one] at a1
  have hlt : (zhalf 30 (n - 1) 0).1 < 2 ^ 30 := by
    have : (zhalf 30 (n - 1) 0).1 ≤ (zhalf 30 (n - 1) 0).1 * 2 ^ (zhalf 30 (n - 1) 0).2 := Nat.le_mul_of_pos_right _ (Nat.pow_pos (by decide))
    omega
  unfold mr_ps zpass
  rw [mr_pm_eq _ _ _ _ (by omega) hlt, Nat.one_mul]
/-- p times q is no such number: by 2, modulo q; else by the bases themselves -/
noncomputable def mr_out (p q : Nat) : Bool := or (Nat.blt q p) (or (not (Nat.beq (((((2 ^ p % q) ^ 1024 % q) ^ (q / 1024) % q) * ((2 ^ p % q) ^ (q % 1024) % q)) % q) (2 % q))) (or (decide (mr_ps (p * q) 2 = 0)) (or (decide (mr_ps (p * q) 7 = 0)) (decide (mr_ps (p * q) 61 = 0)))))
theorem mr_out_eq {p q : Nat} (hp : 1009 ≤ p) (hpq : p ≤ q) (hn : p * q ≤ 999999999) (ho : p * q % 2 = 1) (h2 : zpass (p * q) 2 ≠ 0) (h7 : zpass (p * q) 7 ≠ 0) (h61 : zpass (p * q) 61 ≠ 0) : mr_out p q = false := by
  have hb : p * q < 2 ^ 30 := by
    have : (2 : Nat) ^ 30 = 1073741824 := by decide
    omega
  have h3 : 3 ≤ p * q := by
    have := Nat.mul_le_mul hp (show 1 ≤ q by omega)
    omega
  have f2 := zpass_one h3 ho hb h2
  have e1 : (2 ^ p) ^ q % q = 2 % q := by
    rw [← Nat.pow_mul]
    have : 2 ^ (p * q) % (p * q) = 2 % (p * q) := by
      have e : 2 ^ (p * q) = 2 ^ (p * q - 1) * 2 := by rw [← Nat.pow_succ]; congr 1; omega
      rw [e, Nat.mul_mod, f2, Nat.one_mul, Nat.mod_mod]
    exact mr_dvd (Nat.dvd_mul_left q p) this
  have e2 : (((((2 ^ p % q) ^ 1024 % q) ^ (q / 1024) % q) * ((2 ^ p % q) ^ (q % 1024) % q)) % q) = 2 % q := by
    rw [← Nat.pow_mod, ← Nat.mul_mod, ← Nat.pow_mul, ← Nat.pow_add, Nat.div_add_mod, ← Nat.pow_mod]
    exact e1
  unfold mr_out
  rw [mr_ps_eq (by omega) hb, mr_ps_eq (by omega) hb, mr_ps_eq (by omega) hb, e2]
  have b1 : Nat.blt q p = false := by
    cases hc : Nat.blt q p with
    | false => rfl
    | true => have := Nat.le_of_ble_eq_true hc; omega
  rw [b1, decide_eq_false h2, decide_eq_false h7, decide_eq_false h61, Nat.beq_refl]
  rfl
/-- d may be what q less 1 has in common with p less 1 -/
noncomputable def mr_d (p d : Nat) : Bool := or (not (and (Nat.beq (2 ^ d % p) 1) (and (Nat.beq (7 ^ d % p) 1) (Nat.beq (61 ^ d % p) 1)))) (mr_all (fun k => mr_out p ((k + 1) * d + 1)) ((999999999 / p - 1) / d))
noncomputable def mr_e (p e : Nat) : Bool := or (not (Nat.beq ((p - 1) % e) 0)) (and (mr_d p e) (mr_d p ((p - 1) / e)))
def mr_l : List Nat := [3, 5, 7, 11, 13, 17, 19, 23, 29, 31, 37, 41, 43, 47, 53, 59, 61, 67, 71, 73, 79, 83, 89, 97, 101, 103, 107, 109, 113, 127, 131, 137, 139, 149, 151, 157, 163, 167, 173]
noncomputable def mr_p (p : Nat) : Bool := or (not (Nat.beq (Nat.gcd p 83294951893662609690425847675448128125490254797437431023480841994855) 1)) (and (Nat.beq (2 ^ (p - 1) % p) 1) (and (Nat.beq (7 ^ (p - 1) % p) 1) (and (Nat.beq (61 ^ (p - 1) % p) 1) (mr_all (fun e => mr_e p (e + 1)) 177))))
theorem mr_cop {p : Nat} : ∀ (l : List Nat), (∀ s ∈ l, Nat.Coprime s p) → Nat.Coprime (zmul l) p
  | [], _ => Nat.coprime_one_left p
  | s :: l, h => Nat.Coprime.mul_left (h s List.mem_cons_self) (mr_cop l fun t ht => h t (List.mem_cons_of_mem _ ht))
theorem mr_gcd1 {p : Nat} (hf : zfree 1009 p) : Nat.gcd p (zmul mr_l) = 1 := by
  rw [Nat.gcd_comm]
  refine mr_cop mr_l fun s hs => ?_
  have hb : 1 ≤ s ∧ s ≤ 173 := by
    have : mr_l.all (fun s => decide (1 ≤ s ∧ s ≤ 173)) = true := by decide +kernel
    exact of_decide_eq_true (List.all_eq_true.mp this s hs)
  have h1 := Nat.le_of_dvd (by omega) (Nat.gcd_dvd_left s p)
  have h0 : 0 < Nat.gcd s p := Nat.gcd_pos_of_pos_left _ (by omega)
  rcases Nat.lt_or_ge (Nat.gcd s p) 2 with z | z
  · show Nat.gcd s p = 1
    omega
  · exact absurd (Nat.gcd_dvd_right s p) (hf _ z (by omega))
theorem mr_sound {p q : Nat} (hp : 1009 ≤ p) (hp2 : p ≤ 31622) (hpq : p ≤ q) (hn : p * q ≤ 999999999) (ho : p * q % 2 = 1) (hf : zfree 1009 p) (h2 : zpass (p * q) 2 ≠ 0) (h7 : zpass (p * q) 7 ≠ 0) (h61 : zpass (p * q) 61 ≠ 0) (hc : mr_p p = true) : False := by
  have hb : p * q < 2 ^ 30 := by
    have : (2 : Nat) ^ 30 = 1073741824 := by decide
    omega
  have h3 : 3 ≤ p * q := by
    have := Nat.mul_le_mul hp (show 1 ≤ q by omega)
    omega
  have hout := mr_out_eq hp hpq hn ho h2 h7 h61
  have g := mr_gcd1 hf
  rw [show zmul mr_l = 83294951893662609690425847675448128125490254797437431023480841994855 by decide +kernel] at g
  unfold mr_p at hc
  rw [g] at hc
  simp only [Nat.beq_refl, Bool.not_true, Bool.false_or, Bool.and_eq_true] at hc
  obtain ⟨c2, c7, c61, hc⟩ := hc
  have c2 := Nat.eq_of_beq_eq_true c2
  have c7 := Nat.eq_of_beq_eq_true c7
  have c61 := Nat.eq_of_beq_eq_true c61
  have down : ∀ b, zpass (p * q) b ≠ 0 → b ^ (p - 1) % p = 1 → b ^ (Nat.gcd (q - 1) (p - 1)) % p = 1 := fun b hz hb1 => by
    have f := zpass_one h3 ho hb hz
    have f : b ^ (p * q - 1) % p = 1 := by
      have := mr_dvd (Nat.dvd_mul_right p q) (show b ^ (p * q - 1) % (p * q) = 1 % (p * q) by rw [f, Nat.mod_eq_of_lt (by omega)])
      rw [this, Nat.mod_eq_of_lt (by omega)]
    refine mr_gcd (by omega) _ _ ?_ hb1
    have e : p * q - 1 = (p - 1) * q + (q - 1) := by
      obtain ⟨m, rfl⟩ : ∃ m, p = m + 1 := ⟨p - 1, by omega⟩
      rw [Nat.add_mul, Nat.one_mul, Nat.add_sub_cancel]
      omega
    rw [e, Nat.pow_add, Nat.pow_mul, Nat.mul_mod, mr_one (by omega) hb1, Nat.one_mul, Nat.mod_mod] at f
    exact f
  have d2 := down 2 h2 c2
  have d7 := down 7 h7 c7
  have d61 := down 61 h61 c61
  have hd1 := Nat.gcd_dvd_left (q - 1) (p - 1)
  have hd2 := Nat.gcd_dvd_right (q - 1) (p - 1)
  have hd0 : 0 < Nat.gcd (q - 1) (p - 1) := Nat.gcd_pos_of_pos_right _ (by omega)
  generalize Nat.gcd (q - 1) (p - 1) = d at *
  obtain ⟨e, he⟩ := hd2
  obtain ⟨k, hk⟩ := hd1
  have he0 : 0 < e := by
    rcases Nat.eq_zero_or_pos e with z | z
    · subst z; omega
    · exact z
  have fin : mr_d p d = true → False := fun hd => by
    unfold mr_d at hd
    rw [d2, d7, d61] at hd
    simp only [Nat.beq_refl, Bool.and_self, Bool.not_true, Bool.false_or] at hd
    have hk1 : 1 ≤ k := by
      rcases Nat.eq_zero_or_pos k with z | z
      · subst z; omega
      · exact z
    have hq : q ≤ 999999999 / p := (Nat.le_div_iff_mul_le (by omega)).mpr (by rw [Nat.mul_comm]; exact hn)
    have hkd : k ≤ (999999999 / p - 1) / d := (Nat.le_div_iff_mul_le hd0).mpr (by rw [Nat.mul_comm]; omega)
    have := mr_at hd (k - 1) (by omega)
    rw [show k - 1 + 1 = k by omega, Nat.mul_comm k d, show d * k + 1 = q by omega, hout] at this
    cases this
  have hsm : d ≤ 177 ∨ e ≤ 177 := by
    rcases Nat.lt_or_ge 177 d with z | z
    · rcases Nat.lt_or_ge 177 e with y | y
      · have := Nat.mul_le_mul (show 178 ≤ d from z) (show 178 ≤ e from y)
        omega
      · exact Or.inr y
    · exact Or.inl z
  rcases hsm with z | z
  · have := mr_at hc (d - 1) (by omega)
    rw [show d - 1 + 1 = d by omega] at this
    unfold mr_e at this
    rw [he, Nat.mul_mod_right] at this
    simp only [Nat.beq_refl, Bool.not_true, Bool.false_or, Bool.and_eq_true] at this
    exact fin this.1
  · have := mr_at hc (e - 1) (by omega)
    rw [show e - 1 + 1 = e by omega] at this
    unfold mr_e at this
    rw [he, Nat.mul_mod_left] at this
    simp only [Nat.beq_refl, Bool.not_true, Bool.false_or, Bool.and_eq_true] at this
    have := this.2
    rw [Nat.mul_div_cancel _ he0] at this
    exact fin this

/-! the three bases: the kernel's walk over all p -/
set_option maxRecDepth 100000 in
theorem mr_c0 : mr_all (fun k => mr_p (2 * (k + 0) + 1009)) 150 = true := by decide +kernel
set_option maxRecDepth 100000 in
theorem mr_c1 : mr_all (fun k => mr_p (2 * (k + 150) + 1009)) 250 = true := by decide +kernel
set_option maxRecDepth 100000 in
theorem mr_c2 : mr_all (fun k => mr_p (2 * (k + 400) + 1009)) 400 = true := by decide +kernel
set_option maxRecDepth 100000 in
theorem mr_c3 : mr_all (fun k => mr_p (2 * (k + 800) + 1009)) 700 = true := by decide +kernel
set_option maxRecDepth 100000 in
theorem mr_c4 : mr_all (fun k => mr_p (2 * (k + 1500) + 1009)) 1000 = true := by decide +kernel
set_option maxRecDepth 100000 in
theorem mr_c5 : mr_all (fun k => mr_p (2 * (k + 2500) + 1009)) 1500 = true := by decide +kernel
set_option maxRecDepth 100000 in
theorem mr_c6 : mr_all (fun k => mr_p (2 * (k + 4000) + 1009)) 2000 = true := by decide +kernel
set_option maxRecDepth 100000 in
theorem mr_c7 : mr_all (fun k => mr_p (2 * (k + 6000) + 1009)) 2000 = true := by decide +kernel
set_option maxRecDepth 100000 in
theorem mr_c8 : mr_all (fun k => mr_p (2 * (k + 8000) + 1009)) 2000 = true := by decide +kernel
set_option maxRecDepth 100000 in
theorem mr_c9 : mr_all (fun k => mr_p (2 * (k + 10000) + 1009)) 2000 = true := by decide +kernel
set_option maxRecDepth 100000 in
theorem mr_c10 : mr_all (fun k => mr_p (2 * (k + 12000) + 1009)) 2000 = true := by decide +kernel
set_option maxRecDepth 100000 in
theorem mr_c11 : mr_all (fun k => mr_p (2 * (k + 14000) + 1009)) 1307 = true := by decide +kernel
theorem mr_pall {p : Nat} (h1 : 1009 ≤ p) (h2 : p ≤ 31622) (ho : p % 2 = 1) : mr_p p = true := by
  obtain ⟨k, rfl⟩ : ∃ k, p = 2 * k + 1009 := ⟨(p - 1009) / 2, by omega⟩
  have hk : k < 15307 := by omega
  rcases Nat.lt_or_ge k 150 with z0 | z0
  · exact mr_at mr_c0 k (by omega)
  rcases Nat.lt_or_ge k 400 with z1 | z1
  · have := mr_at mr_c1 (k - 150) (by omega)
    rw [show k - 150 + 150 = k by omega] at this
    exact this
  rcases Nat.lt_or_ge k 800 with z2 | z2
  · have := mr_at mr_c2 (k - 400) (by omega)
    rw [show k - 400 + 400 = k by omega] at this
    exact this
  rcases Nat.lt_or_ge k 1500 with z3 | z3
  · have := mr_at mr_c3 (k - 800) (by omega)
    rw [show k - 800 + 800 = k by omega] at this
    exact this
  rcases Nat.lt_or_ge k 2500 with z4 | z4
  · have := mr_at mr_c4 (k - 1500) (by omega)
    rw [show k - 1500 + 1500 = k by omega] at this
    exact this
  rcases Nat.lt_or_ge k 4000 with z5 | z5
  · have := mr_at mr_c5 (k - 2500) (by omega)
    rw [show k - 2500 + 2500 = k by omega] at this
    exact this
  rcases Nat.lt_or_ge k 6000 with z6 | z6
  · have := mr_at mr_c6 (k - 4000) (by omega)
    rw [show k - 4000 + 4000 = k by omega] at this
    exact this
  rcases Nat.lt_or_ge k 8000 with z7 | z7
  · have := mr_at mr_c7 (k - 6000) (by omega)
    rw [show k - 6000 + 6000 = k by omega] at this
    exact this
  rcases Nat.lt_or_ge k 10000 with z8 | z8
  · have := mr_at mr_c8 (k - 8000) (by omega)
    rw [show k - 8000 + 8000 = k by omega] at this
    exact this
  rcases Nat.lt_or_ge k 12000 with z9 | z9
  · have := mr_at mr_c9 (k - 10000) (by omega)
    rw [show k - 10000 + 10000 = k by omega] at this
    exact this
  rcases Nat.lt_or_ge k 14000 with z10 | z10
  · have := mr_at mr_c10 (k - 12000) (by omega)
    rw [show k - 12000 + 12000 = k by omega] at this
    exact this
  have := mr_at mr_c11 (k - 14000) (by omega)
  rw [show k - 14000 + 14000 = k by omega] at this
  exact this
theorem z_MR : zMR := fun n h1 h2 hf p2 p7 p61 => by
  rcases Classical.em (zprime n) with z | z
  · exact z
  exfalso
  -- its least divisor
  have ex : ∀ c, c ≤ 40000 → zfree (1009 + c) n ∨ ∃ p, 1009 ≤ p ∧ p < 1009 + c ∧ p ∣ n ∧ zfree p n := fun c => by
    induction c with
    | zero => exact fun _ => Or.inl hf
    | succ c ih =>
      intro hc
      rcases ih (by omega) with y | ⟨p, q1, q2, q3, q4⟩
      · by_cases hd : (1009 + c) ∣ n
        · exact Or.inr ⟨1009 + c, by omega, by omega, hd, y⟩
        · exact Or.inl (zfree_succ y hd)
      · exact Or.inr ⟨p, q1, by omega, q3, q4⟩
  rcases ex 31000 (by omega) with y | ⟨p, q1, q2, q3, q4⟩
  · exact z (zfree_rest (by omega) y (by omega))
  · obtain ⟨q, rfl⟩ := q3
    have hq0 : 0 < q := by
      rcases Nat.eq_zero_or_pos q with y | y
      · subst y; omega
      · exact y
    have hpq : p ≤ q := by
      rcases Nat.lt_or_ge q p with y | y
      · rcases Nat.lt_or_ge q 2 with x | x
        · have : q = 1 := by omega
          subst this
          rw [Nat.mul_one] at *
          exact absurd (zfree_prime (by omega) q4 (Nat.dvd_refl p)) z
        · exact absurd (Nat.dvd_mul_left q p) (q4 q x y)
      · exact y
    have hp2 : p ≤ 31622 := by
      rcases Nat.lt_or_ge 31622 p with y | y
      · have := Nat.mul_le_mul (show 31623 ≤ p from y) (show 31623 ≤ q by omega)
        omega
      · exact y
    have ho : p * q % 2 = 1 := by
      rcases (by omega : p * q % 2 = 0 ∨ p * q % 2 = 1) with y | y
      · exact absurd (Nat.dvd_of_mod_eq_zero y) (hf 2 (by omega) (by omega))
      · exact y
    have ho2 : p % 2 = 1 := by
      rcases (by omega : p % 2 = 0 ∨ p % 2 = 1) with y | y
      · exact absurd (Nat.dvd_trans (Nat.dvd_of_mod_eq_zero y) (Nat.dvd_mul_right p q)) (hf 2 (by omega) (by omega))
      · exact y
    exact mr_sound q1 hp2 hpq h2 ho (zfree_dvd hf (Nat.dvd_mul_right p q)) p2 p7 p61 (mr_pall q1 hp2 ho2)

/-! tools for the law's cases: what a call leaves, its answer and its status -/
theorem zclI_mono {w : zWt} {d t : Nat} {as : List zV} {H : zHt} {K K' : Int → zHt → Prop} (h : zclI w d t as H K) (hk : ∀ x H', K x H' → K' x H') : zclI w d t as H K' :=
  g_mono h (fun r H' q => by obtain ⟨x, e, q⟩ := q; exact ⟨x, e, hk _ _ q⟩)
theorem zclL_mono {w : zWt} {d t : Nat} {as : List zV} {H : zHt} {K K' : Int → zHt → Prop} (h : zclL w d t as H K) (hk : ∀ x H', K x H' → K' x H') : zclL w d t as H K' :=
  g_mono h (fun r H' q => by obtain ⟨x, e, q⟩ := q; exact ⟨x, e, hk _ _ q⟩)
theorem zclV_mono {w : zWt} {d t : Nat} {as : List zV} {H : zHt} {K K' : zHt → Prop} (h : zclV w d t as H K) (hk : ∀ H', K H' → K' H') : zclV w d t as H K' :=
  g_mono h (fun r H' q => by obtain ⟨e, q⟩ := q; exact ⟨e, hk _ q⟩)
/-- the places that later calls show, but the rows as told -/
def zrel2 (a j : Int) : Bool := zrel a j && !(decide (69 ≤ a) && decide (a ≤ 80))
def zkeep2 (H H' : zHt) : Prop := ∀ a j : Int, zrel2 a j = true → H' a j = H a j
def zArr (H : zHt) (A : Int) (l : List Int) : Prop := ∀ k : Nat, k < l.length → H A k = l.getD k 0
/-- the first place of a value from k on, or -1 -/
def zplc (v : Int) : List Int → Int → Int
  | [], _ => -1
  | a :: l, k => if a = v then k else zplc v l (k + 1)
/-- a row: its values, how it ends, where it goes back to -/
noncomputable def zgoes (law bound : Int) : Nat → List Int → List Int × Int × Int
  | 0, vs => (vs, 3, -1)
  | s + 1, vs =>
    if zplc (zsum law (vs.getD (vs.length - 1) 0).toNat) vs 0 ≠ -1 then (vs, 1, zplc (zsum law (vs.getD (vs.length - 1) 0).toNat) vs 0)
    else if bound < zsum law (vs.getD (vs.length - 1) 0).toNat then (vs, 2, -1)
    else if zsum law (vs.getD (vs.length - 1) 0).toNat = 0 then (vs ++ [0], 0, -1)
    else zgoes law bound s (vs ++ [zsum law (vs.getD (vs.length - 1) 0).toNat])
noncomputable def zrow (law bound steps n : Int) : List Int × Int × Int := zgoes law bound steps.toNat [n]
def zWalkIs (H : zHt) (o : Int) (r : List Int × Int × Int) : Prop := H o 1 = r.1.length ∧ H o 2 = r.2.1 ∧ H o 3 = r.2.2 ∧ zArr H (o + 1) r.1
def zWlk (H : zHt) : Prop := ∀ r : Nat, r ≤ 5 → (r : Int) < H 40 1 → H (69 + 2 * r) 4 ≠ 0 → zWalkIs H (69 + 2 * r) (zrow (H 40 4) (H 40 2) (H 40 3) (H 41 r))
theorem zkeep_2 {H H' : zHt} (h : zkeep H H') : zkeep2 H H' := fun a j q => h a j (by unfold zrel2 at q; rw [Bool.and_eq_true] at q; exact q.1)
theorem zArr_eq {H H' : zHt} {A : Int} {l : List Int} (h : ∀ k : Nat, k < l.length → H' A k = H A k) (hA : zArr H A l) : zArr H' A l := fun k hk => by rw [h k hk]; exact hA k hk
theorem zrel_o {a j : Int} (h : 40 ≤ a ∧ a ≤ 41 ∨ 53 ≤ a ∧ a ≤ 80) : zrel a j = true := by
  unfold zrel
  rcases h with h | h
  · rw [decide_eq_true h.1, decide_eq_true h.2]; simp
  · rw [decide_eq_true h.1, decide_eq_true h.2]; simp
theorem zWlk_k {H H' : zHt} (h : zkeep H H') (hw : zWlk H) : zWlk H' := fun r h6 h1 h2 => by
  have e : ∀ j, H' 40 j = H 40 j := fun j => h 40 j (zrel_o (by omega))
  rw [e] at h1
  rw [h _ _ (zrel_o (by omega))] at h2
  obtain ⟨a1, a2, a3, a4⟩ := hw r h6 h1 h2
  rw [e, e, e, h 41 r (zrel_o (by omega))]
  refine ⟨?_, ?_, ?_, ?_⟩
  · rw [h _ _ (zrel_o (by omega))]; exact a1
  · rw [h _ _ (zrel_o (by omega))]; exact a2
  · rw [h _ _ (zrel_o (by omega))]; exact a3
  · exact zArr_eq (fun k _ => h _ _ (zrel_o (by omega))) a4
def zRk (H H' : zHt) : Prop := zkeep2 H H' ∧ (zWlk H → zWlk H')
theorem zRk_of {H H' : zHt} (h : zkeep H H') : zRk H H' := ⟨zkeep_2 h, zWlk_k h⟩
theorem zRk_tr {H H1 H2 : zHt} (h1 : zRk H H1) (h2 : zRk H1 H2) : zRk H H2 := ⟨fun a j q => (h2.1 a j q).trans (h1.1 a j q), fun q => h2.2 (h1.2 q)⟩
def zcf (H0 H : zHt) : Prop := zRk H0 H ∧ H 81 0 = H0 81 0
theorem zcf_rfl {H : zHt} : zcf H H := ⟨zRk_of zkeep_rfl, rfl⟩
theorem zcf_tr {H H1 H2 : zHt} (h1 : zcf H H1) (h2 : zcf H1 H2) : zcf H H2 := ⟨zRk_tr h1.1 h2.1, h2.2.trans h1.2⟩
theorem zcf_fc {H0 H H1 : zHt} (h : zcf H0 H) (f : zfc H H1) : zcf H0 H1 := zcf_tr h ⟨zRk_of (zfc_keep f), f 81 0 (by decide) (by decide) (by decide)⟩
theorem zcf_up {H0 H : zHt} {o i x : Int} (h : zcf H0 H) (hr : zrel o i = false) (h2 : ¬ (81 = o ∧ 0 = i)) : zcf H0 (zup H o i x) := zcf_tr h ⟨zRk_of (zkeep_up hr zkeep_rfl), zq_ne h2⟩
theorem zcf_at {H0 H : zHt} (h : zcf H0 H) {a j : Int} (q : zrel2 a j = true) : H a j = H0 a j := h.1.1 a j q
/-- how a call of the class ends: its answer A.2, its status A.1 -/
def zPC (H0 : zHt) (A : Int × Int) (x : Int) (H : zHt) : Prop := x = A.2 ∧ zcf H0 H ∧ H 32 14 = A.1
theorem zPC_up {H0 H : zHt} {A : Int × Int} {s x : Int} (h : zcf H0 H) (e : A = (s, x)) : zPC H0 A x (zup H 32 14 s) := by
  subst e; exact ⟨rfl, zcf_up h rfl (by decide), zq_eq⟩
theorem zPC_r {H0 : zHt} {A : Int × Int} {s : Int} {w : zWt} {d : Nat} {H : zHt} (h : zcf H0 H) (e : A = (s, -1)) : zclI w d 13 [zR 32, zI s] H (fun x H1 => zPC H0 A x H1) := by
  rw [c13]; exact zPC_up h e
theorem zPC_d {H0 : zHt} {A : Int × Int} {x : Int} {w : zWt} {d : Nat} {H : zHt} (h : zcf H0 H) (e : A = (0, x)) : zclI w d 39 [zR 32, zI x] H (fun x H1 => zPC H0 A x H1) := by
  rw [c39]; exact zPC_up h e
theorem zPC_dL {H0 : zHt} {A : Int × Int} {x : Int} {w : zWt} {d : Nat} {H : zHt} (h : zcf H0 H) (e : A = (0, x)) : zclL w d 60 [zR 32, zL x] H (fun x H1 => zPC H0 A x H1) := by
  rw [c60]; exact zPC_up h e
/-- how the model's call begins: its status -/
def zst (H : zHt) (s : Int) : zHt := zup (zup H 81 1 0) 81 0 s
theorem zit0 {P : Prop} {i : Decidable P} : ((if P then (1 : Int) else 0) = 0) = ¬ P := by
  by_cases h : P
  · rw [if_pos h]; simp [h]
  · rw [if_neg h]; simp [h]
theorem zi1 {m : Nat} (h : m ≤ 2000000000) : w32 ((m : Int) + 1) = ((m + 1 : Nat) : Int) := w32_id (by omega)
section Z39
variable {w : zWt} {d : Nat} {H : zHt} {K : Int → zHt → Prop}
end Z39
/-! how great sums of divisors are -/
def zsg (p : Nat) : Nat → Nat
  | 0 => 1
  | e + 1 => zsg p e * p + 1
theorem zsg_b {p : Nat} (hp : 2 ≤ p) : ∀ e, p ^ e ≤ zsg p e ∧ zsg p e + 1 ≤ 2 * p ^ e ∧ (1 ≤ e → p ^ e + 1 ≤ zsg p e)
  | 0 => ⟨Nat.le_refl _, Nat.le_refl _, fun h => by omega⟩
  | e + 1 => by
    obtain ⟨h1, h2, -⟩ := zsg_b hp e
    have a1 : p ^ e * p ≤ zsg p e * p := Nat.mul_le_mul_right p h1
    have a2 : (zsg p e + 1) * p ≤ 2 * p ^ e * p := Nat.mul_le_mul_right p h2
    rw [Nat.add_mul, Nat.one_mul, Nat.mul_assoc] at a2
    rw [Nat.pow_succ]
    show p ^ e * p ≤ zsg p e * p + 1 ∧ zsg p e * p + 1 + 1 ≤ 2 * (p ^ e * p) ∧ _
    refine ⟨by omega, by omega, fun _ => ?_⟩
    show p ^ e * p + 1 ≤ zsg p e * p + 1
    omega
theorem zofp_eq {p : Nat} (hp : 2 ≤ p) : ∀ e : Nat, p ^ e ≤ 999999999 → zofp p e = (zsg p e : Nat)
  | 0, _ => rfl
  | e + 1, h => by
    have h1 : p ^ e ≤ p ^ (e + 1) := Nat.pow_le_pow_right (by omega) (by omega)
    have hb := (zsg_b hp (e + 1)).2.1
    show w64 (w64 (zofp p e * p) + 1) = ((zsg p e * p + 1 : Nat) : Int)
    have hb2 : zsg p e * p + 1 + 1 ≤ 2 * p ^ (e + 1) := hb
    rw [zofp_eq hp e (by omega), ← Int.natCast_mul, w64_id (show _ ≤ ((zsg p e * p : Nat) : Int) ∧ _ by omega)]
    rw [w64_id (by omega)]
    omega
def zPi (f : Nat × Nat → Nat) (l : List (Nat × Nat)) : Nat := l.foldr (fun q s => f q * s) 1
theorem zPi_b {f : Nat × Nat → Nat} : ∀ {l : List (Nat × Nat)}, (∀ q ∈ l, 1 ≤ f q ∧ f q ≤ 2 * q.1 ^ q.2) → 1 ≤ zPi f l ∧ zPi f l ≤ 2 ^ l.length * zprod l
  | [], _ => ⟨Nat.le_refl _, Nat.le_refl _⟩
  | q :: l, h => by
    obtain ⟨h1, h2⟩ := zPi_b (fun r hr => h r (List.mem_cons_of_mem _ hr))
    obtain ⟨g1, g2⟩ := h q List.mem_cons_self
    have e1 : zPi f (q :: l) = f q * zPi f l := rfl
    have e2 : zprod (q :: l) = q.1 ^ q.2 * zprod l := rfl
    rw [e1, e2, List.length_cons, Nat.pow_succ]
    refine ⟨Nat.mul_pos g1 h1, ?_⟩
    have := Nat.mul_le_mul g2 h2
    rw [show 2 ^ l.length * 2 * (q.1 ^ q.2 * zprod l) = 2 * q.1 ^ q.2 * (2 ^ l.length * zprod l) by
      rw [Nat.mul_comm (2 ^ l.length) 2, Nat.mul_assoc, Nat.mul_assoc, Nat.mul_left_comm (2 ^ l.length)]]
    exact this
theorem zPi_ge {f : Nat × Nat → Nat} : ∀ {l : List (Nat × Nat)}, (∀ q ∈ l, q.1 ^ q.2 + 1 ≤ f q) → zprod l ≤ zPi f l ∧ (l ≠ [] → zprod l + 1 ≤ zPi f l)
  | [], _ => ⟨Nat.le_refl _, fun h => absurd rfl h⟩
  | q :: l, h => by
    obtain ⟨h1, -⟩ := zPi_ge (fun r hr => h r (List.mem_cons_of_mem _ hr))
    have g := h q List.mem_cons_self
    have e1 : zPi f (q :: l) = f q * zPi f l := rfl
    have e2 : zprod (q :: l) = q.1 ^ q.2 * zprod l := rfl
    rw [e1, e2]
    rcases Nat.eq_zero_or_pos (zPi f l) with z | z
    · rw [z] at h1 ⊢
      have : zprod l = 0 := by omega
      rw [this]
      refine ⟨by simp, fun _ => ?_⟩
      exfalso
      have p : ∀ {m : List (Nat × Nat)}, (∀ q ∈ m, q.1 ^ q.2 + 1 ≤ f q) → 0 < zPi f m := fun {m} hm => by
        induction m with
        | nil => exact Nat.one_pos
        | cons r m ih => exact Nat.mul_pos (by have := hm r List.mem_cons_self; omega) (ih fun s hs => hm s (List.mem_cons_of_mem _ hs))
      have := p (fun r hr => h r (List.mem_cons_of_mem _ hr))
      omega
    · have a1 : (q.1 ^ q.2 + 1) * zPi f l ≤ f q * zPi f l := Nat.mul_le_mul_right _ g
      have a2 : q.1 ^ q.2 * zprod l ≤ q.1 ^ q.2 * zPi f l := Nat.mul_le_mul_left _ h1
      rw [Nat.add_mul, Nat.one_mul] at a1
      exact ⟨by omega, fun _ => by omega⟩
theorem zPi_fold {f : Nat × Nat → Nat} {g : Nat × Nat → Int} : ∀ {l : List (Nat × Nat)} {s : Nat}, (∀ q ∈ l, g q = f q ∧ 1 ≤ f q ∧ f q ≤ 2 * q.1 ^ q.2) → s * (2 ^ l.length * zprod l) ≤ 4611686018427387904 → 1 ≤ s → l.foldl (fun s q => w64 (s * g q)) (s : Int) = ((s * zPi f l : Nat) : Int)
  | [], s, _, _, _ => by
    show (s : Int) = ((s * 1 : Nat) : Int)
    rw [Nat.mul_one]
  | q :: l, s, h, hb, hs => by
    obtain ⟨g0, g1, g2⟩ := h q List.mem_cons_self
    have hl : ∀ r ∈ l, g r = f r ∧ 1 ≤ f r ∧ f r ≤ 2 * r.1 ^ r.2 := fun r hr => h r (List.mem_cons_of_mem _ hr)
    have hp := zPi_b (fun r hr => (hl r hr).2)
    have hb2 : s * f q * (2 ^ l.length * zprod l) ≤ 4611686018427387904 := by
      refine Nat.le_trans ?_ hb
      rw [List.length_cons, Nat.pow_succ, show zprod (q :: l) = q.1 ^ q.2 * zprod l from rfl, Nat.mul_assoc]
      refine Nat.mul_le_mul_left s ?_
      rw [show 2 ^ l.length * 2 * (q.1 ^ q.2 * zprod l) = 2 * q.1 ^ q.2 * (2 ^ l.length * zprod l) by
        rw [Nat.mul_comm (2 ^ l.length) 2, Nat.mul_assoc, Nat.mul_assoc, Nat.mul_left_comm (2 ^ l.length)]]
      exact Nat.mul_le_mul_right _ g2
    have hb3 : s * f q ≤ 4611686018427387904 := by
      refine Nat.le_trans (Nat.le_mul_of_pos_right _ ?_) hb2
      omega
    rw [List.foldl_cons, g0, ← Int.natCast_mul, w64_id (by omega), zPi_fold hl hb2 (Nat.mul_pos hs g1)]
    rw [show zPi f (q :: l) = f q * zPi f l from rfl, Nat.mul_assoc]
theorem zGood_b9 {n : Nat} {l : List (Nat × Nat)} (hn : n ≤ 999999999) (hG : zGood n l) : 2 ^ l.length * zprod l ≤ 512 * n := by
  have h9 := zGood_nine hG (by omega)
  rw [hG.2.2]
  exact Nat.mul_le_mul_right n (Nat.pow_le_pow_right (by decide) h9 : 2 ^ l.length ≤ 2 ^ 9)
theorem zGood_ne {n : Nat} {l : List (Nat × Nat)} (hn : 2 ≤ n) (hG : zGood n l) : l ≠ [] := fun z => by
  subst z
  have : 1 = n := hG.2.2
  omega
theorem zGood_pw {n : Nat} {l : List (Nat × Nat)} {q : Nat × Nat} (hn : n ≤ 999999999) (hG : zGood n l) (hq : q ∈ l) : 2 ≤ q.1 ∧ 1 ≤ q.2 ∧ q.1 ^ q.2 ≤ 999999999 ∧ q.1 ≤ q.1 ^ q.2 := by
  have h1 := zprod_mem hG.2.1 hq
  rw [hG.2.2] at h1
  have hb := zGood_bd hG hq
  refine ⟨hb.1, hb.2.1, by omega, ?_⟩
  obtain ⟨k, hk⟩ : ∃ k, q.2 = k + 1 := ⟨q.2 - 1, by omega⟩
  rw [hk, Nat.pow_succ]
  exact Nat.le_mul_of_pos_left _ (Nat.pow_pos (by omega))
/-- all divisors added -/
def zSg (l : List (Nat × Nat)) : Nat := zPi (fun q => zsg q.1 q.2) l
theorem zSg_b {n : Nat} {l : List (Nat × Nat)} (hn : n ≤ 999999999) (hG : zGood n l) : zall l = (zSg l : Nat) ∧ n ≤ zSg l ∧ zSg l ≤ 512 * n ∧ (2 ≤ n → n + 1 ≤ zSg l) := by
  have hf : ∀ q ∈ l, q.1 ^ q.2 + 1 ≤ zsg q.1 q.2 ∧ zsg q.1 q.2 ≤ 2 * q.1 ^ q.2 := fun q hq => by
    have hb := zGood_pw hn hG hq
    have := zsg_b hb.1 q.2
    exact ⟨this.2.2 hb.2.1, by omega⟩
  have h1 := zPi_b (f := fun q => zsg q.1 q.2) (l := l) (fun q hq => ⟨by have := hf q hq; show 1 ≤ zsg q.1 q.2; omega, (hf q hq).2⟩)
  have h2 := zPi_ge (f := fun q => zsg q.1 q.2) (l := l) (fun q hq => (hf q hq).1)
  have h9 := zGood_b9 hn hG
  rw [hG.2.2] at h2
  refine ⟨?_, h2.1, by unfold zSg; omega, fun h => h2.2 (zGood_ne h hG)⟩
  have := zPi_fold (f := fun q => zsg q.1 q.2) (g := fun q => zofp q.1 q.2) (l := l) (s := 1) (fun q hq => ⟨zofp_eq (zGood_pw hn hG hq).1 _ (zGood_pw hn hG hq).2.2.1, by have := hf q hq; show 1 ≤ zsg q.1 q.2; omega, (hf q hq).2⟩) (by omega) (by omega)
  rw [Nat.one_mul] at this
  exact this
theorem zall_n {n : Nat} (hn : n ≤ 999999999) (hG : zGood n (zfac n)) : ∃ s : Nat, zall (zfac n) = s ∧ n ≤ s ∧ s ≤ 512 * n ∧ (2 ≤ n → n + 1 ≤ s) := ⟨_, (zSg_b hn hG).1, (zSg_b hn hG).2⟩
theorem zfold_r {g : Nat × Nat → Int} : ∀ {l : List (Nat × Nat)} {s b : Int} {law : Int}, (∀ q ∈ l, g q = w64 (1 + (if law = 1 then zpw q.1 q.2 else (q.1 : Int)))) → (l.foldl (zsst law) (s, b)).1 = l.foldl (fun s q => w64 (s * g q)) s
  | [], _, _, _, _ => rfl
  | q :: l, s, b, law, h => by
    rw [List.foldl_cons, List.foldl_cons, h q List.mem_cons_self]
    exact zfold_r (fun r hr => h r (List.mem_cons_of_mem _ hr))
/-- sums are from 0 on, and not too great -/
theorem zsum_r {n : Nat} {law : Int} (h1 : 1 ≤ n) (hn : n ≤ 999999999) (hG : zGood n (zfac n)) (hl : 0 ≤ law ∧ law ≤ 3) : 0 ≤ zsum law n ∧ zsum law n ≤ 512 * n := by
  unfold zsum
  by_cases hn1 : n = 1
  · rw [if_pos hn1]; omega
  · rw [if_neg hn1]
    obtain ⟨s, e, s1, s2, s3⟩ := zall_n hn hG
    have s3 := s3 (by omega)
    by_cases l0 : law = 0
    · rw [if_pos l0, e, w64_id (by omega)]; omega
    · rw [if_neg l0]
      by_cases l2 : law = 2
      · rw [if_pos l2, e, w64_id (show _ ≤ (s : Int) - n ∧ _ by omega), w64_id (by omega)]; omega
      · rw [if_neg l2]
        unfold zsre
        have h9 := zGood_b9 hn hG
        by_cases l1 : law = 1
        · rw [if_pos l1]
          have hf : ∀ q ∈ zfac n, q.1 ^ q.2 + 1 ≤ q.1 ^ q.2 + 1 ∧ q.1 ^ q.2 + 1 ≤ 2 * q.1 ^ q.2 := fun q hq => by
            have hb := zGood_pw hn hG hq
            exact ⟨Nat.le_refl _, by omega⟩
          have b1 := zPi_b (f := fun q => q.1 ^ q.2 + 1) (l := zfac n) (fun q hq => ⟨by show 1 ≤ q.1 ^ q.2 + 1; omega, (hf q hq).2⟩)
          have b2 := (zPi_ge (f := fun q => q.1 ^ q.2 + 1) (l := zfac n) (fun q hq => (hf q hq).1)).1
          rw [hG.2.2] at b2
          have hg : ∀ q ∈ zfac n, ((q.1 ^ q.2 + 1 : Nat) : Int) = w64 (1 + (if law = 1 then zpw q.1 q.2 else (q.1 : Int))) := fun q hq => by
            have hb := zGood_pw hn hG hq
            rw [if_pos l1, zpw_eq (by omega) _ hb.2.2.1, w64_id (by omega)]
            omega
          rw [zfold_r (g := fun q => ((q.1 ^ q.2 + 1 : Nat) : Int)) hg]
          have := zPi_fold (f := fun q => q.1 ^ q.2 + 1) (g := fun q => ((q.1 ^ q.2 + 1 : Nat) : Int)) (l := zfac n) (s := 1) (fun q hq => ⟨rfl, by show 1 ≤ q.1 ^ q.2 + 1; omega, (hf q hq).2⟩) (by omega) (by omega)
          rw [Nat.one_mul] at this
          rw [show (1 : Int) = ((1 : Nat) : Int) from rfl, this, w64_id (by omega)]
          omega
        · rw [if_neg l1]
          have hf : ∀ q ∈ zfac n, 1 ≤ q.1 + 1 ∧ q.1 + 1 ≤ 2 * q.1 ^ q.2 := fun q hq => by
            have hb := zGood_pw hn hG hq
            exact ⟨by omega, by omega⟩
          have b1 := zPi_b (f := fun q => q.1 + 1) (l := zfac n) hf
          have hg : ∀ q ∈ zfac n, ((q.1 + 1 : Nat) : Int) = w64 (1 + (if law = 1 then zpw q.1 q.2 else (q.1 : Int))) := fun q hq => by
            have hb := zGood_pw hn hG hq
            rw [if_neg l1, w64_id (by omega)]
            omega
          have e1 := zPi_fold (f := fun q => q.1 + 1) (g := fun q => ((q.1 + 1 : Nat) : Int)) (l := zfac n) (s := 1) (fun q hq => ⟨rfl, (hf q hq).1, (hf q hq).2⟩) (by omega) (by omega)
          rw [Nat.one_mul] at e1
          rw [zfold_r (g := fun q => ((q.1 + 1 : Nat) : Int)) hg, show (1 : Int) = ((1 : Nat) : Int) from rfl, e1]
          by_cases hz : ((zfac n).foldl (zsst law) (((1 : Nat) : Int), ((1 : Nat) : Int))).2 = 0
          · rw [if_pos hz]; omega
          · rw [if_neg hz]
            have hq2 : ∀ q ∈ zfac n, 1 ≤ q.2 := fun q hq => (zGood_bd hG hq).2.1
            have hb := zssb (law := law) (zfac n) 1 1 hq2
            have hall : ∀ q ∈ zfac n, q.2 ≤ 1 := by
              rcases Classical.em (∀ q ∈ zfac n, q.2 ≤ 1) with z | z
              · exact z
              · exact absurd (hb.mpr (Or.inr z)) hz
            have b2 := (zPi_ge (f := fun q => q.1 + 1) (l := zfac n) (fun q hq => by
              have a1 := hall q hq
              have a2 := hq2 q hq
              have : q.2 = 1 := by omega
              rw [this, Nat.pow_one]; exact Nat.le_refl _)).1
            rw [hG.2.2] at b2
            rw [w64_id (by omega)]
            omega

