/-! the law's look at a number: divisors, fractions, guides -/
theorem zfs_0 {n : Nat} : ∀ {l : List Nat}, zfs 0 n l = l.sum
  | [] => rfl
  | d :: l => by
    show (if zPL 0 n d = true then d else 0) + zfs 0 n l = _
    rw [if_pos (show zPL 0 n d = true from rfl), zfs_0, List.sum_cons]
/-- the sum of all divisors -/
theorem zsig {n : Nat} (h1 : 1 ≤ n) (hn : n < 4096) : zall (zfac n) = ((zSo 0 n n : Nat) : Int) ∧ (zdlo n n).sum = zSo 0 n n ∧ zSo 0 n n = zSo 0 n (n - 1) + n ∧ zSo 0 n n ≤ n * n ∧ n ≤ zSo 0 n n ∧ zSg (zfac n) = zSo 0 n n := by
  have hc := zck_n h1 hn
  have hG := zfac_good ((0, fun _ => 0, []) : zWt) h1 (by omega)
  obtain ⟨s, hs, b1, b2, b3⟩ := zall_n (by omega) hG
  have hb := @zSo_b 0 n n
  have he : zSo 0 n n = zSo 0 n (n - 1) + n := by
    obtain ⟨m, rfl⟩ : ∃ m, n = m + 1 := ⟨n - 1, by omega⟩
    have es : zSo 0 (m + 1) (m + 1) = zSo 0 (m + 1) m + (if (m + 1) % (m + 1) = 0 ∧ zPL 0 (m + 1) (m + 1) = true then m + 1 else 0) := rfl
    rw [if_pos ⟨Nat.mod_self _, rfl⟩] at es
    rw [Nat.add_sub_cancel]; exact es
  have h2 := hc.2 0 (by decide)
  have e1 : zall (zfac n) = ((zSo 0 n n : Nat) : Int) := by
    by_cases z : n = 1
    · subst z
      have : zfac 1 = [] := zfac_eq ⟨List.Pairwise.nil, fun q hq => (by cases hq), rfl⟩
      rw [this]
      rfl
    · have e : zsum ((0 : Nat) : Int) n = w64 (zall (zfac n) - n) := by
        unfold zsum
        rw [if_neg z, if_pos (show ((0 : Nat) : Int) = 0 from rfl)]
      rw [e, hs, w64_id (by omega)] at h2
      rw [hs, he]
      omega
  refine ⟨e1, ?_, he, hb, by omega, ?_⟩
  · rw [← zfs_0 (n := n), zfs_lo]
  · have := (zSg_b (by omega) hG).1
    rw [e1] at this
    omega
theorem zdlo_last {n : Nat} (h1 : 1 ≤ n) : (zdlo n n).getLastD 0 = n := by
  obtain ⟨m, rfl⟩ : ∃ m, n = m + 1 := ⟨n - 1, by omega⟩
  rw [zdlo_s, if_pos (Nat.mod_self _)]
  simp
theorem zsum_le {a b : List Nat} : a.sum ≤ (a ++ b).sum := by rw [List.sum_append]; omega
/-- powers of two, and what is shifted -/
theorem zshl_all : (List.range 10).all (fun a => (List.range 701).all fun v => decide (zshl (v : Int) (a : Int) = ((v * 2 ^ a : Nat) : Int))) = true := by decide +kernel
theorem zshl_v {v a : Nat} (hv : v ≤ 700) (ha : a < 10) : zshl (v : Int) (a : Int) = ((v * 2 ^ a : Nat) : Int) :=
  of_decide_eq_true (List.all_eq_true.mp (List.all_eq_true.mp zshl_all a (List.mem_range.mpr ha)) v (List.mem_range.mpr (by omega)))
section ZY
variable {w : zWt} {d : Nat} {H0 H : zHt} {law : Nat}
theorem y176l {K : Int → zHt → Prop} {n a : Nat} (hn : 1 ≤ n ∧ n ≤ 700) (ha : 1 ≤ a ∧ a < 10) (K1 : ∀ H', zcf H0 H' → K 1 H') {S : Nat} (hd : (zAgd n 3).2 = if 2 ^ (a - 1) ∣ S then 1 else 0) (hS : S ≤ 999999999) : ∀ (f t v : Nat) (H : zHt), zcf H0 H → v < f → 1 ≤ v → v ≤ 999999999 → S = 2 ^ t * v → zgo w (d + 6) 176 70 [zR 32, zI (n : Int), zI (a : Int), zJ, zL (v : Int), zJ, zI (t : Int)] [] H (zQI K)
  | 0, t, v, H, hc, hv, h1, hv9, e => absurd hv (by omega)
  | f + 1, t, v, H, hc, hv, h1, hv9, e => by
    have htt : t < 2 ^ t := Nat.lt_pow_self (by decide)
    have htv : 2 ^ t * 1 ≤ 2 ^ t * v := Nat.mul_le_mul_left _ h1
    refine x176_70 ⟨fun q => ?_, fun q => ?_⟩
    · refine y63 hc fun H1 c1 _ => ?_
      rw [hd]
      have hodd : v % 2 = 1 := by
        rw [show Int.tmod (v : Int) 2 = ((v % 2 : Nat) : Int) from rfl] at q
        omega
      have hdv : 2 ^ (a - 1) ∣ S ↔ a - 1 ≤ t := by
        rw [e]
        constructor
        · intro z
          rcases Nat.lt_or_ge t (a - 1) with y | y
          · exfalso
            obtain ⟨c, hc⟩ : ∃ c, a - 1 = t + 1 + c := ⟨a - 1 - (t + 1), by omega⟩
            have z2 : 2 ^ (t + 1) ∣ 2 ^ t * v := Nat.dvd_trans ⟨2 ^ c, by rw [hc, Nat.pow_add]⟩ z
            rw [Nat.pow_succ] at z2
            have := Nat.dvd_of_mul_dvd_mul_left (Nat.pow_pos (by decide)) z2
            omega
          · exact y
        · intro y
          obtain ⟨c, hc⟩ : ∃ c, t = a - 1 + c := ⟨t - (a - 1), by omega⟩
          rw [hc, Nat.pow_add, Nat.mul_assoc]
          exact Nat.dvd_mul_right _ _
      rw [w32_id (by omega)]
      refine ⟨fun y => ?_, fun y => ?_⟩
      · rw [if_neg (fun z => by have := hdv.mp z; omega)]
        exact ⟨fun z => absurd rfl z, fun _ => K1 H1 c1⟩
      · rw [if_pos (hdv.mpr (by omega))]
        exact ⟨fun z => absurd rfl z, fun _ => K1 H1 c1⟩
    · rw [show Int.tmod (v : Int) 2 = ((v % 2 : Nat) : Int) from rfl] at q
      rw [show Int.tdiv (v : Int) 2 = ((v / 2 : Nat) : Int) from rfl, w64_id (by omega), w32_id (by omega), show (t : Int) + 1 = ((t + 1 : Nat) : Int) by omega]
      refine y176l hn ha K1 hd hS f (t + 1) (v / 2) H hc (by omega) (by omega) (by omega) ?_
      · rw [e, Nat.pow_succ, Nat.mul_assoc, show 2 * (v / 2) = v by omega]
theorem zAgd_n {n : Nat} {t : Int} (h : 1 ≤ n ∧ n ≤ 700) (ht : 0 ≤ t ∧ t ≤ 3) (he : n % 2 = 0) : (zAgd n t).2 = if t = 0 then zgde n else if t = 1 then (zta n : Int) else if t = 2 then (zog (zta n) n : Int) else zdrv n := by
  unfold zAgd
  rw [if_pos ⟨by omega, ht⟩, Int.toNat_natCast, if_neg (by omega)]
theorem y176 {K : Int → zHt → Prop} {n : Nat} (hn : 1 ≤ n ∧ n ≤ 700) (he : n % 2 = 0) (hc : zcf H0 H) (K1 : ∀ H', zcf H0 H' → K 1 H') : zclI w (d + 29) 176 [zR 32, zI (n : Int)] H K := by
  obtain ⟨k, hk⟩ := zta_n hn.1
  have hzg := @zgde n
  have e0 := zAgd_n hn (t := 0) (by decide) he
  have e1 := zAgd_n hn (t := 1) (by decide) he
  have e2 := zAgd_n hn (t := 2) (by decide) he
  have e3 := zAgd_n hn (t := 3) (by decide) he
  rw [if_pos rfl] at e0
  rw [if_neg (by decide), if_pos rfl] at e1
  rw [if_neg (by decide), if_neg (by decide), if_pos rfl] at e2
  rw [if_neg (by decide), if_neg (by decide), if_neg (by decide)] at e3
  have g0 : zgde n = ((2 ^ zta n * zog (zta n) n : Nat) : Int) := by unfold zgde; rw [if_neg (by omega)]
  have g3 : zdrv n = if 2 ^ (zta n - 1) ∣ zSg (zfac (zog (zta n) n)) then 1 else 0 := by unfold zdrv; rw [if_neg (by omega)]
  rw [g0] at e0
  rw [g3] at e3
  generalize zta n = a at *
  have hpos : 0 < 2 ^ a := Nat.pow_pos (by decide)
  have hk2 : 2 ^ a * 1 ≤ 2 ^ a * (2 * k + 1) := Nat.mul_le_mul_left _ (by omega)
  have ha10 : a < 10 := by
    rcases Nat.lt_or_ge a 10 with z | z
    · exact z
    · have := Nat.pow_le_pow_right (n := 2) (by decide) z
      have h1024 : (2 : Nat) ^ 10 = 1024 := by decide
      omega
  have ha1 : 1 ≤ a := by
    rcases Nat.eq_zero_or_pos a with z | z
    · subst z
      rw [Nat.pow_zero] at hk
      omega
    · exact z
  have hv : zog a n = Nat.gcd (2 ^ (a + 1) - 1) n := rfl
  have hvb := @zog_b a k
  rw [← hk] at hvb
  have hvn : zog a n ≤ n := by
    have : 1 * zog a n ≤ 2 ^ a * zog a n := Nat.mul_le_mul_right _ hpos
    omega
  have hp2 : 2 ^ (a + 1) = 2 ^ a * 2 := Nat.pow_succ ..
  have s1 : zshl 1 (a : Int) = ((2 ^ a : Nat) : Int) := by have := zshl_v (v := 1) (by decide) ha10; rwa [Nat.one_mul] at this
  have s2 : zshl 2 (a : Int) = ((2 ^ (a + 1) : Nat) : Int) := by have := zshl_v (v := 2) (by decide) ha10; rwa [Nat.mul_comm, ← hp2] at this
  have m1 : n % 2 ^ a = 0 := by rw [hk]; exact Nat.mul_mod_right _ _
  have m2 : n % 2 ^ (a + 1) ≠ 0 := fun z => by
    have := Nat.dvd_of_mod_eq_zero z
    rw [hk, hp2] at this
    have := Nat.dvd_of_mul_dvd_mul_left hpos this
    omega
  have hpl : 2 ^ a ≤ 512 := by
    have := Nat.pow_le_pow_right (n := 2) (by decide) (show a ≤ 9 by omega)
    have h512 : (2 : Nat) ^ 9 = 512 := by decide
    omega
  have hvc : zog a n ≤ 700 := by omega
  have hsv := zsig hvb.1 (by omega : zog a n < 4096)
  have hmm : zog a n * zog a n ≤ 700 * 700 := Nat.mul_le_mul hvc hvc
  refine x176_0 ?_
  refine y63 hc fun H1 c1 _ => y63 c1 fun H2 c2 _ => ?_
  rw [e1, e2, s1, s2]
  refine ⟨by omega, fun q => ?_, fun _ => ⟨by omega, fun q => ?_, fun _ => ?_⟩⟩
  · rw [show Int.tmod (n : Int) ((2 ^ a : Nat) : Int) = ((n % 2 ^ a : Nat) : Int) from rfl, m1] at q
    exact absurd rfl q
  · rw [show Int.tmod (n : Int) ((2 ^ (a + 1) : Nat) : Int) = ((n % 2 ^ (a + 1) : Nat) : Int) from rfl] at q
    exact absurd (by omega) m2
  have ew : w32 (((2 ^ (a + 1) : Nat) : Int) - 1) = ((2 ^ (a + 1) - 1 : Nat) : Int) := by rw [w32_id (by omega)]; omega
  rw [ew]
  refine zn172 10 (d := d + 7) (a := 2 ^ (a + 1) - 1) (b := n) (by omega) (by show n < 1024; omega) (by decide) ?_
  refine ⟨fun q => absurd (by rw [hv]) q, fun _ => ?_⟩
  refine y63 c2 fun H3 c3 _ => ?_
  have s3 := zshl_v hvc ha10
  rw [e0, s3, Nat.mul_comm]
  refine ⟨fun _ => ?_, fun q => absurd rfl q⟩
  refine zn174 (law := 0) (d := d) ⟨hvb.1, by omega⟩ (by decide) ?_
  rw [w64_id (by omega), show ((zSo 0 (zog a n) (zog a n - 1) : Nat) : Int) + ((zog a n : Nat) : Int) = ((zSo 0 (zog a n) (zog a n) : Nat) : Int) by omega]
  refine y176l (S := zSo 0 (zog a n) (zog a n)) hn ⟨ha1, ha10⟩ K1 ?_ (by omega) _ 0 _ H3 c3 (Nat.lt_succ_self _) (by omega) (by omega) (by rw [Nat.pow_zero, Nat.one_mul])
  rw [e3, hsv.2.2.2.2.2]
end ZY
