/-! the law's look at a number -/
/-- a state with a good desk and good walks -/
def zBs (H0 : zHt) : Prop := zDk H0 ∧ zWlk H0
theorem zcf40 {H0 H : zHt} (h : zcf H0 H) (j : Int) : H 40 j = H0 40 j := zcf_at h rfl
theorem zcf41 {H0 H : zHt} (h : zcf H0 H) (j : Int) : H 41 j = H0 41 j := zcf_at h rfl
theorem zcf_k {H0 H H1 : zHt} (h : zcf H0 H) (hk : zkeep H H1) (h81 : H1 81 0 = H 81 0) : zcf H0 H1 := zcf_tr h ⟨zRk_of hk, h81⟩
theorem zBs.cf {H0 H : zHt} (h : zBs H0) (hc : zcf H0 H) : zBs H := by
  refine ⟨?_, hc.1.2 h.2⟩
  have hd := h.1
  unfold zDk at hd ⊢
  rw [zcf40 hc, zcf40 hc, zcf40 hc, zcf40 hc]
  refine ⟨hd.1, hd.2.1, hd.2.2.1, hd.2.2.2.1, hd.2.2.2.2.1, hd.2.2.2.2.2.1, hd.2.2.2.2.2.2.1, hd.2.2.2.2.2.2.2.1, fun k hk => ?_⟩
  rw [zcf41 hc]
  exact hd.2.2.2.2.2.2.2.2 k hk
section ZY
variable {w : zWt} {d : Nat} {H0 H : zHt} {law : Nat}
theorem y41 {v : Int} {K : Int → zHt → Prop} (hc : zcf H0 H) (k : ∀ H', zcf H0 H' → K (if v = 0 then H0 40 1 else if v = 1 then H0 40 2 else if v = 2 then H0 40 3 else if v = 3 then H0 40 4 else if v = 4 then H 32 11 else -1) H') : zclI w (d + 1) 41 [zR 32, zI v] H K := by
  obtain ⟨H1, h1, h2, h3, h4⟩ := a41 (w := w) (d := d) (v := v) (H := H)
  rw [h4, zcf40 hc, zcf40 hc, zcf40 hc, zcf40 hc]
  exact k H1 (zcf_k hc h1 h2)
theorem y42 {n i t : Int} {K : Int → zHt → Prop} (hc : zcf H0 H) (hn : (1 ≤ n ∧ n ≤ 999999999) ∧ -1 ≤ i ∧ 0 ≤ t ∧ t ≤ 1) (k : ∀ H', zcf H0 H' → H' 32 14 = zfS (zfac n.toNat) i → K (zfA (zfac n.toNat) i t) H') : zclI w (d + 3) 42 [zR 32, zI n, zI i, zI t] H K := by
  obtain ⟨H1, h1, h2, h3, h4⟩ := a42 (w := w) (d := d) (v := n) (i := i) (t := t) (H := H) z_MR
  rw [h4, if_pos hn]
  rw [if_pos hn] at h3
  exact k H1 (zcf_k hc h1 h2) h3
theorem y51 {n : Nat} {K : Int → zHt → Prop} (hB : zBs H0) (hc : zcf H0 H) (hl : H0 40 4 = law ∧ law < 4) (hn : 1 ≤ n ∧ n < 4096) (k : ∀ H', zcf H0 H' → K ((zSo law n (n - 1) : Nat) : Int) H') : zclL w (d + 5) 51 [zR 32, zI (n : Int)] H K := by
  obtain ⟨H1, h1, h2, h3, h4⟩ := a51 (w := w) (d := d) (v := n) (H := H) z_MR (hB.cf hc).1
  rw [h4, if_pos (by omega), zcf40 hc, hl.1, Int.toNat_natCast, (zck_n hn.1 hn.2).2 law hl.2]
  exact k H1 (zcf_k hc h1 h2)
theorem y61 {n : Nat} {K : Int → zHt → Prop} (hB : zBs H0) (hc : zcf H0 H) (hl : H0 40 4 = law ∧ law < 4) (hn : 1 ≤ n ∧ n < 4096) (k : ∀ H', zcf H0 H' → K (if zSo law n (n - 1) < n then 0 else if zSo law n (n - 1) = n then 1 else 2) H') : zclI w (d + 5) 61 [zR 32, zI (n : Int)] H K := by
  obtain ⟨H1, h1, h2, h3, h4⟩ := a61 (w := w) (d := d) (v := n) (H := H) z_MR (hB.cf hc).1
  rw [h4, if_pos (by omega), zcf40 hc, hl.1, Int.toNat_natCast]
  have e : zkind2 (law : Int) n = (if zSo law n (n - 1) < n then 0 else if zSo law n (n - 1) = n then 1 else 2) := by
    unfold zkind2
    rw [(zck_n hn.1 hn.2).2 law hl.2]
    by_cases q : zSo law n (n - 1) < n
    · rw [if_pos q, if_pos (by omega)]
    · rw [if_neg q, if_neg (by omega)]
      by_cases z : zSo law n (n - 1) = n
      · rw [if_pos z, if_pos (by omega)]
      · rw [if_neg z, if_neg (by omega)]
  rw [e]
  exact k H1 (zcf_k hc h1 h2)
theorem y70 {n : Nat} {i : Int} {K : Int → zHt → Prop} (hc : zcf H0 H) (hn : 1 ≤ n ∧ n ≤ 999999999) (hi : -1 ≤ i ∧ i ≤ 999999999) (k : ∀ H', zcf H0 H' → H' 32 14 = (zAdiv n i).1 → K (zAdiv n i).2 H') : zclI w (d + 4) 70 [zR 32, zI (n : Int), zI i] H K :=
  zclI_mono (b70 z_MR ⟨by omega, by omega⟩) fun x H' h => by rw [h.1]; exact k H' (zcf_tr hc h.2.1) h.2.2
theorem y76 {n : Nat} {t : Int} {K : Int → zHt → Prop} (hc : zcf H0 H) (hn : 1 ≤ n ∧ n ≤ 999999999) (ht : 0 ≤ t ∧ t ≤ 1) (k : ∀ H', zcf H0 H' → K (zlwt (zall (zfac n)) n t) H') : zclL w (d + 4) 76 [zR 32, zI (n : Int), zI t] H K :=
  zclL_mono (b76 z_MR) fun x H' h => by
    rw [h.1]
    unfold zAidx
    rw [if_pos ⟨by omega, ht⟩, Int.toNat_natCast]
    exact k H' (zcf_tr hc h.2.1)
theorem y94 {n : Nat} {t g : Int} {K : Int → zHt → Prop} (hc : zcf H0 H) (hn : 1 ≤ n ∧ n ≤ 999999999) (ht : 0 ≤ t ∧ t ≤ 1) (k : ∀ H', zcf H0 H' → K (if g = 0 then zlwt (zall (zfac n)) (zcnt (zfac n)) t else zlwt (w64 (n * zcnt (zfac n))) (zall (zfac n)) t) H') : zclL w (d + 4) 94 [zR 32, zI (n : Int), zI g, zI t] H K :=
  zclL_mono (b94 z_MR) fun x H' h => by
    rw [h.1]
    unfold zAmean
    rw [if_pos ⟨by omega, ht⟩, Int.toNat_natCast]
    exact k H' (zcf_tr hc h.2.1)
theorem y63 {n : Nat} {t : Int} {K : Int → zHt → Prop} (hc : zcf H0 H) (k : ∀ H', zcf H0 H' → H' 32 14 = (zAgd n t).1 → K (zAgd n t).2 H') : zclI w (d + 5) 63 [zR 32, zI (n : Int), zI t] H K :=
  zclI_mono (b63 z_MR) fun x H' h => by rw [h.1]; exact k H' (zcf_tr hc h.2.1) h.2.2
end ZY
/-- a fraction in lowest terms, crosswise -/
theorem zlw_x {a b : Nat} (h0 : 0 < b) (ha : a ≤ 1000000) (hb : b ≤ 1000000) : w64 (zlwt (a : Int) (b : Int) 0 * (b : Int)) = w64 ((a : Int) * zlwt (a : Int) (b : Int) 1) := by
  have hg : 0 < Nat.gcd a b := Nat.gcd_pos_of_pos_right _ h0
  obtain ⟨s, hs⟩ := Nat.gcd_dvd_left a b
  obtain ⟨m, hm⟩ := Nat.gcd_dvd_right a b
  have e0 : zlwt (a : Int) (b : Int) 0 = (s : Int) := by
    unfold zlwt
    rw [if_pos rfl, Int.toNat_natCast, Int.toNat_natCast, show Int.tdiv (a : Int) ((Nat.gcd a b : Nat) : Int) = ((a / Nat.gcd a b : Nat) : Int) from rfl]
    have : a / Nat.gcd a b = s := by
      generalize Nat.gcd a b = g at *
      rw [hs, Nat.mul_div_cancel_left _ hg]
    have hsa : s ≤ a := by
      have : 1 * s ≤ Nat.gcd a b * s := Nat.mul_le_mul_right _ hg
      omega
    rw [this, w64_id (by omega)]
  have e1 : zlwt (a : Int) (b : Int) 1 = (m : Int) := by
    unfold zlwt
    rw [if_neg (by decide), Int.toNat_natCast, Int.toNat_natCast, show Int.tdiv (b : Int) ((Nat.gcd a b : Nat) : Int) = ((b / Nat.gcd a b : Nat) : Int) from rfl]
    have : b / Nat.gcd a b = m := by
      generalize Nat.gcd a b = g at *
      rw [hm, Nat.mul_div_cancel_left _ hg]
    have hsa : m ≤ b := by
      have : 1 * m ≤ Nat.gcd a b * m := Nat.mul_le_mul_right _ hg
      omega
    rw [this, w64_id (by omega)]
  rw [e0, e1]
  have : s * b = a * m := by
    generalize Nat.gcd a b = g at *
    rw [hs, hm, Nat.mul_assoc, Nat.mul_left_comm]
  rw [← Int.natCast_mul, ← Int.natCast_mul, this]
theorem zDn_len : ∀ {l : List (Nat × Nat)}, (∀ q ∈ l, 1 ≤ q.2) → l.length < zDn l
  | [], _ => Nat.one_pos
  | q :: l, h => by
    have h1 := zDn_len (l := l) fun r hr => h r (List.mem_cons_of_mem _ hr)
    have h2 := h q List.mem_cons_self
    have h3 : 2 * zDn l ≤ (q.2 + 1) * zDn l := Nat.mul_le_mul_right _ (by omega)
    show l.length + 1 < (q.2 + 1) * zDn l
    omega
theorem zfac_p {p : Nat} (h : zprime p) : zfac p = [(p, 1)] := by
  refine zfac_eq ⟨List.Pairwise.cons (fun x hx => by cases hx) List.Pairwise.nil, fun q hq => ?_, ?_⟩
  · rw [List.mem_singleton.mp hq]; exact ⟨h, Nat.le_refl 1⟩
  · show p ^ 1 * 1 = p
    rw [Nat.pow_one, Nat.mul_one]
theorem zDn_app {l : List (Nat × Nat)} {p e : Nat} : zDn (l ++ [(p, e)]) = zDn l * (e + 1) := by
  unfold zDn zPi
  induction l with
  | nil => simp
  | cons q l ih =>
    simp only [List.cons_append, List.foldr_cons] at ih ⊢
    rw [ih, Nat.mul_assoc]
theorem zprod_app2 {l m : List (Nat × Nat)} : zprod (l ++ m) = zprod l * zprod m := by
  induction l with
  | nil => show zprod m = 1 * zprod m; omega
  | cons q l ih =>
    show q.1 ^ q.2 * zprod (l ++ m) = q.1 ^ q.2 * zprod l * zprod m
    rw [ih, Nat.mul_assoc]
section ZY
variable {w : zWt} {d : Nat} {H0 H : zHt} {law : Nat}
theorem y175w {K : Int → zHt → Prop} {n r m i p e : Int} {P : Nat} (hp : p = P) (hP : P ≤ 700) : ∀ (c j W : Nat), e = ((j + c : Nat) : Int) → j + c ≤ 700 → W * P ^ c ≤ 999999999 → (1 ≤ P) → zgo w (d + 1) 175 76 [zR 32, zI n, zJ, zJ, zJ, zI r, zL ((W * P ^ c : Nat) : Int), zJ, zI (w32 (m * (w32 (e + 1)))), zI p, zI (w32 (i + 1)), zJ, zJ, zJ, zJ] [] H (zQI K) → zgo w (d + 1) 175 144 [zR 32, zI n, zJ, zJ, zJ, zI r, zL (W : Int), zJ, zI m, zJ, zI i, zI p, zI e, zI (j : Int), zJ] [] H (zQI K)
  | 0, j, W, he, hj, hW, h1, h => by
    refine x175_144 ⟨fun _ => ?_, fun q => by omega⟩
    rw [Nat.pow_zero, Nat.mul_one] at h
    exact h
  | c + 1, j, W, he, hj, hW, h1, h => by
    have hpc : 0 < P ^ c := Nat.pow_pos h1
    have e2 : W * P ^ (c + 1) = W * P * P ^ c := by rw [Nat.pow_succ, Nat.mul_comm (P ^ c) P, Nat.mul_assoc]
    rw [e2] at h hW
    have hle : W * P * 1 ≤ W * P * P ^ c := Nat.mul_le_mul_left _ hpc
    refine x175_144 ⟨fun q => by omega, fun q => ?_⟩
    rw [hp, ← Int.natCast_mul, w64_id (by omega), w32_id (by omega), show (j : Int) + 1 = ((j + 1 : Nat) : Int) by omega, ← hp]
    exact y175w hp hP c (j + 1) (W * P) (by omega) (by omega) hW h1 h
theorem y175f {K : Int → zHt → Prop} {n : Nat} (hn : 1 ≤ n ∧ n ≤ 700) {l : List (Nat × Nat)} (hl : zfac n = l) (hG : zGood n l) (hK : ∀ H', zcf H0 H' → zgo w (d + 5) 175 234 [zR 32, zI (n : Int), zJ, zJ, zJ, zJ, zJ, zJ, zI ((zDn l : Nat) : Int), zJ, zL 0, zJ, zI 0, zI 0, zJ] [] H' (zQI K)) : ∀ (suf pre : List (Nat × Nat)) (H : zHt) (la : Int), l = pre ++ suf → zcf H0 H → (∀ q ∈ suf, la < q.1) → zgo w (d + 5) 175 76 [zR 32, zI (n : Int), zJ, zJ, zJ, zI (l.length : Int), zL ((zprod pre : Nat) : Int), zJ, zI ((zDn pre : Nat) : Int), zI la, zI (pre.length : Int), zJ, zJ, zJ, zJ] [] H (zQI K)
  | [], pre, H, la, hp, hc, hla => by
    rw [List.append_nil] at hp
    subst hp
    have hd := zdlo_len hn.1 (by omega) (hl ▸ hG : zGood n (zfac n))
    rw [hl] at hd
    refine x175_76 ⟨fun _ => ⟨fun q => absurd (by rw [hG.2.2]) q, fun _ => ?_⟩, fun q => by omega⟩
    refine y42 hc (by omega) fun H1 c1 s1 => ?_
    rw [Int.toNat_natCast, hl] at s1 ⊢
    have e1 : zfA l (l.length : Int) 0 = -1 := by unfold zfA; rw [if_neg (by omega), if_pos (Int.le_refl _)]
    have e2 : zfS l (l.length : Int) = 5 := by unfold zfS; rw [if_neg (by omega), if_pos (Int.le_refl _)]
    rw [e1]
    refine ⟨fun q => absurd rfl q, fun _ => ?_⟩
    rw [c9, s1, e2]
    refine ⟨fun q => absurd rfl q, fun _ => ?_⟩
    refine y70 c1 (by omega) (by omega) fun H2 c2 s2 => ?_
    have e3 : (zAdiv n (-1)).2 = ((zDn l : Nat) : Int) := by
      unfold zAdiv
      rw [if_pos ⟨by omega, by omega⟩, if_pos rfl, Int.toNat_natCast, hd.1]
    rw [e3]
    exact ⟨fun _ => hK H2 c2, fun q => absurd rfl q⟩
  | (p, e) :: suf, pre, H, la, hp, hc, hla => by
    have hmem : (p, e) ∈ l := by rw [hp]; simp
    have hpe := hG.2.1 _ hmem
    have hp2 : 2 ≤ p := hpe.1.1
    have he1 : 1 ≤ e := hpe.2
    have hla' : la < (p : Int) := hla (p, e) List.mem_cons_self
    have hpre : ∀ q ∈ pre ++ [(p, e)], zprime q.1 ∧ 1 ≤ q.2 := fun q hq => hG.2.1 q (by rw [hp]; rcases List.mem_append.mp hq with z | z <;> simp_all)
    have hsuf : ∀ q ∈ suf, zprime q.1 ∧ 1 ≤ q.2 := fun q hq => hG.2.1 q (by rw [hp]; simp [hq])
    have e0 : l = (pre ++ [(p, e)]) ++ suf := by rw [hp, List.append_assoc]; rfl
    have hprod : zprod (pre ++ [(p, e)]) * zprod suf = n := by rw [← zprod_app2, ← e0]; exact hG.2.2
    have hsp := zprod_pos hsuf
    have hple : zprod (pre ++ [(p, e)]) ≤ n := by rw [← hprod]; exact Nat.le_mul_of_pos_right _ hsp
    have hpr := zprod_app pre p e
    have hdn := (zDn_b (l := pre ++ [(p, e)]) (fun q hq => ⟨(hpre q hq).2, (hpre q hq).1.1⟩)).2.1
    rw [zDn_app] at hdn
    have hpp : 0 < zprod pre := zprod_pos fun q hq => hpre q (by simp [hq])
    have hdp : 1 ≤ zDn pre := (zDn_b (l := pre) (fun q hq => ⟨(hpre q (by simp [hq])).2, (hpre q (by simp [hq])).1.1⟩)).1
    have hpw : p ≤ p ^ e := by
      have := Nat.pow_le_pow_right (n := p) (by omega) he1
      rwa [Nat.pow_one] at this
    have hew : e < p ^ e := Nat.lt_pow_self hp2
    have hpm : 1 * p ^ e ≤ zprod pre * p ^ e := Nat.mul_le_mul_right _ hpp
    have hlen : l.length = pre.length + (suf.length + 1) := by rw [hp, List.length_append]; rfl
    have hget : l.getD pre.length (0, 0) = (p, e) := by
      rw [hp, List.getD_eq_getElem?_getD, List.getElem?_append_right (Nat.le_refl _), Nat.sub_self]; rfl
    have hlp : l.length ≤ 700 := by
      have h1 := zDn_len (l := l) fun q hq => (hG.2.1 q hq).2
      have h2 := (zDn_b (l := l) (fun q hq => ⟨(hG.2.1 q hq).2, (hG.2.1 q hq).1.1⟩)).2.1
      rw [hG.2.2] at h2
      omega
    refine x175_76 ⟨fun q => by omega, fun _ => ?_⟩
    refine y42 hc (by omega) fun H1 c1 s1 => y42 c1 (by omega) fun H2 c2 s2 => ?_
    rw [Int.toNat_natCast, hl]
    have e1 : zfA l (pre.length : Int) 0 = (p : Int) := by unfold zfA; rw [if_neg (by omega), if_neg (by omega), if_pos rfl, Int.toNat_natCast, hget]
    have e2 : zfA l (pre.length : Int) 1 = (e : Int) := by unfold zfA; rw [if_neg (by omega), if_neg (by omega), if_neg (by decide), Int.toNat_natCast, hget]
    rw [e1, e2]
    refine ⟨fun q => by omega, fun _ => ⟨fun q => by omega, fun _ => ?_⟩⟩
    refine y42 c2 (by omega) fun H3 c3 s3 => ?_
    rw [Int.toNat_natCast, zfac_p hpe.1]
    refine ⟨fun q => absurd rfl q, fun _ => ?_⟩
    refine y70 c3 (by omega) (by omega) fun H4 c4 s4 => ?_
    have hGp : zGood p (zfac p) := zfac_good w (by omega) (by omega)
    have e3 : (zAdiv p (-1)).2 = 2 := by
      unfold zAdiv
      rw [if_pos ⟨by omega, by omega⟩, if_pos rfl, Int.toNat_natCast, (zdlo_len (by omega) (by omega) hGp).1, zfac_p hpe.1]; rfl
    rw [e3]
    refine ⟨fun _ => ?_, fun q => absurd rfl q⟩
    refine y175w rfl (by omega) e 0 (zprod pre) (by omega) (by omega) (by omega) (by omega) ?_
    rw [← hpr, w32_id (x := (e : Int) + 1) (by omega), show (e : Int) + 1 = ((e + 1 : Nat) : Int) by omega, ← Int.natCast_mul, ← zDn_app, w32_id (x := ((zDn (pre ++ [(p, e)]) : Nat) : Int)) (by rw [zDn_app]; omega), w32_id (x := (pre.length : Int) + 1) (by omega), show (pre.length : Int) + 1 = ((pre ++ [(p, e)]).length : Int) by rw [List.length_append]; rfl]
    exact y175f hn hl hG hK suf (pre ++ [(p, e)]) H4 p e0 c4 (fun q hq => by
      have hs := hG.1
      rw [hp, List.map_append, List.map_cons] at hs
      have := (List.pairwise_cons.mp (List.pairwise_append.mp hs).2.1).1 q.1 (List.mem_map_of_mem hq)
      have : p < q.1 := this
      omega)
end ZY
