/-! the cases ladder, primitive, mates, rings -/
theorem zd4 : ∀ e : Nat, 2 * e + 3 ≤ 3 * 4 ^ e ∧ (e + 1) * (e + 1) ≤ 4 ^ e
  | 0 => ⟨by decide, by decide⟩
  | e + 1 => by
    obtain ⟨h1, h2⟩ := zd4 e
    rw [Nat.pow_succ]
    have : (e + 1 + 1) * (e + 1 + 1) = (e + 1) * (e + 1) + (2 * e + 3) := by simp only [Nat.add_mul, Nat.mul_add]; omega
    omega
theorem zd3 : ∀ e : Nat, 6 * (e + 1) + 9 ≤ 8 * 3 ^ (e + 1) ∧ 3 * ((e + 1 + 1) * (e + 1 + 1)) ≤ 4 * 3 ^ (e + 1)
  | 0 => ⟨by decide, by decide⟩
  | e + 1 => by
    obtain ⟨h1, h2⟩ := zd3 e
    rw [Nat.pow_succ 3 (e + 1)]
    have : (e + 1 + 1 + 1) * (e + 1 + 1 + 1) = (e + 1 + 1) * (e + 1 + 1) + (2 * (e + 1) + 3) := by simp only [Nat.add_mul, Nat.mul_add]; omega
    omega
theorem zd2 : ∀ e : Nat, 8 * (e + 2) + 12 ≤ 9 * 2 ^ (e + 2) ∧ 4 * ((e + 2 + 1) * (e + 2 + 1)) ≤ 9 * 2 ^ (e + 2)
  | 0 => ⟨by decide, by decide⟩
  | e + 1 => by
    obtain ⟨h1, h2⟩ := zd2 e
    rw [show e + 1 + 2 = (e + 2) + 1 by omega, Nat.pow_succ 2 (e + 2)]
    have : (e + 2 + 1 + 1) * (e + 2 + 1 + 1) = (e + 2 + 1) * (e + 2 + 1) + (2 * (e + 2) + 3) := by simp only [Nat.add_mul, Nat.mul_add]; omega
    omega
theorem zsq4 (a b c x y : Nat) (h1 : a * (b * b) ≤ x) (h2 : c * c ≤ y) : a * (b * c * (b * c)) ≤ x * y := by
  have := Nat.mul_le_mul h1 h2
  rw [show a * (b * c * (b * c)) = a * (b * b) * (c * c) by
    rw [Nat.mul_assoc a, Nat.mul_assoc b b, Nat.mul_assoc b c, Nat.mul_left_comm c b c]]
  exact this
theorem zDn_4 : ∀ {l : List (Nat × Nat)}, (∀ q ∈ l, 4 ≤ q.1) → zDn l * zDn l ≤ zprod l
  | [], _ => Nat.le_refl _
  | q :: l, h => by
    have ih := zDn_4 (fun r hr => h r (List.mem_cons_of_mem _ hr))
    have h1 : 1 * ((q.2 + 1) * (q.2 + 1)) ≤ q.1 ^ q.2 := by
      rw [Nat.one_mul]
      exact Nat.le_trans (zd4 q.2).2 (Nat.pow_le_pow_left (h q List.mem_cons_self) _)
    have := zsq4 _ _ _ _ _ h1 ih
    rw [Nat.one_mul] at this
    exact this
theorem zDn_3 : ∀ {l : List (Nat × Nat)}, (l.map Prod.fst).Pairwise (· < ·) → (∀ q ∈ l, 3 ≤ q.1 ∧ 1 ≤ q.2) → 3 * (zDn l * zDn l) ≤ 4 * zprod l
  | [], _, _ => by decide
  | q :: l, hs, h => by
    rw [List.map_cons, List.pairwise_cons] at hs
    have hq := h q List.mem_cons_self
    have h4 : ∀ r ∈ l, 4 ≤ r.1 := fun r hr => by
      have := hs.1 r.1 (List.mem_map_of_mem hr)
      omega
    by_cases h3 : q.1 = 3
    · have ih := zDn_4 h4
      obtain ⟨k, hk⟩ : ∃ k, q.2 = k + 1 := ⟨q.2 - 1, by omega⟩
      have h1 : 3 * ((q.2 + 1) * (q.2 + 1)) ≤ 4 * q.1 ^ q.2 := by rw [h3, hk]; exact (zd3 k).2
      have := zsq4 _ _ _ _ _ h1 ih
      rw [show 4 * q.1 ^ q.2 * zprod l = 4 * (q.1 ^ q.2 * zprod l) from Nat.mul_assoc _ _ _] at this
      exact this
    · have := zDn_4 (l := q :: l) (fun r hr => by
        rcases List.mem_cons.mp hr with z | z
        · subst z; omega
        · exact h4 r z)
      omega
theorem zDn_2 : ∀ {l : List (Nat × Nat)}, (l.map Prod.fst).Pairwise (· < ·) → (∀ q ∈ l, 2 ≤ q.1 ∧ 1 ≤ q.2) → zDn l * zDn l ≤ 3 * zprod l
  | [], _, _ => by decide
  | q :: l, hs, h => by
    have hs0 := hs
    rw [List.map_cons, List.pairwise_cons] at hs
    have hq := h q List.mem_cons_self
    have h4 : ∀ r ∈ l, 3 ≤ r.1 ∧ 1 ≤ r.2 := fun r hr => by
      have := hs.1 r.1 (List.mem_map_of_mem hr)
      exact ⟨by omega, (h r (List.mem_cons_of_mem _ hr)).2⟩
    by_cases h3 : q.1 = 2
    · have ih := zDn_3 hs.2 h4
      have h1 : 4 * ((q.2 + 1) * (q.2 + 1)) ≤ 9 * q.1 ^ q.2 := by
        rw [h3]
        by_cases z : q.2 = 1
        · rw [z]; decide
        · obtain ⟨k, hk⟩ : ∃ k, q.2 = k + 2 := ⟨q.2 - 2, by omega⟩
          rw [hk]; exact (zd2 k).2
      have e1 : zDn (q :: l) = (q.2 + 1) * zDn l := rfl
      have e2 : zprod (q :: l) = q.1 ^ q.2 * zprod l := rfl
      have := Nat.mul_le_mul h1 ih
      rw [e1, e2]
      rw [show 4 * ((q.2 + 1) * (q.2 + 1)) * (3 * (zDn l * zDn l)) = 12 * ((q.2 + 1) * zDn l * ((q.2 + 1) * zDn l)) by
        rw [show (q.2 + 1) * zDn l * ((q.2 + 1) * zDn l) = (q.2 + 1) * (q.2 + 1) * (zDn l * zDn l) by
          rw [Nat.mul_assoc, Nat.mul_assoc, Nat.mul_left_comm (zDn l)]]
        rw [Nat.mul_mul_mul_comm]] at this
      rw [show 9 * q.1 ^ q.2 * (4 * zprod l) = 9 * 4 * (q.1 ^ q.2 * zprod l) from Nat.mul_mul_mul_comm _ _ _ _] at this
      omega
    · have := zDn_3 (l := q :: l) hs0 (fun r hr => by
        rcases List.mem_cons.mp hr with z | z
        · subst z; omega
        · exact h4 r z)
      omega
theorem zdvd_prod : ∀ {l : List (Nat × Nat)} {r : Nat × Nat}, r ∈ l → r.1 ^ r.2 ∣ zprod l
  | s :: l, r, h => by
    rcases List.mem_cons.mp h with y | y
    · subst y; exact Nat.dvd_mul_right _ _
    · exact Nat.dvd_trans (zdvd_prod y) (Nat.dvd_mul_left _ _)
theorem zDn_n {n : Nat} (hG : zGood n (zfac n)) : zDn (zfac n) * zDn (zfac n) ≤ 3 * n := by
  have := zDn_2 hG.1 (fun q hq => ⟨(zGood_bd hG hq).1, (zGood_bd hG hq).2.1⟩)
  rw [hG.2.2] at this
  exact this
theorem zDn_lt {n : Nat} (h3 : 3 ≤ n) (hG : zGood n (zfac n)) : zDn (zfac n) < n := by
  have h := zDn_n hG
  by_cases z : n = 3
  · subst z
    have g : zGood 3 [(3, 1)] := by
      refine ⟨by simp, fun q hq => ?_, rfl⟩
      simp only [List.mem_cons, List.not_mem_nil, or_false] at hq
      subst hq
      refine ⟨⟨by decide, fun d hd => ?_⟩, Nat.le_refl _⟩
      have := Nat.le_of_dvd (by decide) hd
      rcases (by omega : d = 0 ∨ d = 1 ∨ d = 2 ∨ d = 3) with rfl | rfl | rfl | rfl
      · exact absurd hd (by decide)
      · exact Or.inl rfl
      · exact absurd hd (by decide)
      · exact Or.inr rfl
    rw [zfac_eq g]; decide
  · rcases Nat.lt_or_ge (zDn (zfac n)) n with y | y
    · exact y
    · have := Nat.mul_le_mul y y
      have := Nat.mul_le_mul_right n (show 4 ≤ n by omega)
      omega
/-- how many steps a ladder may yet have -/
def zneed (v μ : Nat) : Prop := v ≤ μ ∨ (v ≤ 405 ∧ 40 ≤ μ) ∨ (v ≤ 54772 ∧ 41 ≤ μ) ∨ 42 ≤ μ
theorem zneed_d {n μ : Nat} (h3 : 3 ≤ n) (hn : n ≤ 999999999) (hG : zGood n (zfac n)) (h : zneed n (μ + 1)) : zneed (zDn (zfac n)) μ := by
  have h1 := zDn_n hG
  have h2 := zDn_lt h3 hG
  generalize zDn (zfac n) = r at *
  have big : ∀ b : Nat, 3 * n < (b + 1) * (b + 1) → r ≤ b := fun b hb => by
    rcases Nat.lt_or_ge b r with z | z
    · have := Nat.mul_le_mul (show b + 1 ≤ r from z) (show b + 1 ≤ r from z)
      omega
    · exact z
  unfold zneed at *
  rcases h with z | z | z | z
  · exact Or.inl (by omega)
  · have := big 34 (by omega)
    exact Or.inl (by omega)
  · have := big 405 (by omega)
    exact Or.inr (Or.inl (by omega))
  · have := big 54772 (by omega)
    exact Or.inr (Or.inr (Or.inl (by omega)))
noncomputable def zlad (k : Int) : Nat → Nat → Nat → Int × Int
  | 0, _, h => zfin k h
  | c + 1, v, h => if (h : Int) = k then (0, (v : Int)) else if v ≤ 2 then zfin k (h + 1) else zlad k c (zDn (zfac v)) (h + 1)
noncomputable def zAlad (v k : Int) : Int × Int := if (1 ≤ v ∧ v ≤ 999999999) ∧ -1 ≤ k then zlad k 42 v.toNat 0 else (1, -1)
noncomputable def zprm (n : Nat) : List (Nat × Nat) → Int
  | [] => 1
  | q :: l => if zkind2 0 (n / q.1) = 0 then zprm n l else 0
noncomputable def zAprm (v : Int) : Int × Int := if 1 ≤ v ∧ v ≤ 999999999 then (0, if zkind2 0 v.toNat = 2 then zprm v.toNat (zfac v.toNat) else 0) else (1, -1)
noncomputable def zmate (law : Int) (m : Nat) : Int := if zsum law m ≤ m then -1 else if 999999999 < zsum law m then -1 else if zsum law (zsum law m).toNat = m then zsum law m else -1
noncomputable def zPmate (law : Int) (m : Nat) : Bool := decide (¬ zmate law m = -1)
noncomputable def zAmat (law a b k t : Int) : Int × Int := if ((1 ≤ a ∧ a ≤ 999999999) ∧ (1 ≤ b ∧ b ≤ 999999999) ∧ a ≤ b ∧ b - a ≤ 500) ∧ -1 ≤ k ∧ 0 ≤ t ∧ t ≤ 1 then zsk (zPmate law) (fun m => (0, if t = 0 then (m : Int) else zmate law m)) (zfin k) k (b + 1 - a).toNat a.toNat 0 else (1, -1)
noncomputable def zrng (law : Int) (n : Nat) : Nat → Nat → Int
  | 0, v => if zsum law v = n then 1 else 0
  | c + 1, v => if zsum law v ≤ n then 0 else if 999999999 < zsum law v then 0 else zrng law n c (zsum law v).toNat
noncomputable def zPrng (law : Int) (L n : Nat) : Bool := decide (¬ zrng law n (L - 1) n = 0)
noncomputable def zArng (law a b L k : Int) : Int × Int := if ((1 ≤ a ∧ a ≤ 999999999) ∧ (1 ≤ b ∧ b ≤ 999999999) ∧ a ≤ b ∧ b - a ≤ 50) ∧ 1 ≤ L ∧ L ≤ 30 ∧ -1 ≤ k then zsk (zPrng law L.toNat) zhit (zfin k) k (b + 1 - a).toNat a.toNat 0 else (1, -1)
section Z43
variable {w : zWt} {d : Nat} {H : zHt}
-- ladder
theorem b93l {H0 : zHt} {k : Int} {A : Int × Int} (hMR : zMR) : ∀ (c v h : Nat) (H : zHt), zcf H0 H → zneed v c → h + c ≤ 60 → 1 ≤ v → v ≤ 999999999 → zlad k c v h = A → zgo w (d + 4) 93 26 [zR 32, zJ, zI k, zI v, zI h, zI h] [] H (zQI (zPC H0 A)) := by
  intro c
  induction c with
  | zero =>
    intro v h H hF hz hc v1 v9 hA
    unfold zneed at hz
    omega
  | succ c ih =>
    intro v h H hF hz hc v1 v9 hA
    unfold zlad at hA
    refine x93_26 ⟨fun q => by omega, fun _ => ⟨fun q => ⟨fun q2 => ?_, fun q2 => ?_⟩, fun q => ?_⟩⟩
    · rw [if_neg q, if_neg (by omega)] at hA
      obtain ⟨H1, g, e⟩ := c71 (w := w) (d := d) (H := H) (n := v) hMR (by omega) (by omega)
      obtain ⟨H2, F, -⟩ := c45 (w := w) (H := H) (d := d) (n := v) hMR (by omega) (by omega)
      obtain ⟨er, r1, r2, r3⟩ := zcnt_n (by omega) F.2.1
      rw [e, er, zi1 (by omega)]
      exact ih _ _ H1 (zcf_fc hF g) (zneed_d (by omega) (by omega) F.2.1 hz) (by omega) r1 (by omega) hA
    · rw [if_neg q, if_pos (by omega)] at hA
      rw [zi1 (by omega)]
      exact zPC_82 hF hA.symm
    · rw [if_pos q] at hA
      exact zPC_d hF hA.symm
theorem b93 {v k : Int} (hMR : zMR) : zclI w (d + 4) 93 [zR 32, zI v, zI k] H (zPC H (zAlad v k)) := by
  unfold zAlad
  by_cases hg : (1 ≤ v ∧ v ≤ 999999999) ∧ -1 ≤ k
  · rw [if_pos hg]
    obtain ⟨n, rfl⟩ : ∃ n : Nat, v = n := ⟨v.toNat, by omega⟩
    refine x93_0 ?_
    simp only [c43, c44, c81, zit0, Classical.not_not]
    repeat' (first | omega | intro _ | with_reducible refine And.intro ?_ ?_)
    exact b93l hMR 42 n 0 H zcf_rfl (Or.inr (Or.inr (Or.inr (by omega)))) (by omega) (by omega) (by omega) rfl
  · have eA : (1, -1) = ((1 : Int), (-1 : Int)) := rfl
    rw [if_neg hg]
    refine x93_0 ?_
    simp only [c43, c44, c81, zit0, Classical.not_not]
    repeat' (first | exact zPC_r zcf_rfl eA | omega | intro _ | with_reducible refine And.intro ?_ ?_)
theorem b215l {H0 : zHt} {k : Int} {A : Int × Int} : ∀ (c v h : Nat) (H : zHt), zmf H0 H → H 81 0 = 0 → zneed v c → h + c ≤ 60 → 1 ≤ v → v ≤ 999999999 → zlad k c v h = A → zgo w (d + 4) 215 31 [zR 81, zJ, zI k, zI v, zI h] [] H (zQI (zPM H0 A)) := by
  intro c
  induction c with
  | zero =>
    intro v h H hF hs hz hc v1 v9 hA
    unfold zneed at hz
    omega
  | succ c ih =>
    intro v h H hF hs hz hc v1 v9 hA
    unfold zlad at hA
    refine x215_31 ⟨fun q => ⟨fun q2 => ⟨fun q3 => absurd q q3, fun _ => ?_⟩, fun q2 => by omega⟩, fun q => ⟨fun q2 => ⟨fun q3 => ⟨fun _ => ?_, fun q4 => absurd q4 q⟩, fun q3 => ?_⟩, fun q2 => ?_⟩⟩
    · rw [if_pos q] at hA
      exact (zPM_0 hF hs hA.symm)
    · rw [if_neg q, if_pos (by omega)] at hA
      refine zPM_r hF ?_
      rw [← hA]; exact if_neg q3
    · rw [if_neg q, if_pos (by omega)] at hA
      rw [zi1 (by omega)]
      refine (zPM_0 hF hs ?_)
      rw [← hA]; exact if_pos q3
    · rw [if_neg q, if_neg (by omega)] at hA
      obtain ⟨H1, F, e⟩ := c193 (w := w) (d := d + 2) (H := H) (n := v) (by omega) (by omega)
      have hs1 : H1 81 0 = 0 := by rw [F.1 81 0 (by decide) (by decide) (by decide)]; exact hs
      obtain ⟨er, r1, r2, r3⟩ := zcnt_n (by omega) F.2.1
      rw [e, er, zi1 (by omega)]
      exact ih _ _ H1 (zmf_fm hF F.1) hs1 (zneed_d (by omega) (by omega) F.2.1 hz) (by omega) r1 (by omega) hA
theorem b215 {v k : Int} : zclI w (d + 4) 215 [zR 81, zI v, zI k] H (zPM H (zAlad v k)) := by
  unfold zAlad
  by_cases hg : (1 ≤ v ∧ v ≤ 999999999) ∧ -1 ≤ k
  · rw [if_pos hg]
    obtain ⟨n, rfl⟩ : ∃ n : Nat, v = n := ⟨v.toNat, by omega⟩
    refine x215_0 ?_
    simp only [c176, c173, c201, c174_0, c174_1, c174_2, c174_3, c174_4, c174_5, zit0, z10a, z10b, Classical.not_not, not_true_eq_false, false_implies, true_implies, true_and, and_true]
    repeat' (first | omega | intro _ | with_reducible refine And.intro ?_ ?_)
    exact b215l 42 n 0 (zst H 0) (zst_f zmf_rfl) rfl (Or.inr (Or.inr (Or.inr (by omega)))) (by omega) (by omega) (by omega) rfl
  · have eA : (1, -1) = ((1 : Int), (-1 : Int)) := rfl
    rw [if_neg hg]
    refine x215_0 ?_
    simp only [c176, c173, c201, c174_0, c174_1, c174_2, c174_3, c174_4, c174_5, zit0, z10a, z10b, Classical.not_not, not_true_eq_false, false_implies, true_implies, true_and, and_true]
    repeat' (first | exact zPM_n zmf_rfl eA | omega | intro _ | with_reducible refine And.intro ?_ ?_)
-- primitive
theorem b98l {H0 : zHt} {n : Nat} (hMR : zMR) (h1 : 1 ≤ n) (hn : n ≤ 999999999) : ∀ (suf pre : List (Nat × Nat)) (H : zHt) (x : Int), zcf H0 H → zfac n = pre ++ suf → zprm n suf = x → zgo w (d + 5) 98 30 [zR 32, zI n, zI (zfac n).length, zI pre.length, zJ] [] H (zQI fun y H' => y = x ∧ zcf H0 H') := by
  intro suf
  induction suf with
  | nil =>
    intro pre H x hF hl hx
    have hlen : (zfac n).length = pre.length := by rw [hl, List.append_nil]
    exact x98_30 ⟨fun _ => ⟨hx, hF⟩, fun q => by omega⟩
  | cons r suf ih =>
    intro pre H x hF hl hx
    have hlen : (zfac n).length = pre.length + (suf.length + 1) := by rw [hl, List.length_append]; rfl
    obtain ⟨H1, ⟨f1, hG, hL⟩, e⟩ := c45 (w := w) (H := H) (d := d + 2) (n := n) hMR h1 hn
    have h9 := zGood_nine hG (by omega)
    have hb := zGood_bd hG (q := r) (by rw [hl]; simp)
    have hdv : r.1 ∣ n := by
      have : r.1 ^ r.2 ∣ n := by
        rw [← hG.2.2, hl]
        exact zdvd_prod (by simp)
      exact Nat.dvd_trans (Nat.dvd_of_pow_dvd hb.2.1 (Nat.dvd_refl _)) this
    have hat := zLst_at (hl ▸ hL)
    have hdiv : 1 ≤ n / r.1 ∧ n / r.1 ≤ n := ⟨(Nat.one_le_div_iff (by omega)).mpr hb.2.2.1, Nat.div_le_self _ _⟩
    obtain ⟨H2, g, e2⟩ := c62 (w := w) (d := d) (H := H1) (n := n / r.1) (law := 0) hMR hdiv.1 (by omega) ⟨by decide, by decide⟩
    unfold zprm at hx
    refine x98_30 ⟨fun q => by omega, fun _ => ?_⟩
    rw [e, hat.1, if_pos (show (1 : Int) < (r.1 : Int) by omega), ztdiv, w32_id (show _ ≤ ((n / r.1 : Nat) : Int) ∧ _ by omega), e2]
    refine ⟨by omega, by omega, fun q => ?_, fun q => ?_⟩
    · rw [if_pos q] at hx
      rw [show w32 ((pre.length : Int) + 1) = ((pre ++ [r]).length : Int) by rw [w32_id (by omega), List.length_append]; simp]
      exact ih (pre ++ [r]) H2 x (zcf_fc (zcf_fc hF f1) g) (by rw [hl, zapp_one]) hx
    · rw [if_neg q] at hx
      exact ⟨hx, zcf_fc (zcf_fc hF f1) g⟩
theorem zprm_01 {n : Nat} : ∀ {l : List (Nat × Nat)}, zprm n l = 0 ∨ zprm n l = 1
  | [] => Or.inr rfl
  | q :: l => by
    unfold zprm
    split
    · exact zprm_01
    · exact Or.inl rfl
theorem b98 {n : Nat} (hMR : zMR) (h1 : 1 ≤ n) (hn : n ≤ 999999999) : zclI w (d + 5) 98 [zR 32, zI n] H (fun y H' => y = (if zkind2 0 n = 2 then zprm n (zfac n) else 0) ∧ zcf H H') := by
  obtain ⟨H1, g, e⟩ := c62 (w := w) (d := d) (H := H) (n := n) (law := 0) hMR h1 hn ⟨by decide, by decide⟩
  obtain ⟨H2, ⟨f2, hG, hL⟩, e2⟩ := c45 (w := w) (H := H1) (d := d + 2) (n := n) hMR h1 hn
  refine x98_0 ?_
  rw [e]
  refine ⟨fun q => ?_, fun q => ⟨by rw [if_neg q], zcf_fc zcf_rfl g⟩⟩
  rw [e2, hL.1, if_pos q]
  exact b98l hMR h1 hn (zfac n) [] H2 _ (zcf_fc (zcf_fc zcf_rfl g) f2) rfl rfl
theorem b97 {v : Int} (hMR : zMR) : zclI w (d + 6) 97 [zR 32, zI v] H (zPC H (zAprm v)) := by
  unfold zAprm
  by_cases hg : 1 ≤ v ∧ v ≤ 999999999
  · rw [if_pos hg]
    obtain ⟨n, rfl⟩ : ∃ n : Nat, v = n := ⟨v.toNat, by omega⟩
    refine x97_0 ?_
    simp only [c43, c44, c81, zit0, Classical.not_not]
    refine ⟨fun _ => ?_, fun q => absurd hg q⟩
    refine zclI_mono (b98 (n := n) (d := d) hMR (by omega) (by omega)) (fun y H1 h => ?_)
    rw [Int.toNat_natCast, ← h.1]
    have : y = 0 ∨ y = 1 := by
      rw [h.1]
      split
      · exact zprm_01
      · exact Or.inl rfl
    rcases this with z | z
    · rw [z]; exact ⟨fun _ => zPC_d h.2 rfl, fun q => absurd rfl q⟩
    · rw [z]; exact ⟨fun q => absurd q (by decide), fun _ => zPC_d h.2 rfl⟩
  · have eA : (1, -1) = ((1 : Int), (-1 : Int)) := rfl
    rw [if_neg hg]
    refine x97_0 ?_
    simp only [c43, c44, c81, zit0, Classical.not_not]
    repeat' (first | exact zPC_r zcf_rfl eA | omega | intro _ | with_reducible refine And.intro ?_ ?_)
theorem b209c {H0 : zHt} {A : Int × Int} {n : Nat} (h1 : 1 ≤ n) (hn : n ≤ 999999999) (hG : zGood n (zfac n)) : ∀ (suf pre : List (Nat × Nat)) (H : zHt), zmf H0 H → H 81 0 = 0 → (∀ (i : Nat) (q : Nat × Nat), (zfac n)[i]? = some q → H 91 i = q.1) → zfac n = pre ++ suf → A = (0, zprm n suf) → zgo w (d + 5) 209 77 [zR 81, zI n, zR 91, zI (zfac n).length, zI pre.length] [] H (zQI (zPM H0 A)) := by
  intro suf
  have h9 := zGood_nine hG (by omega)
  induction suf with
  | nil =>
    intro pre H hF hs ht hl hx
    have hlen : (zfac n).length = pre.length := by rw [hl, List.append_nil]
    exact x209_77 ⟨fun _ => (zPM_0 hF hs hx), fun q => by omega⟩
  | cons r suf ih =>
    intro pre H hF hs ht hl hx
    have hlen : (zfac n).length = pre.length + (suf.length + 1) := by rw [hl, List.length_append]; rfl
    have hb := zGood_bd hG (q := r) (by rw [hl]; simp)
    have hdiv : 1 ≤ n / r.1 ∧ n / r.1 ≤ n := ⟨(Nat.one_le_div_iff (by omega)).mpr hb.2.2.1, Nat.div_le_self _ _⟩
    obtain ⟨H2, g, e2⟩ := c186 (w := w) (d := d + 1) (H := H) (n := n / r.1) (law := 0) hdiv.1 (by omega)
    have hs2 : H2 81 0 = 0 := by rw [g 81 0 (by decide) (by decide) (by decide)]; exact hs
    have hat : H 91 (pre.length : Int) = r.1 := ht pre.length r (by rw [hl]; exact zget_at)
    have hk : 0 ≤ zkind2 0 (n / r.1) := by unfold zkind2; split <;> (try split) <;> omega
    unfold zprm at hx
    refine x209_77 ⟨fun q => by omega, fun _ => ⟨by omega, by omega, ?_⟩⟩
    rw [hat, ztdiv, w32_id (show _ ≤ ((n / r.1 : Nat) : Int) ∧ _ by omega), e2]
    refine ⟨fun q => ?_, fun q => ?_⟩
    · rw [if_pos (by omega)] at hx
      rw [show w32 ((pre.length : Int) + 1) = ((pre ++ [r]).length : Int) by rw [w32_id (by omega), List.length_append]; simp]
      refine ih (pre ++ [r]) H2 (zmf_fm hF g) hs2 (fun i q hq => ?_) (by rw [hl, zapp_one]) hx
      rw [g 91 i (by decide) (by decide) (by omega)]; exact ht i q hq
    · rw [if_neg (by omega)] at hx
      exact (zPM_0 (zmf_fm hF g) hs2 hx)
theorem b209l {H0 : zHt} {A : Int × Int} {n : Nat} (h1 : 1 ≤ n) (hn : n ≤ 999999999) (hG : zGood n (zfac n)) (hA : A = (0, zprm n (zfac n))) : ∀ (c k : Nat) (H : zHt), k + c = (zfac n).length → zmf H0 H → H 81 0 = 0 → zLst H 81 8 85 86 (zfac n) → (∀ (i : Nat) (q : Nat × Nat), i < k → (zfac n)[i]? = some q → H 91 i = q.1) → zgo w (d + 5) 209 51 [zR 81, zI n, zR 91, zI (zfac n).length, zI k] [] H (zQI (zPM H0 A)) := by
  intro c
  have h9 := zGood_nine hG (by omega)
  induction c with
  | zero =>
    intro k H hk hF hs hL ht
    refine x209_51 ⟨fun _ => b209c h1 hn hG (zfac n) [] H hF hs (fun i q hq => ht i q (by have := zget_lt hq; omega) hq) rfl hA, fun q => by omega⟩
  | succ c ih =>
    intro k H hk hF hs hL ht
    refine x209_51 ⟨fun q => by omega, fun _ => ⟨by omega, ?_⟩⟩
    rw [zi1 (by omega)]
    refine ih (k + 1) _ (by omega) (zmf_up hF rfl (by omega)) (by rw [zq_ne (by omega)]; exact hs) ?_ (fun i q hi hq => ?_)
    · refine ⟨by rw [zq_ne (by omega)]; exact hL.1, fun i q hq => ?_⟩
      rw [zq_ne (by omega), zq_ne (by omega)]; exact hL.2 i q hq
    · by_cases z : i = k
      · subst z; rw [zq_eq]; exact (hL.2 i q hq).1
      · rw [zq_ne (by omega)]; exact ht i q (by omega) hq
theorem b209 {v : Int} : zclI w (d + 6) 209 [zR 81, zI v] H (zPM H (zAprm v)) := by
  unfold zAprm
  by_cases hg : 1 ≤ v ∧ v ≤ 999999999
  · rw [if_pos hg]
    obtain ⟨n, rfl⟩ : ∃ n : Nat, v = n := ⟨v.toNat, by omega⟩
    obtain ⟨H1, g, e⟩ := c186 (w := w) (d := d + 2) (H := zst H 0) (n := n) (law := 0) (by omega) (by omega)
    obtain ⟨H2, F, e2⟩ := c177 (w := w) (H := H1) (d := d + 5) (n := n) (by omega) (by omega)
    have hk : 0 ≤ zkind2 0 n ∧ zkind2 0 n ≤ 2 := by unfold zkind2; split <;> (try split) <;> omega
    have hs1 : H1 81 0 = 0 := by rw [g 81 0 (by decide) (by decide) (by decide)]; rfl
    have hs2 : H2 81 0 = 0 := by rw [F.1 81 0 (by decide) (by decide) (by decide)]; exact hs1
    refine x209_0 ?_
    simp only [c176, c173, c201, c174_0, c174_1, c174_2, c174_3, c174_4, c174_5, zit0, z10a, z10b, Classical.not_not, not_true_eq_false, false_implies, true_implies, true_and, and_true]
    refine ⟨fun q => absurd hg q, fun _ => ?_⟩
    rw [e, Int.toNat_natCast]
    refine ⟨fun q => ?_, fun q => zPM_0 (zmf_fm (zst_f zmf_rfl) g) hs1 (by rw [if_neg (by omega)])⟩
    rw [e2, F.2.2.1]
    exact b209l (d := d + 1) (by omega) (by omega) F.2.1 (by rw [if_pos (by omega)]) (zfac n).length 0 H2 (by omega) (zmf_fm (zmf_fm (zst_f zmf_rfl) g) F.1) hs2 F.2.2 (fun i q hi => by omega)
  · have eA : (1, -1) = ((1 : Int), (-1 : Int)) := rfl
    rw [if_neg hg]
    refine x209_0 ?_
    simp only [c176, c173, c201, c174_0, c174_1, c174_2, c174_3, c174_4, c174_5, zit0, z10a, z10b, Classical.not_not, not_true_eq_false, false_implies, true_implies, true_and, and_true]
    repeat' (first | exact zPM_n zmf_rfl eA | omega | intro _ | with_reducible refine And.intro ?_ ?_)
-- mates
theorem c142 {n : Nat} (hMR : zMR) (h1 : 1 ≤ n) (hn : n ≤ 999999999) (hl : 0 ≤ H 40 4 ∧ H 40 4 ≤ 3) : ∃ H', zfc H H' ∧ ∀ K : Int → zHt → Prop, zclI w (d + 5) 142 [zR 32, zI n] H K = K (zmate (H 40 4) n) H' := by
  obtain ⟨H1, g, e⟩ := c52 (w := w) (d := d) (H := H) (n := n) hMR h1 hn hl
  have el : H1 40 4 = H 40 4 := g 40 4 (by decide) (by decide) (by decide)
  unfold zmate
  by_cases q1 : zsum (H 40 4) n ≤ n
  · refine ⟨H1, g, fun K => zclI_eq fun K h => x142_0 ?_⟩
    rw [if_pos q1] at h
    rw [e]
    exact ⟨fun _ => h, fun q => by omega⟩
  · by_cases q2 : 999999999 < zsum (H 40 4) n
    · refine ⟨H1, g, fun K => zclI_eq fun K h => x142_0 ?_⟩
      rw [if_neg q1, if_pos q2] at h
      rw [e]
      exact ⟨fun _ => h, fun q => ⟨fun q3 => by omega, fun _ => h⟩⟩
    · obtain ⟨H2, g2, e2⟩ := c52 (w := w) (d := d) (H := H1) (n := (zsum (H 40 4) n).toNat) hMR (by omega) (by omega) (by rw [el]; exact hl)
      refine ⟨H2, fun a j z1 z2 z3 => (g2 a j z1 z2 z3).trans (g a j z1 z2 z3), fun K => zclI_eq fun K h => x142_0 ?_⟩
      rw [if_neg q1, if_neg q2] at h
      have ew : w32 (zsum (H 40 4) n) = (((zsum (H 40 4) n).toNat : Nat) : Int) := by rw [w32_id (by omega)]; omega
      rw [e]
      refine ⟨fun q => absurd q q1, fun _ => ⟨fun _ => ?_, fun q => absurd q q2⟩⟩
      rw [ew, e2, el]
      refine ⟨fun q => by rwa [if_neg q] at h, fun q => ?_⟩
      rw [if_pos q] at h
      rw [Int.toNat_of_nonneg (by omega)]; exact h
theorem b141l {H0 : zHt} {b k t : Int} {A : Int × Int} (hMR : zMR) (hD : zDk H0) (hb : b ≤ 999999999) : ∀ (c m f : Nat) (H : zHt), zcf H0 H → (m : Int) + c = b + 1 → 1 ≤ m → f + c ≤ 3000 → zsk (zPmate (H0 40 4)) (fun m => (0, if t = 0 then (m : Int) else zmate (H0 40 4) m)) (zfin k) k c m f = A → zgo w (d + 6) 141 37 [zR 32, zJ, zI b, zI k, zI t, zI f, zI m, zJ] [] H (zQI (zPC H0 A)) := by
  intro c
  induction c with
  | zero =>
    intro m f H hF hm m1 hf hA
    exact x141_37 ⟨fun _ => zPC_82 hF hA.symm, fun q => by omega⟩
  | succ c ih =>
    intro m f H hF hm m1 hf hA
    have el : H 40 4 = H0 40 4 := zcf_at hF rfl
    obtain ⟨H1, g, e⟩ := c142 (w := w) (d := d) (H := H) (n := m) hMR (by omega) (by omega) (by rw [el]; exact hD.1)
    refine x141_37 ⟨fun q => by omega, fun _ => ?_⟩
    rw [e, zi1 (by omega), zi1 (by omega), el]
    refine ⟨fun q2 => ⟨fun q3 => ?_, fun q3 => ?_⟩, fun q2 => ?_⟩
    · rw [zsk_t (decide_eq_true q2) q3] at hA
      exact ih (m + 1) (f + 1) H1 (zcf_fc hF g) (by omega) (by omega) (by omega) hA
    · rw [zsk_h (decide_eq_true q2) q3] at hA
      refine ⟨fun q4 => ?_, fun q4 => ?_⟩
      · rw [if_neg q4] at hA; exact zPC_d (zcf_fc hF g) hA.symm
      · rw [if_pos q4] at hA; exact zPC_d (zcf_fc hF g) hA.symm
    · rw [zsk_f (decide_eq_false (fun z => z q2))] at hA
      exact ih (m + 1) f H1 (zcf_fc hF g) (by omega) (by omega) (by omega) hA
theorem b141 {a b k t : Int} (hMR : zMR) (hD : zDk H) : zclI w (d + 6) 141 [zR 32, zI a, zI b, zI k, zI t] H (zPC H (zAmat (H 40 4) a b k t)) := by
  unfold zAmat
  by_cases hg : ((1 ≤ a ∧ a ≤ 999999999) ∧ (1 ≤ b ∧ b ≤ 999999999) ∧ a ≤ b ∧ b - a ≤ 500) ∧ -1 ≤ k ∧ 0 ≤ t ∧ t ≤ 1
  · rw [if_pos hg]
    obtain ⟨m, rfl⟩ : ∃ m : Nat, a = m := ⟨a.toNat, by omega⟩
    refine x141_0 ?_
    simp only [c43, c44, c81, zit0, Classical.not_not]
    repeat' (first | omega | intro _ | with_reducible refine And.intro ?_ ?_)
    exact b141l hMR hD (by omega) (b + 1 - m).toNat m 0 H zcf_rfl (by omega) (by omega) (by omega) rfl
  · have eA : (1, -1) = ((1 : Int), (-1 : Int)) := rfl
    rw [if_neg hg]
    refine x141_0 ?_
    simp only [c43, c44, c81, zit0, Classical.not_not]
    repeat' (first | exact zPC_r zcf_rfl eA | omega | intro _ | with_reducible refine And.intro ?_ ?_)
theorem b252l {H0 : zHt} {law b k t : Int} {A : Int × Int} (hb : b ≤ 999999999) : ∀ (c m f : Nat) (H : zHt), zmf H0 H → H 81 0 = 0 → H 82 9 = law → (m : Int) + c = b + 1 → 1 ≤ m → f + c ≤ 3000 → zsk (zPmate law) (fun m => (0, if t = 0 then (m : Int) else zmate law m)) (zfin k) k c m f = A → zgo w (d + 5) 252 47 [zR 81, zJ, zI b, zI k, zI t, zI f, zI m, zJ, zJ] [] H (zQI (zPM H0 A)) := by
  intro c
  induction c with
  | zero =>
    intro m f H hF hs el hm m1 hf hA
    refine x252_47 ⟨fun _ => ⟨fun q => zPM_r hF ?_, fun q => (zPM_0 hF hs ?_)⟩, fun q => by omega⟩
    · rw [← hA]; exact if_neg q
    · rw [← hA]; exact if_pos q
  | succ c ih =>
    intro m f H hF hs el hm m1 hf hA
    obtain ⟨H1, g, e⟩ := c180 (w := w) (d := d + 1) (H := H) (n := m) (by omega) (by omega)
    have hs1 : H1 81 0 = 0 := by rw [g 81 0 (by decide) (by decide) (by decide)]; exact hs
    have el1 : H1 82 9 = law := by rw [g 82 9 (by decide) (by decide) (by decide)]; exact el
    refine x252_47 ⟨fun q => by omega, fun _ => ?_⟩
    rw [e, zi1 (by omega), el]
    have no : zmate law m = -1 → ∀ H2, zmf H0 H2 → H2 81 0 = 0 → H2 82 9 = law → zgo w (d + 5) 252 47 [zR 81, zJ, zI b, zI k, zI t, zI f, zI ((m + 1 : Nat) : Int), zJ, zJ] [] H2 (zQI (zPM H0 A)) := fun z H2 z1 z2 z3 => by
      rw [zsk_f (decide_eq_false (fun y => y z))] at hA
      exact ih (m + 1) f H2 z1 z2 z3 (by omega) (by omega) (by omega) hA
    refine ⟨fun q1 => no (by unfold zmate; rw [if_pos q1]) H1 (zmf_fm hF g) hs1 el1, fun q1 => ⟨fun q2 => no (by unfold zmate; rw [if_neg (by omega), if_pos q2]) H1 (zmf_fm hF g) hs1 el1, fun q2 => ?_⟩⟩
    obtain ⟨H2, g2, e2⟩ := c180 (w := w) (d := d + 1) (H := H1) (n := (zsum law m).toNat) (by omega) (by omega)
    have hs2 : H2 81 0 = 0 := by rw [g2 81 0 (by decide) (by decide) (by decide)]; exact hs1
    have el2 : H2 82 9 = law := by rw [g2 82 9 (by decide) (by decide) (by decide)]; exact el1
    have ew : w32 (zsum law m) = (((zsum law m).toNat : Nat) : Int) := by rw [w32_id (by omega)]; omega
    rw [ew, e2, el1]
    refine ⟨fun q3 => ?_, fun q3 => no (by unfold zmate; rw [if_neg (by omega), if_neg (by omega), if_neg q3]) H2 (zmf_fm (zmf_fm hF g) g2) hs2 el2⟩
    have ev : zmate law m = zsum law m := by unfold zmate; rw [if_neg (by omega), if_neg (by omega), if_pos q3]
    refine ⟨fun q4 => ?_, fun q4 => ?_⟩
    · rw [zsk_t (decide_eq_true (by rw [ev]; omega)) q4] at hA
      rw [zi1 (by omega)]
      exact ih (m + 1) (f + 1) H2 (zmf_fm (zmf_fm hF g) g2) hs2 el2 (by omega) (by omega) (by omega) hA
    · rw [zsk_h (decide_eq_true (by rw [ev]; omega)) q4] at hA
      refine ⟨fun q5 => ?_, fun q5 => ?_⟩
      · rw [if_neg q5, ev] at hA
        refine (zPM_0 (zmf_fm (zmf_fm hF g) g2) hs2 ?_)
        rw [← hA, Int.toNat_of_nonneg (by omega)]
      · rw [if_pos q5] at hA
        exact (zPM_0 (zmf_fm (zmf_fm hF g) g2) hs2 hA.symm)
theorem b252 {a b k t : Int} (hD : zDk H) : zclI w (d + 5) 252 [zR 81, zI a, zI b, zI k, zI t] H (zPM H (zAmat (H 40 4) a b k t)) := by
  unfold zAmat
  by_cases hg : ((1 ≤ a ∧ a ≤ 999999999) ∧ (1 ≤ b ∧ b ≤ 999999999) ∧ a ≤ b ∧ b - a ≤ 500) ∧ -1 ≤ k ∧ 0 ≤ t ∧ t ≤ 1
  · rw [if_pos hg]
    obtain ⟨m, rfl⟩ : ∃ m : Nat, a = m := ⟨a.toNat, by omega⟩
    refine x252_0 ?_
    simp only [c176, c173, c201, c174_0, c174_1, c174_2, c174_3, c174_4, c174_5, zit0, z10a, z10b, Classical.not_not, not_true_eq_false, false_implies, true_implies, true_and, and_true]
    repeat' (first | omega | intro _ | with_reducible refine And.intro ?_ ?_)
    exact b252l (by omega) (b + 1 - m).toNat m 0 (zst H 0) (zst_f zmf_rfl) rfl ((zst_at (by decide)).trans hD.2.1) (by omega) (by omega) (by omega) rfl
  · have eA : (1, -1) = ((1 : Int), (-1 : Int)) := rfl
    rw [if_neg hg]
    refine x252_0 ?_
    simp only [c176, c173, c201, c174_0, c174_1, c174_2, c174_3, c174_4, c174_5, zit0, z10a, z10b, Classical.not_not, not_true_eq_false, false_implies, true_implies, true_and, and_true]
    repeat' (first | exact zPM_n zmf_rfl eA | omega | intro _ | with_reducible refine And.intro ?_ ?_)
-- rings
theorem c144l {law : Int} {n : Nat} {L : Int} {H0 : zHt} (hMR : zMR) (hn : n ≤ 999999999) (hl : 0 ≤ law ∧ law ≤ 3) : ∀ (c i v : Nat) (H : zHt), zcf H0 H → H 40 4 = law → (i : Int) + c = L → i + c ≤ 100 → c ≤ 100 → 1 ≤ v → v ≤ 999999999 → zgo w (d + 5) 144 5 [zR 32, zI n, zI L, zI v, zI i, zJ, zJ] [] H (zQI fun x H' => x = zrng law n c v ∧ zcf H0 H') := by
  intro c
  induction c with
  | zero =>
    intro i v H hF el hi hi2 hc v1 v9
    obtain ⟨H1, g, e⟩ := c52 (w := w) (d := d) (H := H) (n := v) hMR v1 v9 (by rw [el]; exact hl)
    unfold zrng
    refine x144_5 ⟨fun _ => ?_, fun q => by omega⟩
    rw [e, el]
    exact ⟨fun q => ⟨by rw [if_neg q], zcf_fc hF g⟩, fun q => ⟨by rw [if_pos q], zcf_fc hF g⟩⟩
  | succ c ih =>
    intro i v H hF el hi hi2 hc v1 v9
    obtain ⟨H1, g, e⟩ := c52 (w := w) (d := d) (H := H) (n := v) hMR v1 v9 (by rw [el]; exact hl)
    unfold zrng
    refine x144_5 ⟨fun q => by omega, fun _ => ?_⟩
    rw [e, el, zi1 (by omega)]
    refine ⟨fun q => ⟨by rw [if_pos q], zcf_fc hF g⟩, fun q => ⟨fun q2 => ?_, fun q2 => ⟨by rw [if_neg (by omega), if_pos q2], zcf_fc hF g⟩⟩⟩
    rw [if_neg (by omega), if_neg (by omega)]
    have ew : w32 (zsum law v) = (((zsum law v).toNat : Nat) : Int) := by rw [w32_id (by omega)]; omega
    rw [ew]
    exact ih (i + 1) (zsum law v).toNat H1 (zcf_fc hF g) (by rw [g 40 4 (by decide) (by decide) (by decide)]; exact el) (by omega) (by omega) (by omega) (by omega) (by omega)
theorem zrng_01 {law : Int} {n : Nat} : ∀ {c v : Nat}, zrng law n c v = 0 ∨ zrng law n c v = 1
  | 0, v => by
    unfold zrng
    split
    · exact Or.inr rfl
    · exact Or.inl rfl
  | c + 1, v => by
    unfold zrng
    split
    · exact Or.inl rfl
    · split
      · exact Or.inl rfl
      · exact zrng_01
theorem b143l {H0 : zHt} {b k : Int} {L : Nat} {A : Int × Int} (hMR : zMR) (hD : zDk H0) (hb : b ≤ 999999999) (hL : 1 ≤ L ∧ L ≤ 30) : ∀ (c m f : Nat) (H : zHt), zcf H0 H → (m : Int) + c = b + 1 → 1 ≤ m → f + c ≤ 3000 → zsk (zPrng (H0 40 4) L) zhit (zfin k) k c m f = A → zgo w (d + 6) 143 39 [zR 32, zJ, zI b, zI L, zI k, zI f, zI m] [] H (zQI (zPC H0 A)) := by
  intro c
  induction c with
  | zero =>
    intro m f H hF hm m1 hf hA
    exact x143_39 ⟨fun _ => zPC_82 hF hA.symm, fun q => by omega⟩
  | succ c ih =>
    intro m f H hF hm m1 hf hA
    refine x143_39 ⟨fun q => by omega, fun _ => ?_⟩
    refine zclI_mono (x144_0 (c144l (d := d) (law := H0 40 4) (H0 := H) (n := m) (L := L) hMR (by omega) hD.1 (L - 1) 1 m H zcf_rfl (zcf_at hF rfl) (by omega) (by omega) (by omega) m1 (by omega))) (fun x H1 h => ?_)
    obtain ⟨ex, hF1⟩ := h
    have hF1 := zcf_tr hF hF1
    rw [ex, zi1 (by omega), zi1 (by omega)]
    refine ⟨fun q2 => ⟨fun q3 => ?_, fun q3 => ?_⟩, fun q2 => ?_⟩
    · rw [zsk_t (decide_eq_true q2) q3] at hA
      exact ih (m + 1) (f + 1) H1 hF1 (by omega) (by omega) (by omega) hA
    · rw [zsk_h (decide_eq_true q2) q3] at hA
      exact zPC_d hF1 hA.symm
    · rw [zsk_f (decide_eq_false (fun z => z q2))] at hA
      exact ih (m + 1) f H1 hF1 (by omega) (by omega) (by omega) hA
theorem b143 {a b L k : Int} (hMR : zMR) (hD : zDk H) : zclI w (d + 6) 143 [zR 32, zI a, zI b, zI L, zI k] H (zPC H (zArng (H 40 4) a b L k)) := by
  unfold zArng
  by_cases hg : ((1 ≤ a ∧ a ≤ 999999999) ∧ (1 ≤ b ∧ b ≤ 999999999) ∧ a ≤ b ∧ b - a ≤ 50) ∧ 1 ≤ L ∧ L ≤ 30 ∧ -1 ≤ k
  · rw [if_pos hg]
    obtain ⟨m, rfl⟩ : ∃ m : Nat, a = m := ⟨a.toNat, by omega⟩
    obtain ⟨L, rfl⟩ : ∃ m : Nat, L = m := ⟨L.toNat, by omega⟩
    refine x143_0 ?_
    simp only [c43, c44, c81, zit0, Classical.not_not]
    repeat' (first | omega | intro _ | with_reducible refine And.intro ?_ ?_)
    exact b143l hMR hD (by omega) (by omega) (b + 1 - m).toNat m 0 H zcf_rfl (by omega) (by omega) (by omega) rfl
  · have eA : (1, -1) = ((1 : Int), (-1 : Int)) := rfl
    rw [if_neg hg]
    refine x143_0 ?_
    simp only [c43, c44, c81, zit0, Classical.not_not]
    repeat' (first | exact zPC_r zcf_rfl eA | omega | intro _ | with_reducible refine And.intro ?_ ?_)
theorem c254l {law : Int} {n : Nat} {L : Int} {H0 : zHt} (h1 : 1 ≤ n) (hn : n ≤ 999999999) : ∀ (c i v : Nat) (H : zHt), zmf H0 H → H 81 0 = H0 81 0 → H 82 9 = law → (i : Int) + c = L → i + c ≤ 100 → c ≤ 100 → 1 ≤ v → v ≤ 999999999 → zgo w (d + 5) 254 6 [zR 81, zI n, zI L, zL v, zJ, zI i] [] H (zQI fun x H' => x = zrng law n c v ∧ zmf H0 H' ∧ H' 81 0 = H0 81 0) := by
  intro c
  induction c with
  | zero =>
    intro i v H hF hs el hi hi2 hc v1 v9
    obtain ⟨H1, g, e⟩ := c180 (w := w) (d := d + 1) (H := H) (n := v) v1 v9
    have hs1 : H1 81 0 = H0 81 0 := by rw [g 81 0 (by decide) (by decide) (by decide)]; exact hs
    unfold zrng
    have ew : w32 (v : Int) = (v : Int) := w32_id (by omega)
    refine x254_6 ⟨fun q => by omega, fun _ => ?_⟩
    rw [ew, e, el, zi1 (by omega)]
    refine ⟨fun _ => ⟨fun q => ⟨by rw [if_neg (by omega)], zmf_fm hF g, hs1⟩, fun q => ⟨fun q2 => ?_, fun q2 => ⟨by rw [if_neg (by omega)], zmf_fm hF g, hs1⟩⟩⟩, fun q => by omega⟩
    exact x254_6 ⟨fun _ => ⟨fun q3 => ⟨by rw [if_neg q3], zmf_fm hF g, hs1⟩, fun q3 => ⟨by rw [if_pos q3], zmf_fm hF g, hs1⟩⟩, fun q3 => by omega⟩
  | succ c ih =>
    intro i v H hF hs el hi hi2 hc v1 v9
    obtain ⟨H1, g, e⟩ := c180 (w := w) (d := d + 1) (H := H) (n := v) v1 v9
    have hs1 : H1 81 0 = H0 81 0 := by rw [g 81 0 (by decide) (by decide) (by decide)]; exact hs
    unfold zrng
    have ew : w32 (v : Int) = (v : Int) := w32_id (by omega)
    refine x254_6 ⟨fun q => by omega, fun _ => ?_⟩
    rw [ew, e, el, zi1 (by omega)]
    refine ⟨fun q => by omega, fun _ => ⟨fun q => ⟨by rw [if_pos q], zmf_fm hF g, hs1⟩, fun q => ⟨fun q2 => by omega, fun q2 => ⟨fun q3 => ?_, fun q3 => ⟨by rw [if_neg (by omega), if_pos q3], zmf_fm hF g, hs1⟩⟩⟩⟩⟩
    rw [if_neg (by omega), if_neg (by omega)]
    have := ih (i + 1) (zsum law v).toNat H1 (zmf_fm hF g) hs1 (by rw [g 82 9 (by decide) (by decide) (by decide)]; exact el) (by omega) (by omega) (by omega) (by omega) (by omega)
    rw [Int.toNat_of_nonneg (by omega)] at this
    exact this
theorem b253l {H0 : zHt} {law b k : Int} {L : Nat} {A : Int × Int} (hb : b ≤ 999999999) (hL : 1 ≤ L ∧ L ≤ 30) : ∀ (c m f : Nat) (H : zHt), zmf H0 H → H 81 0 = 0 → H 82 9 = law → (m : Int) + c = b + 1 → 1 ≤ m → f + c ≤ 3000 → zsk (zPrng law L) zhit (zfin k) k c m f = A → zgo w (d + 6) 253 48 [zR 81, zJ, zI b, zI L, zI k, zI f, zI m] [] H (zQI (zPM H0 A)) := by
  intro c
  induction c with
  | zero =>
    intro m f H hF hs el hm m1 hf hA
    refine x253_48 ⟨fun _ => ⟨fun q => zPM_r hF ?_, fun q => (zPM_0 hF hs ?_)⟩, fun q => by omega⟩
    · rw [← hA]; exact if_neg q
    · rw [← hA]; exact if_pos q
  | succ c ih =>
    intro m f H hF hs el hm m1 hf hA
    refine x253_48 ⟨fun q => by omega, fun _ => ?_⟩
    refine zclI_mono (x254_0 (c254l (d := d) (law := law) (H0 := H) (n := m) (L := L) m1 (by omega) (L - 1) 1 m H zmf_rfl rfl el (by omega) (by omega) (by omega) m1 (by omega))) (fun x H1 h => ?_)
    obtain ⟨ex, hF1, hs1⟩ := h
    have el1 : H1 82 9 = law := (zmf_at hF1 rfl).trans el
    have hs1 : H1 81 0 = 0 := hs1.trans hs
    have hF1 := zmf_tr hF hF1
    rw [ex, zi1 (by omega), zi1 (by omega)]
    refine ⟨fun q2 => ⟨fun q3 => ?_, fun q3 => ?_⟩, fun q2 => ?_⟩
    · rw [zsk_t (decide_eq_true q2) q3] at hA
      exact ih (m + 1) (f + 1) H1 hF1 hs1 el1 (by omega) (by omega) (by omega) hA
    · rw [zsk_h (decide_eq_true q2) q3] at hA
      exact (zPM_0 hF1 hs1 hA.symm)
    · rw [zsk_f (decide_eq_false (fun z => z q2))] at hA
      exact ih (m + 1) f H1 hF1 hs1 el1 (by omega) (by omega) (by omega) hA
theorem b253 {a b L k : Int} (hD : zDk H) : zclI w (d + 6) 253 [zR 81, zI a, zI b, zI L, zI k] H (zPM H (zArng (H 40 4) a b L k)) := by
  unfold zArng
  by_cases hg : ((1 ≤ a ∧ a ≤ 999999999) ∧ (1 ≤ b ∧ b ≤ 999999999) ∧ a ≤ b ∧ b - a ≤ 50) ∧ 1 ≤ L ∧ L ≤ 30 ∧ -1 ≤ k
  · rw [if_pos hg]
    obtain ⟨m, rfl⟩ : ∃ m : Nat, a = m := ⟨a.toNat, by omega⟩
    obtain ⟨L, rfl⟩ : ∃ m : Nat, L = m := ⟨L.toNat, by omega⟩
    refine x253_0 ?_
    simp only [c176, c173, c201, c174_0, c174_1, c174_2, c174_3, c174_4, c174_5, zit0, z10a, z10b, Classical.not_not, not_true_eq_false, false_implies, true_implies, true_and, and_true]
    repeat' (first | omega | intro _ | with_reducible refine And.intro ?_ ?_)
    exact b253l (by omega) (by omega) (b + 1 - m).toNat m 0 (zst H 0) (zst_f zmf_rfl) rfl ((zst_at (by decide)).trans hD.2.1) (by omega) (by omega) (by omega) rfl
  · have eA : (1, -1) = ((1 : Int), (-1 : Int)) := rfl
    rw [if_neg hg]
    refine x253_0 ?_
    simp only [c176, c173, c201, c174_0, c174_1, c174_2, c174_3, c174_4, c174_5, zit0, z10a, z10b, Classical.not_not, not_true_eq_false, false_implies, true_implies, true_and, and_true]
    repeat' (first | exact zPM_n zmf_rfl eA | omega | intro _ | with_reducible refine And.intro ?_ ?_)
end Z43
theorem l899 {w : zWt} (hw : w.1 ≤ 3072) (hMR : zMR) : zLaw w (zKept zAllR) 899 := fun H i hi hR K nx => x0_899 (d := 1999) (by
  refine ⟨zidx hw hi (by decide) (by decide), zidx hw hi (by decide) (by decide), ?_⟩
  have r1 : r32 (zH0 w.2 0 (w32 ((i : Int) + 1))) := zv_r
  generalize zH0 w.2 0 (w32 ((i : Int) + 1)) = v1 at r1 ⊢
  have r2 : r32 (zH0 w.2 0 (w32 ((i : Int) + 2))) := zv_r
  generalize zH0 w.2 0 (w32 ((i : Int) + 2)) = v2 at r2 ⊢
  exact zcaseI (A := fun H => zAlad v1 v2) (fun H H1 h => by simp only [h 40 4 rfl, h 40 1 rfl, h 40 2 rfl, h 40 3 rfl]) hR (fun hD hW => b93 (d := 1995) hMR) (fun H1 hD => b215 (d := 1995)) (fun x y H' hk e => nx H' hk))
theorem l1035 {w : zWt} (hw : w.1 ≤ 3072) (hMR : zMR) : zLaw w (zKept zAllR) 1035 := fun H i hi hR K nx => x0_1035 (d := 1999) (by
  refine ⟨zidx hw hi (by decide) (by decide), ?_⟩
  have r1 : r32 (zH0 w.2 0 (w32 ((i : Int) + 1))) := zv_r
  generalize zH0 w.2 0 (w32 ((i : Int) + 1)) = v1 at r1 ⊢
  exact zcaseI (A := fun H => zAprm v1) (fun H H1 h => by simp only [h 40 4 rfl, h 40 1 rfl, h 40 2 rfl, h 40 3 rfl]) hR (fun hD hW => b97 (d := 1993) hMR) (fun H1 hD => b209 (d := 1993)) (fun x y H' hk e => nx H' hk))
theorem l1706 {w : zWt} (hw : w.1 ≤ 3072) (hMR : zMR) : zLaw w (zKept zAllR) 1706 := fun H i hi hR K nx => x0_1706 (d := 1999) (by
  refine ⟨zidx hw hi (by decide) (by decide), zidx hw hi (by decide) (by decide), zidx hw hi (by decide) (by decide), zidx hw hi (by decide) (by decide), ?_⟩
  have r1 : r32 (zH0 w.2 0 (w32 ((i : Int) + 1))) := zv_r
  generalize zH0 w.2 0 (w32 ((i : Int) + 1)) = v1 at r1 ⊢
  have r2 : r32 (zH0 w.2 0 (w32 ((i : Int) + 2))) := zv_r
  generalize zH0 w.2 0 (w32 ((i : Int) + 2)) = v2 at r2 ⊢
  have r3 : r32 (zH0 w.2 0 (w32 ((i : Int) + 3))) := zv_r
  generalize zH0 w.2 0 (w32 ((i : Int) + 3)) = v3 at r3 ⊢
  have r4 : r32 (zH0 w.2 0 (w32 ((i : Int) + 4))) := zv_r
  generalize zH0 w.2 0 (w32 ((i : Int) + 4)) = v4 at r4 ⊢
  exact zcaseI (A := fun H => zAmat (H 40 4) v1 v2 v3 v4) (fun H H1 h => by simp only [h 40 4 rfl, h 40 1 rfl, h 40 2 rfl, h 40 3 rfl]) hR (fun hD hW => b141 (d := 1993) hMR hD) (fun H1 hD => b252 (d := 1994) hD) (fun x y H' hk e => nx H' hk))
theorem l1759 {w : zWt} (hw : w.1 ≤ 3072) (hMR : zMR) : zLaw w (zKept zAllR) 1759 := fun H i hi hR K nx => x0_1759 (d := 1999) (by
  refine ⟨zidx hw hi (by decide) (by decide), zidx hw hi (by decide) (by decide), zidx hw hi (by decide) (by decide), zidx hw hi (by decide) (by decide), ?_⟩
  have r1 : r32 (zH0 w.2 0 (w32 ((i : Int) + 1))) := zv_r
  generalize zH0 w.2 0 (w32 ((i : Int) + 1)) = v1 at r1 ⊢
  have r2 : r32 (zH0 w.2 0 (w32 ((i : Int) + 2))) := zv_r
  generalize zH0 w.2 0 (w32 ((i : Int) + 2)) = v2 at r2 ⊢
  have r3 : r32 (zH0 w.2 0 (w32 ((i : Int) + 3))) := zv_r
  generalize zH0 w.2 0 (w32 ((i : Int) + 3)) = v3 at r3 ⊢
  have r4 : r32 (zH0 w.2 0 (w32 ((i : Int) + 4))) := zv_r
  generalize zH0 w.2 0 (w32 ((i : Int) + 4)) = v4 at r4 ⊢
  exact zcaseI (A := fun H => zArng (H 40 4) v1 v2 v3 v4) (fun H H1 h => by simp only [h 40 4 rfl, h 40 1 rfl, h 40 2 rfl, h 40 3 rfl]) hR (fun hD hW => b143 (d := 1993) hMR hD) (fun H1 hD => b253 (d := 1993) hD) (fun x y H' hk e => nx H' hk))
