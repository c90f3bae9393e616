/-! the cases index, mean, kin, before, touched, record, practical -/
theorem zsk_f {P : Nat → Bool} {hit fin : Nat → Int × Int} {k : Int} {n m f : Nat} (h : P m = false) : zsk P hit fin k (n + 1) m f = zsk P hit fin k n (m + 1) f := by
  show (if P m = true then _ else _) = _
  rw [h]; rfl
theorem zsk_t {P : Nat → Bool} {hit fin : Nat → Int × Int} {k : Int} {n m f : Nat} (h : P m = true) (hk : ¬ (f : Int) = k) : zsk P hit fin k (n + 1) m f = zsk P hit fin k n (m + 1) (f + 1) := by
  show (if P m = true then _ else _) = _
  rw [if_pos h, if_neg hk]
theorem zsk_h {P : Nat → Bool} {hit fin : Nat → Int × Int} {k : Int} {n m f : Nat} (h : P m = true) (hk : (f : Int) = k) : zsk P hit fin k (n + 1) m f = hit m := by
  show (if P m = true then _ else _) = _
  rw [if_pos h, if_pos hk]
def zhit (m : Nat) : Int × Int := (0, (m : Int))
def zfin (k : Int) (f : Nat) : Int × Int := if k = -1 then (0, (f : Int)) else (5, -1)
theorem zsk_or {P : Nat → Bool} {k : Int} : ∀ {n m f : Nat}, (∃ r : Nat, zsk P zhit (zfin k) k n m f = (0, (r : Int))) ∨ zsk P zhit (zfin k) k n m f = (5, -1)
  | 0, m, f => by
    show (∃ r : Nat, zfin k f = (0, (r : Int))) ∨ zfin k f = (5, -1)
    unfold zfin
    by_cases h : k = -1
    · rw [if_pos h]; exact Or.inl ⟨f, rfl⟩
    · rw [if_neg h]; exact Or.inr rfl
  | n + 1, m, f => by
    cases hp : P m with
    | false => rw [zsk_f hp]; exact zsk_or
    | true =>
      by_cases hk : (f : Int) = k
      · rw [zsk_h hp hk]; exact Or.inl ⟨m, rfl⟩
      · rw [zsk_t hp hk]; exact zsk_or
noncomputable def zlwt (a b t : Int) : Int := w64 (Int.tdiv (if t = 0 then a else b) (Nat.gcd a.toNat b.toNat))
noncomputable def zAidx (v t : Int) : Int × Int := if (1 ≤ v ∧ v ≤ 999999999) ∧ 0 ≤ t ∧ t ≤ 1 then (0, zlwt (zall (zfac v.toNat)) v t) else (1, -1)
noncomputable def zAmean (v h t : Int) : Int × Int := if (1 ≤ v ∧ v ≤ 999999999) ∧ 0 ≤ t ∧ t ≤ 1 then (0, if h = 0 then zlwt (zall (zfac v.toNat)) (zcnt (zfac v.toNat)) t else zlwt (w64 (v * zcnt (zfac v.toNat))) (zall (zfac v.toNat)) t) else (1, -1)
noncomputable def zPkin (n m : Nat) : Bool := decide (m ≠ n ∧ w64 (zall (zfac m) * n) = w64 (zall (zfac n) * m))
noncomputable def zAkin (v a b k : Int) : Int × Int := if (1 ≤ v ∧ v ≤ 999999999) ∧ ((1 ≤ a ∧ a ≤ 999999999) ∧ (1 ≤ b ∧ b ≤ 999999999) ∧ a ≤ b ∧ b - a ≤ 500) ∧ -1 ≤ k then zsk (zPkin v.toNat) zhit (zfin k) k (b + 1 - a).toNat a.toNat 0 else (1, -1)
noncomputable def zPsum (law v : Int) (m : Nat) : Bool := decide (zsum law m = v)
noncomputable def zAbef (law v m k : Int) : Int × Int := if 0 ≤ v ∧ 1 ≤ m ∧ m ≤ 2000 ∧ 0 ≤ k then zsk (zPsum law v) zhit (zfin k) k m.toNat 1 0 else (1, -1)
noncomputable def zAtou (law v m t : Int) : Int × Int := if 0 ≤ v ∧ 1 ≤ m ∧ m ≤ 2000 ∧ 0 ≤ t ∧ t ≤ 1 then zsk (zPsum law v) zhit (zfin (if t = 0 then -1 else 0)) (if t = 0 then -1 else 0) m.toNat 1 0 else (1, -1)
noncomputable def zrec (k : Int) : Nat → Nat → Int → Nat → Nat → Int × Int
  | 0, _, _, _, f => zfin k f
  | c + 1, m, ba, be, f => if w64 (ba * m) < w64 (zall (zfac m) * be) then (if (f : Int) = k then (0, (m : Int)) else zrec k c (m + 1) (zall (zfac m)) m (f + 1)) else zrec k c (m + 1) ba be f
noncomputable def zArec (m k : Int) : Int × Int := if 1 ≤ m ∧ m ≤ 2000 ∧ -1 ≤ k then zrec k m.toNat 1 0 1 0 else (1, -1)
def zpra : List (Nat × Nat) → Int → Int
  | [], _ => 1
  | q :: l, s => if (q.1 : Int) ≤ w64 (s + 1) then zpra l (w64 (s * zofp q.1 q.2)) else 0
noncomputable def zApra (v : Int) : Int × Int := if 1 ≤ v ∧ v ≤ 999999999 then (0, zpra (zfac v.toNat) 1) else (1, -1)
/-- how many divisors -/
def zDn (l : List (Nat × Nat)) : Nat := zPi (fun q => q.2 + 1) l
theorem zDn_b : ∀ {l : List (Nat × Nat)}, (∀ q ∈ l, 1 ≤ q.2 ∧ 2 ≤ q.1) → 1 ≤ zDn l ∧ zDn l ≤ zprod l ∧ zDn l * zDn l ≤ 4 ^ l.length * zprod l
  | [], _ => ⟨Nat.le_refl _, Nat.le_refl _, Nat.le_refl _⟩
  | q :: l, h => by
    obtain ⟨h1, h2⟩ := h q List.mem_cons_self
    obtain ⟨i1, i2, i3⟩ := zDn_b (fun r hr => h r (List.mem_cons_of_mem _ hr))
    have hp : q.2 + 1 ≤ q.1 ^ q.2 := zlt_pow h2
    have sq : ∀ e : Nat, 2 * e + 3 ≤ 4 * 2 ^ e ∧ (e + 1) * (e + 1) ≤ 4 * 2 ^ e := fun e => by
      induction e with
      | zero => exact ⟨by decide, by decide⟩
      | succ e ih =>
        rw [Nat.pow_succ]
        refine ⟨by omega, ?_⟩
        have : (e + 1 + 1) * (e + 1 + 1) = (e + 1) * (e + 1) + (2 * e + 3) := by simp only [Nat.add_mul, Nat.mul_add]; omega
        omega
    have s1 : (q.2 + 1) * (q.2 + 1) ≤ 4 * q.1 ^ q.2 := Nat.le_trans (sq q.2).2 (Nat.mul_le_mul_left 4 (Nat.pow_le_pow_left h2 _))
    have e1 : zDn (q :: l) = (q.2 + 1) * zDn l := rfl
    have e2 : zprod (q :: l) = q.1 ^ q.2 * zprod l := rfl
    rw [e1, e2]
    refine ⟨Nat.mul_pos (by omega) i1, Nat.mul_le_mul hp i2, ?_⟩
    have := Nat.mul_le_mul s1 i3
    rw [List.length_cons, Nat.pow_succ, show (q.2 + 1) * zDn l * ((q.2 + 1) * zDn l) = (q.2 + 1) * (q.2 + 1) * (zDn l * zDn l) by
      rw [Nat.mul_assoc, Nat.mul_assoc, Nat.mul_left_comm (zDn l)]]
    rw [show 4 ^ l.length * 4 * (q.1 ^ q.2 * zprod l) = 4 * q.1 ^ q.2 * (4 ^ l.length * zprod l) by
      rw [Nat.mul_comm (4 ^ l.length) 4, Nat.mul_assoc, Nat.mul_assoc, Nat.mul_left_comm (4 ^ l.length)]]
    exact this
theorem zcnt_b : ∀ {l : List (Nat × Nat)} {s : Nat}, (∀ q ∈ l, 1 ≤ q.2 ∧ 2 ≤ q.1) → s * zDn l ≤ 999999999 → l.foldl (fun s q => w32 (s * w32 ((q.2 : Int) + 1))) (s : Int) = ((s * zDn l : Nat) : Int)
  | [], s, _, _ => by
    show (s : Int) = ((s * 1 : Nat) : Int)
    rw [Nat.mul_one]
  | q :: l, s, h, hb => by
    obtain ⟨i1, -, -⟩ := zDn_b (fun r hr => h r (List.mem_cons_of_mem _ hr))
    rw [show zDn (q :: l) = (q.2 + 1) * zDn l from rfl, ← Nat.mul_assoc] at hb ⊢
    rw [List.foldl_cons]
    rcases Nat.eq_zero_or_pos s with z | z
    · subst z
      have : w32 (((0 : Nat) : Int) * w32 ((q.2 : Int) + 1)) = ((0 : Nat) : Int) := by
        show w32 (0 * _) = 0
        rw [Int.zero_mul]; rfl
      rw [this]
      have ih := zcnt_b (l := l) (s := 0) (fun r hr => h r (List.mem_cons_of_mem _ hr)) (by omega)
      rw [ih]; simp
    · have hb0 : s * (q.2 + 1) ≤ 999999999 := Nat.le_trans (Nat.le_mul_of_pos_right _ i1) hb
      have hq : q.2 + 1 ≤ s * (q.2 + 1) := Nat.le_mul_of_pos_left _ z
      rw [w32_id (show _ ≤ (q.2 : Int) + 1 ∧ _ by omega), show (s : Int) * ((q.2 : Int) + 1) = ((s * (q.2 + 1) : Nat) : Int) by rw [Int.natCast_mul]; rfl, w32_id (by omega)]
      exact zcnt_b (fun r hr => h r (List.mem_cons_of_mem _ hr)) hb
theorem zcnt_n {n : Nat} (hn : n ≤ 999999999) (hG : zGood n (zfac n)) : zcnt (zfac n) = (zDn (zfac n) : Nat) ∧ 1 ≤ zDn (zfac n) ∧ zDn (zfac n) ≤ n ∧ zDn (zfac n) ≤ 20000000 := by
  have hq : ∀ q ∈ zfac n, 1 ≤ q.2 ∧ 2 ≤ q.1 := fun q hq => ⟨(zGood_bd hG hq).2.1, (zGood_bd hG hq).1⟩
  obtain ⟨h1, h2, h3⟩ := zDn_b hq
  rw [hG.2.2] at h2 h3
  have := zcnt_b (l := zfac n) (s := 1) hq (by omega)
  rw [Nat.one_mul] at this
  refine ⟨this, h1, h2, ?_⟩
  have h9 := zGood_nine hG (by omega)
  have h4 : 4 ^ (zfac n).length * n ≤ 4 ^ 9 * 999999999 := Nat.mul_le_mul (Nat.pow_le_pow_right (by decide) h9) hn
  rcases Nat.lt_or_ge 20000000 (zDn (zfac n)) with z | z
  · have := Nat.mul_le_mul (Nat.le_of_lt z) (Nat.le_of_lt z)
    have e : (4 : Nat) ^ 9 * 999999999 < 20000000 * 20000000 := by decide
    omega
  · exact z
section Z41
variable {w : zWt} {d : Nat} {H : zHt}
theorem zmul_b {a b x y : Nat} (ha : a ≤ x) (hb : b ≤ y) (h : x * y < 2 ^ 97 := by decide) : a * b < 2 ^ 97 := Nat.lt_of_le_of_lt (Nat.mul_le_mul ha hb) h
theorem c66p {a b : Nat} {K : Int → zHt → Prop} (h : a * b < 2 ^ 97) : zclL w d 66 [zL a, zL b] H K = K (if ((Nat.gcd a b : Nat) : Int) < 1 then 1 else ((Nat.gcd a b : Nat) : Int)) H := zclL_eq fun K hK => x66_0 (by
  rcases Nat.lt_or_ge a b with q | q
  · refine x66_9 ⟨fun q => by omega, fun _ => ⟨fun q => by omega, fun q2 => ⟨q2, ?_⟩⟩⟩
    rw [ztmod, Nat.mod_eq_of_lt q]
    refine c66l 97 b a 1 (Nat.le_of_lt q) (by rw [Nat.mul_comm]; exact h) (by omega) ?_
    rw [Nat.gcd_comm]; exact hK
  · exact c66l 97 a b 0 q h (by omega) hK)
theorem c77 {a b : Nat} {t : Int} {K : Int → zHt → Prop} (hab : a * b < 2 ^ 97) (h1 : 1 ≤ b) : zclL w (d + 1) 77 [zL a, zL b, zI t] H K = K (zlwt a b t) H := zclL_eq fun K h => x77_0 (by
  have hg : 0 < Nat.gcd a b := Nat.gcd_pos_of_pos_right _ h1
  simp only [c66p hab]
  rw [if_neg (by omega)]
  unfold zlwt at h
  rw [Int.toNat_natCast, Int.toNat_natCast] at h
  exact ⟨fun q => ⟨by omega, by rwa [if_neg q] at h⟩, fun q => ⟨by omega, by rwa [if_pos q] at h⟩⟩)
theorem c198 {a b : Nat} {t : Int} {K : Int → zHt → Prop} (h1 : 1 ≤ b) : zclL w (d + 1) 198 [zL a, zL b, zI t] H K = K (zlwt a b t) H := zclL_eq fun K h => x198_0 (by
  have hg : 0 < Nat.gcd a b := Nat.gcd_pos_of_pos_right _ h1
  rw [c189]
  unfold zlwt at h
  rw [Int.toNat_natCast, Int.toNat_natCast] at h
  exact ⟨fun q => ⟨by omega, by rwa [if_neg q] at h⟩, fun q => ⟨by omega, by rwa [if_pos q] at h⟩⟩)
-- index
theorem b76 {v t : Int} (hMR : zMR) : zclL w (d + 4) 76 [zR 32, zI v, zI t] H (zPC H (zAidx v t)) := by
  unfold zAidx
  by_cases hg : (1 ≤ v ∧ v ≤ 999999999) ∧ 0 ≤ t ∧ t ≤ 1
  · rw [if_pos hg]
    obtain ⟨n, rfl⟩ : ∃ n : Nat, v = n := ⟨v.toNat, by omega⟩
    obtain ⟨H1, f, e⟩ := c69 (w := w) (H := H) (d := d) (n := n) hMR (by omega) (by omega)
    obtain ⟨H2, F, -⟩ := c45 (w := w) (H := H) (d := d) (n := n) hMR (by omega) (by omega)
    obtain ⟨s, es, s1, s2, -⟩ := zall_n (by omega) F.2.1
    have s1' : s ≤ 511999999488 := by omega
    refine x76_0 ?_
    simp only [c43, c44, c81, zit0, Classical.not_not]
    repeat' (first | omega | intro _ | with_reducible refine And.intro ?_ ?_)
    rw [e, es, c77 (zmul_b s1' (show n ≤ 999999999 by omega)) (by omega)]
    exact zPC_dL (zcf_fc zcf_rfl f) (by rw [Int.toNat_natCast, es])
  · have eA : (1, -1) = ((1 : Int), (-1 : Int)) := rfl
    rw [if_neg hg]
    refine x76_0 ?_
    simp only [c43, c44, c81, zit0, Classical.not_not]
    repeat' (first | exact zPC_r zcf_rfl eA | omega | intro _ | with_reducible refine And.intro ?_ ?_)
theorem b197 {v t : Int} : zclL w (d + 4) 197 [zR 81, zI v, zI t] H (zPM H (zAidx v t)) := by
  unfold zAidx
  by_cases hg : (1 ≤ v ∧ v ≤ 999999999) ∧ 0 ≤ t ∧ t ≤ 1
  · rw [if_pos hg]
    obtain ⟨n, rfl⟩ : ∃ n : Nat, v = n := ⟨v.toNat, by omega⟩
    obtain ⟨H1, F, e⟩ := c182 (w := w) (H := zst H 0) (d := d + 2) (n := n) (by omega) (by omega)
    obtain ⟨s, es, s1, s2, -⟩ := zall_n (by omega) F.2.1
    refine x197_0 ?_
    simp only [c176, c173, c201, c174_0, c174_1, c174_2, c174_3, c174_4, c174_5, zit0, z10a, z10b, Classical.not_not, not_true_eq_false, false_implies, true_implies, true_and, and_true]
    repeat' (first | omega | intro _ | with_reducible refine And.intro ?_ ?_)
    rw [e, es, c198 (by omega)]
    refine zPM_0 (zmf_fm (zst_f zmf_rfl) F.1) ?_ (by rw [Int.toNat_natCast, es])
    rw [F.1 81 0 (by decide) (by decide) (by decide)]; rfl
  · have eA : (1, -1) = ((1 : Int), (-1 : Int)) := rfl
    rw [if_neg hg]
    refine x197_0 ?_
    simp only [c176, c173, c201, c174_0, c174_1, c174_2, c174_3, c174_4, c174_5, zit0, z10a, z10b, Classical.not_not, not_true_eq_false, false_implies, true_implies, true_and, and_true]
    repeat' (first | exact zPM_n zmf_rfl eA | omega | intro _ | with_reducible refine And.intro ?_ ?_)
-- mean
theorem b94 {v h t : Int} (hMR : zMR) : zclL w (d + 4) 94 [zR 32, zI v, zI h, zI t] H (zPC H (zAmean v h t)) := by
  unfold zAmean
  by_cases hg : (1 ≤ v ∧ v ≤ 999999999) ∧ 0 ≤ t ∧ t ≤ 1
  · rw [if_pos hg]
    obtain ⟨n, rfl⟩ : ∃ n : Nat, v = n := ⟨v.toNat, by omega⟩
    obtain ⟨H1, f, e⟩ := c69 (w := w) (H := H) (d := d) (n := n) hMR (by omega) (by omega)
    obtain ⟨H2, f2, e2⟩ := c71 (w := w) (H := H1) (d := d) (n := n) hMR (by omega) (by omega)
    obtain ⟨H3, F, -⟩ := c45 (w := w) (H := H) (d := d) (n := n) hMR (by omega) (by omega)
    obtain ⟨s, es, s1, s2, -⟩ := zall_n (by omega) F.2.1
    have s1' : s ≤ 511999999488 := by omega
    obtain ⟨er, r1, r2, r3⟩ := zcnt_n (by omega) F.2.1
    generalize zDn (zfac n) = r at *
    have hm : n * r ≤ 999999999 * 20000000 := Nat.mul_le_mul (by omega) r3
    refine x94_0 ?_
    simp only [c43, c44, c81, zit0, Classical.not_not]
    refine ⟨fun q => absurd hg.1 q, fun _ => ⟨fun _ => ?_, fun q => absurd hg.2 q⟩⟩
    rw [e, e2, es, er]
    have e3 : w64 ((n : Int) * (r : Int)) = ((n * r : Nat) : Int) := by rw [← Int.natCast_mul]; exact w64_id (by omega)
    refine ⟨fun q => ?_, fun q => ?_⟩
    · rw [c77 (zmul_b s1' r3) (by omega)]
      exact zPC_dL (zcf_fc (zcf_fc zcf_rfl f) f2) (by rw [if_pos q, Int.toNat_natCast, es, er])
    · rw [e3, c77 (zmul_b hm s1') (by omega)]
      exact zPC_dL (zcf_fc (zcf_fc zcf_rfl f) f2) (by rw [if_neg q, Int.toNat_natCast, es, er, e3])
  · have eA : (1, -1) = ((1 : Int), (-1 : Int)) := rfl
    rw [if_neg hg]
    refine x94_0 ?_
    simp only [c43, c44, c81, zit0, Classical.not_not]
    repeat' (first | exact zPC_r zcf_rfl eA | omega | intro _ | with_reducible refine And.intro ?_ ?_)
theorem b216 {v h t : Int} : zclL w (d + 4) 216 [zR 81, zI v, zI h, zI t] H (zPM H (zAmean v h t)) := by
  unfold zAmean
  by_cases hg : (1 ≤ v ∧ v ≤ 999999999) ∧ 0 ≤ t ∧ t ≤ 1
  · rw [if_pos hg]
    obtain ⟨n, rfl⟩ : ∃ n : Nat, v = n := ⟨v.toNat, by omega⟩
    obtain ⟨H1, F, e⟩ := c182 (w := w) (H := zst H 0) (d := d + 2) (n := n) (by omega) (by omega)
    obtain ⟨H2, F2, e2⟩ := c193 (w := w) (H := H1) (d := d + 2) (n := n) (by omega) (by omega)
    obtain ⟨s, es, s1, s2, -⟩ := zall_n (by omega) F.2.1
    obtain ⟨er, r1, r2, r3⟩ := zcnt_n (by omega) F.2.1
    generalize zDn (zfac n) = r at *
    have hm : n * r ≤ 999999999 * 20000000 := Nat.mul_le_mul (by omega) r3
    have e3 : w64 ((n : Int) * (r : Int)) = ((n * r : Nat) : Int) := by rw [← Int.natCast_mul]; exact w64_id (by omega)
    have fin : zmf H H2 ∧ H2 81 0 = 0 := ⟨zmf_fm (zmf_fm (zst_f zmf_rfl) F.1) F2.1, by rw [F2.1 81 0 (by decide) (by decide) (by decide), F.1 81 0 (by decide) (by decide) (by decide)]; rfl⟩
    refine x216_0 ?_
    simp only [c176, c173, c201, c174_0, c174_1, c174_2, c174_3, c174_4, c174_5, zit0, z10a, z10b, Classical.not_not, not_true_eq_false, false_implies, true_implies, true_and, and_true]
    repeat' (first | omega | intro _ | with_reducible refine And.intro ?_ ?_)
    refine x216_23 ?_
    simp only [c176, c173, c201, c174_0, c174_1, c174_2, c174_3, c174_4, c174_5, zit0, z10a, z10b, Classical.not_not, not_true_eq_false, false_implies, true_implies, true_and, and_true]
    rw [e, e2, es, er]
    refine ⟨fun q => ?_, fun q => ?_⟩
    · rw [c198 (by omega)]
      exact zPM_0 fin.1 fin.2 (by rw [if_pos q, Int.toNat_natCast, es, er])
    · rw [e3, c198 (by omega)]
      exact zPM_0 fin.1 fin.2 (by rw [if_neg q, Int.toNat_natCast, es, er, e3])
  · have eA : (1, -1) = ((1 : Int), (-1 : Int)) := rfl
    rw [if_neg hg]
    have L : zgo w (d + 4) 216 23 [zR 81, zI v, zI h, zI t, zJ, zJ, zJ, zJ] [zI 1, zR 81] H (zQL (zPM H (1, -1))) := by
      refine x216_23 ?_
      simp only [c176, c173, c201, c174_0, c174_1, c174_2, c174_3, c174_4, c174_5, zit0, z10a, z10b, Classical.not_not, not_true_eq_false, false_implies, true_implies, true_and, and_true]
      exact zPM_n zmf_rfl eA
    refine x216_0 ?_
    simp only [c176, c173, c201, c174_0, c174_1, c174_2, c174_3, c174_4, c174_5, zit0, z10a, z10b, Classical.not_not, not_true_eq_false, false_implies, true_implies, true_and, and_true]
    repeat' (first | exact L | omega | intro _ | with_reducible refine And.intro ?_ ?_)
-- kin
theorem b80l {H0 : zHt} {n : Nat} {b k : Int} {A : Int × Int} (hMR : zMR) (h1 : 1 ≤ n) (hn : n ≤ 999999999) (hb : b ≤ 999999999) : ∀ (c m f : Nat) (H : zHt), zcf H0 H → (m : Int) + c = b + 1 → 1 ≤ m → f + c ≤ 1000 → zsk (zPkin n) zhit (zfin k) k c m f = A → zgo w (d + 4) 80 46 [zR 32, zI n, zJ, zI b, zI k, zL (zall (zfac n)), zJ, zI f, zI m] [] H (zQI (zPC H0 A)) := by
  intro c
  induction c with
  | zero =>
    intro m f H hF hm m1 hf hA
    exact x80_46 ⟨fun _ => zPC_82 hF hA.symm, fun q => by omega⟩
  | succ c ih =>
    intro m f H hF hm m1 hf hA
    refine x80_46 ⟨fun q => by omega, fun _ => ⟨fun q => ?_, fun q => ?_⟩⟩
    · rw [zsk_f (decide_eq_false (fun z => z.1 (by omega)))] at hA
      rw [zi1 (by omega)]
      exact ih (m + 1) f H hF (by omega) (by omega) (by omega) hA
    · obtain ⟨H1, g, e⟩ := c69 (w := w) (d := d) (H := H) (n := m) hMR (by omega) (by omega)
      rw [e, zi1 (by omega), zi1 (by omega)]
      refine ⟨fun q2 => ⟨fun q3 => ?_, fun q3 => ?_⟩, fun q2 => ?_⟩
      · rw [zsk_t (decide_eq_true ⟨by omega, q2⟩) q3] at hA
        exact ih (m + 1) (f + 1) H1 (zcf_fc hF g) (by omega) (by omega) (by omega) hA
      · rw [zsk_h (decide_eq_true ⟨by omega, q2⟩) q3] at hA
        exact zPC_d (zcf_fc hF g) hA.symm
      · rw [zsk_f (decide_eq_false (fun z => q2 z.2))] at hA
        exact ih (m + 1) f H1 (zcf_fc hF g) (by omega) (by omega) (by omega) hA
theorem b80 {v a b k : Int} (hMR : zMR) : zclI w (d + 4) 80 [zR 32, zI v, zI a, zI b, zI k] H (zPC H (zAkin v a b k)) := by
  unfold zAkin
  by_cases hg : (1 ≤ v ∧ v ≤ 999999999) ∧ ((1 ≤ a ∧ a ≤ 999999999) ∧ (1 ≤ b ∧ b ≤ 999999999) ∧ a ≤ b ∧ b - a ≤ 500) ∧ -1 ≤ k
  · rw [if_pos hg]
    obtain ⟨n, rfl⟩ : ∃ n : Nat, v = n := ⟨v.toNat, by omega⟩
    obtain ⟨m, rfl⟩ : ∃ m : Nat, a = m := ⟨a.toNat, by omega⟩
    obtain ⟨H1, f, e⟩ := c69 (w := w) (H := H) (d := d) (n := n) hMR (by omega) (by omega)
    refine x80_0 ?_
    simp only [c43, c44, c81, zit0, Classical.not_not]
    repeat' (first | omega | intro _ | with_reducible refine And.intro ?_ ?_)
    rw [e]
    exact b80l hMR (by omega) (by omega) (by omega) (b + 1 - m).toNat m 0 H1 (zcf_fc zcf_rfl f) (by omega) (by omega) (by omega) rfl
  · have eA : (1, -1) = ((1 : Int), (-1 : Int)) := rfl
    rw [if_neg hg]
    refine x80_0 ?_
    simp only [c43, c44, c81, zit0, Classical.not_not]
    repeat' (first | exact zPC_r zcf_rfl eA | omega | intro _ | with_reducible refine And.intro ?_ ?_)
theorem b200l {H0 : zHt} {n : Nat} {b k : Int} {A : Int × Int} (h1 : 1 ≤ n) (hn : n ≤ 999999999) (hb : b ≤ 999999999) : ∀ (c m f : Nat) (H : zHt), zmf H0 H → H 81 0 = 0 → (m : Int) + c = b + 1 → 1 ≤ m → f + c ≤ 1000 → zsk (zPkin n) zhit (zfin k) k c m f = A → zgo w (d + 4) 200 51 [zR 81, zI n, zJ, zI b, zI k, zL (zall (zfac n)), zJ, zI f, zI m] [] H (zQI (zPM H0 A)) := by
  intro c
  induction c with
  | zero =>
    intro m f H hF hs hm m1 hf hA
    refine x200_51 ⟨fun _ => ⟨fun q => zPM_r hF ?_, fun q => (zPM_0 hF hs ?_)⟩, fun q => by omega⟩
    · rw [← hA]; exact if_neg q
    · rw [← hA]; exact if_pos q
  | succ c ih =>
    intro m f H hF hs hm m1 hf hA
    refine x200_51 ⟨fun q => by omega, fun _ => ⟨fun q => ?_, fun q => ?_⟩⟩
    · rw [zsk_f (decide_eq_false (fun z => z.1 (by omega)))] at hA
      rw [zi1 (by omega)]
      exact ih (m + 1) f H hF hs (by omega) (by omega) (by omega) hA
    · obtain ⟨H1, g, e⟩ := c182 (w := w) (d := d + 2) (H := H) (n := m) (by omega) (by omega)
      have hs1 : H1 81 0 = 0 := by rw [g.1 81 0 (by decide) (by decide) (by decide)]; exact hs
      rw [e, zi1 (by omega), zi1 (by omega)]
      refine ⟨fun q2 => ⟨fun q3 => ?_, fun q3 => ?_⟩, fun q2 => ?_⟩
      · rw [zsk_t (decide_eq_true ⟨by omega, q2⟩) q3] at hA
        exact ih (m + 1) (f + 1) H1 (zmf_fm hF g.1) hs1 (by omega) (by omega) (by omega) hA
      · rw [zsk_h (decide_eq_true ⟨by omega, q2⟩) q3] at hA
        exact zPM_0 (zmf_fm hF g.1) hs1 hA.symm
      · rw [zsk_f (decide_eq_false (fun z => q2 z.2))] at hA
        exact ih (m + 1) f H1 (zmf_fm hF g.1) hs1 (by omega) (by omega) (by omega) hA
theorem b200 {v a b k : Int} : zclI w (d + 4) 200 [zR 81, zI v, zI a, zI b, zI k] H (zPM H (zAkin v a b k)) := by
  unfold zAkin
  by_cases hg : (1 ≤ v ∧ v ≤ 999999999) ∧ ((1 ≤ a ∧ a ≤ 999999999) ∧ (1 ≤ b ∧ b ≤ 999999999) ∧ a ≤ b ∧ b - a ≤ 500) ∧ -1 ≤ k
  · rw [if_pos hg]
    obtain ⟨n, rfl⟩ : ∃ n : Nat, v = n := ⟨v.toNat, by omega⟩
    obtain ⟨m, rfl⟩ : ∃ m : Nat, a = m := ⟨a.toNat, by omega⟩
    obtain ⟨H1, F, e⟩ := c182 (w := w) (H := zst H 0) (d := d + 2) (n := n) (by omega) (by omega)
    refine x200_0 ?_
    simp only [c176, c173, c201, c174_0, c174_1, c174_2, c174_3, c174_4, c174_5, zit0, z10a, z10b, Classical.not_not, not_true_eq_false, false_implies, true_implies, true_and, and_true]
    repeat' (first | omega | intro _ | with_reducible refine And.intro ?_ ?_)
    rw [e]
    exact b200l (by omega) (by omega) (by omega) (b + 1 - m).toNat m 0 H1 (zmf_fm (zst_f zmf_rfl) F.1) (by rw [F.1 81 0 (by decide) (by decide) (by decide)]; rfl) (by omega) (by omega) (by omega) rfl
  · have eA : (1, -1) = ((1 : Int), (-1 : Int)) := rfl
    rw [if_neg hg]
    refine x200_0 ?_
    simp only [c176, c173, c201, c174_0, c174_1, c174_2, c174_3, c174_4, c174_5, zit0, z10a, z10b, Classical.not_not, not_true_eq_false, false_implies, true_implies, true_and, and_true]
    repeat' (first | exact zPM_n zmf_rfl eA | omega | intro _ | with_reducible refine And.intro ?_ ?_)
end Z41
theorem l604 {w : zWt} (hw : w.1 ≤ 3072) (hMR : zMR) : zLaw w (zKept zAllR) 604 := fun H i hi hR K nx => x0_604 (d := 1999) (by
  refine ⟨zidx hw hi (by decide) (by decide), zidx hw hi (by decide) (by decide), ?_⟩
  have r1 : r32 (zH0 w.2 0 (w32 ((i : Int) + 1))) := zv_r
  generalize zH0 w.2 0 (w32 ((i : Int) + 1)) = v1 at r1 ⊢
  have r2 : r32 (zH0 w.2 0 (w32 ((i : Int) + 2))) := zv_r
  generalize zH0 w.2 0 (w32 ((i : Int) + 2)) = v2 at r2 ⊢
  exact zcaseL (A := fun H => zAidx v1 v2) (fun H H1 h => by simp only [h 40 4 rfl, h 40 1 rfl, h 40 2 rfl, h 40 3 rfl]) hR (fun hD hW => b76 (d := 1995) hMR) (fun H1 hD => b197 (d := 1995)) (fun x y H' hk e => nx H' hk))
theorem l671 {w : zWt} (hw : w.1 ≤ 3072) (hMR : zMR) : zLaw w (zKept zAllR) 671 := fun H i hi hR K nx => x0_671 (d := 1999) (by
  refine ⟨zidx hw hi (by decide) (by decide), zidx hw hi (by decide) (by decide), zidx hw hi (by decide) (by decide), zidx hw hi (by decide) (by decide), ?_⟩
  have r1 : r32 (zH0 w.2 0 (w32 ((i : Int) + 1))) := zv_r
  generalize zH0 w.2 0 (w32 ((i : Int) + 1)) = v1 at r1 ⊢
  have r2 : r32 (zH0 w.2 0 (w32 ((i : Int) + 2))) := zv_r
  generalize zH0 w.2 0 (w32 ((i : Int) + 2)) = v2 at r2 ⊢
  have r3 : r32 (zH0 w.2 0 (w32 ((i : Int) + 3))) := zv_r
  generalize zH0 w.2 0 (w32 ((i : Int) + 3)) = v3 at r3 ⊢
  have r4 : r32 (zH0 w.2 0 (w32 ((i : Int) + 4))) := zv_r
  generalize zH0 w.2 0 (w32 ((i : Int) + 4)) = v4 at r4 ⊢
  exact zcaseI (A := fun H => zAkin v1 v2 v3 v4) (fun H H1 h => by simp only [h 40 4 rfl, h 40 1 rfl, h 40 2 rfl, h 40 3 rfl]) hR (fun hD hW => b80 (d := 1995) hMR) (fun H1 hD => b200 (d := 1995)) (fun x y H' hk e => nx H' hk))
theorem l932 {w : zWt} (hw : w.1 ≤ 3072) (hMR : zMR) : zLaw w (zKept zAllR) 932 := fun H i hi hR K nx => x0_932 (d := 1999) (by
  refine ⟨zidx hw hi (by decide) (by decide), zidx hw hi (by decide) (by decide), fun q => x0_951 (d := 1999) ⟨zidx hw hi (by decide) (by decide), ?_⟩, fun q => x0_951 (d := 1999) ⟨zidx hw hi (by decide) (by decide), ?_⟩⟩
  · refine zclL_mono (zcaseL (d2 := 1999) (tm := 216) (bs := [zR 81, zI (zH0 w.2 0 (w32 ((i : Int) + 1))), zI 0, zI (zH0 w.2 0 (w32 ((i : Int) + 3)))]) (A := fun H => zAmean (zH0 w.2 0 (w32 ((i : Int) + 1))) 0 (zH0 w.2 0 (w32 ((i : Int) + 3)))) (N := fun _ _ H' => zgo w 2000 0 2245 [zR 0, zR 32, zR 81, zI i] [] H' (zQI K)) (M := fun _ _ H' => K 0 H') (fun _ _ _ => rfl) hR (fun hD hW => b94 (d := 1995) hMR) (fun H1 hD => b216 (d := 1995)) (fun x y H' hk e => nx H' hk)) (fun x H1 h => ⟨zidx hw hi (by decide) (by decide), zidx hw hi (by decide) (by decide), fun _ => h, fun z => absurd q z⟩)
  · refine zclL_mono (zcaseL (d2 := 1999) (tm := 216) (bs := [zR 81, zI (zH0 w.2 0 (w32 ((i : Int) + 1))), zI 1, zI (zH0 w.2 0 (w32 ((i : Int) + 3)))]) (A := fun H => zAmean (zH0 w.2 0 (w32 ((i : Int) + 1))) 1 (zH0 w.2 0 (w32 ((i : Int) + 3)))) (N := fun _ _ H' => zgo w 2000 0 2245 [zR 0, zR 32, zR 81, zI i] [] H' (zQI K)) (M := fun _ _ H' => K 0 H') (fun _ _ _ => rfl) hR (fun hD hW => b94 (d := 1995) hMR) (fun H1 hD => b216 (d := 1995)) (fun x y H' hk e => nx H' hk)) (fun x H1 h => ⟨zidx hw hi (by decide) (by decide), zidx hw hi (by decide) (by decide), fun z => absurd z q, fun _ => h⟩))
