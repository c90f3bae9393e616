/-! how great sums of divisors are -/
def zsg (p : Nat) : Nat → Nat
  | 0 => 1
  | e + 1 => zsg p e * p + 1
theorem zsg_b {p : Nat} (hp : 2 ≤ p) : ∀ e, p ^ e ≤ zsg p e ∧ zsg p e + 1 ≤ 2 * p ^ e ∧ (1 ≤ e → p ^ e + 1 ≤ zsg p e)
  | 0 => ⟨Nat.le_refl _, Nat.le_refl _, fun h => by omega⟩
  | e + 1 => by
    obtain ⟨h1, h2, -⟩ := zsg_b hp e
    have a1 : p ^ e * p ≤ zsg p e * p := Nat.mul_le_mul_right p h1
    have a2 : (zsg p e + 1) * p ≤ 2 * p ^ e * p := Nat.mul_le_mul_right p h2
    rw [Nat.add_mul, Nat.one_mul, Nat.mul_assoc] at a2
    rw [Nat.pow_succ]
    show p ^ e * p ≤ zsg p e * p + 1 ∧ zsg p e * p + 1 + 1 ≤ 2 * (p ^ e * p) ∧ _
    refine ⟨by omega, by omega, fun _ => ?_⟩
    show p ^ e * p + 1 ≤ zsg p e * p + 1
    omega
theorem zofp_eq {p : Nat} (hp : 2 ≤ p) : ∀ e : Nat, p ^ e ≤ 999999999 → zofp p e = (zsg p e : Nat)
  | 0, _ => rfl
  | e + 1, h => by
    have h1 : p ^ e ≤ p ^ (e + 1) := Nat.pow_le_pow_right (by omega) (by omega)
    have hb := (zsg_b hp (e + 1)).2.1
    show w64 (w64 (zofp p e * p) + 1) = ((zsg p e * p + 1 : Nat) : Int)
    have hb2 : zsg p e * p + 1 + 1 ≤ 2 * p ^ (e + 1) := hb
    rw [zofp_eq hp e (by omega), ← Int.natCast_mul, w64_id (show _ ≤ ((zsg p e * p : Nat) : Int) ∧ _ by omega)]
    rw [w64_id (by omega)]
    omega
def zPi (f : Nat × Nat → Nat) (l : List (Nat × Nat)) : Nat := l.foldr (fun q s => f q * s) 1
theorem zPi_b {f : Nat × Nat → Nat} : ∀ {l : List (Nat × Nat)}, (∀ q ∈ l, 1 ≤ f q ∧ f q ≤ 2 * q.1 ^ q.2) → 1 ≤ zPi f l ∧ zPi f l ≤ 2 ^ l.length * zprod l
  | [], _ => ⟨Nat.le_refl _, Nat.le_refl _⟩
  | q :: l, h => by
    obtain ⟨h1, h2⟩ := zPi_b (fun r hr => h r (List.mem_cons_of_mem _ hr))
    obtain ⟨g1, g2⟩ := h q List.mem_cons_self
    have e1 : zPi f (q :: l) = f q * zPi f l := rfl
    have e2 : zprod (q :: l) = q.1 ^ q.2 * zprod l := rfl
    rw [e1, e2, List.length_cons, Nat.pow_succ]
    refine ⟨Nat.mul_pos g1 h1, ?_⟩
    have := Nat.mul_le_mul g2 h2
    rw [show 2 ^ l.length * 2 * (q.1 ^ q.2 * zprod l) = 2 * q.1 ^ q.2 * (2 ^ l.length * zprod l) by
      rw [Nat.mul_comm (2 ^ l.length) 2, Nat.mul_assoc, Nat.mul_assoc, Nat.mul_left_comm (2 ^ l.length)]]
    exact this
theorem zPi_ge {f : Nat × Nat → Nat} : ∀ {l : List (Nat × Nat)}, (∀ q ∈ l, q.1 ^ q.2 + 1 ≤ f q) → zprod l ≤ zPi f l ∧ (l ≠ [] → zprod l + 1 ≤ zPi f l)
  | [], _ => ⟨Nat.le_refl _, fun h => absurd rfl h⟩
  | q :: l, h => by
    obtain ⟨h1, -⟩ := zPi_ge (fun r hr => h r (List.mem_cons_of_mem _ hr))
    have g := h q List.mem_cons_self
    have e1 : zPi f (q :: l) = f q * zPi f l := rfl
    have e2 : zprod (q :: l) = q.1 ^ q.2 * zprod l := rfl
    rw [e1, e2]
    rcases Nat.eq_zero_or_pos (zPi f l) with z | z
    · rw [z] at h1 ⊢
      have : zprod l = 0 := by omega
      rw [this]
      refine ⟨by simp, fun _ => ?_⟩
      exfalso
      have p : ∀ {m : List (Nat × Nat)}, (∀ q ∈ m, q.1 ^ q.2 + 1 ≤ f q) → 0 < zPi f m := fun {m} hm => by
        induction m with
        | nil => exact Nat.one_pos
        | cons r m ih => exact Nat.mul_pos (by have := hm r List.mem_cons_self; omega) (ih fun s hs => hm s (List.mem_cons_of_mem _ hs))
      have := p (fun r hr => h r (List.mem_cons_of_mem _ hr))
      omega
    · have a1 : (q.1 ^ q.2 + 1) * zPi f l ≤ f q * zPi f l := Nat.mul_le_mul_right _ g
      have a2 : q.1 ^ q.2 * zprod l ≤ q.1 ^ q.2 * zPi f l := Nat.mul_le_mul_left _ h1
      rw [Nat.add_mul, Nat.one_mul] at a1
      exact ⟨by omega, fun _ => by omega⟩
theorem zPi_fold {f : Nat × Nat → Nat} {g : Nat × Nat → Int} : ∀ {l : List (Nat × Nat)} {s : Nat}, (∀ q ∈ l, g q = f q ∧ 1 ≤ f q ∧ f q ≤ 2 * q.1 ^ q.2) → s * (2 ^ l.length * zprod l) ≤ 4611686018427387904 → 1 ≤ s → l.foldl (fun s q => w64 (s * g q)) (s : Int) = ((s * zPi f l : Nat) : Int)
  | [], s, _, _, _ => by
    show (s : Int) = ((s * 1 : Nat) : Int)
    rw [Nat.mul_one]
  | q :: l, s, h, hb, hs => by
    obtain ⟨g0, g1, g2⟩ := h q List.mem_cons_self
    have hl : ∀ r ∈ l, g r = f r ∧ 1 ≤ f r ∧ f r ≤ 2 * r.1 ^ r.2 := fun r hr => h r (List.mem_cons_of_mem _ hr)
    have hp := zPi_b (fun r hr => (hl r hr).2)
    have hb2 : s * f q * (2 ^ l.length * zprod l) ≤ 4611686018427387904 := by
      refine Nat.le_trans ?_ hb
      rw [List.length_cons, Nat.pow_succ, show zprod (q :: l) = q.1 ^ q.2 * zprod l from rfl, Nat.mul_assoc]
      refine Nat.mul_le_mul_left s ?_
      rw [show 2 ^ l.length * 2 * (q.1 ^ q.2 * zprod l) = 2 * q.1 ^ q.2 * (2 ^ l.length * zprod l) by
        rw [Nat.mul_comm (2 ^ l.length) 2, Nat.mul_assoc, Nat.mul_assoc, Nat.mul_left_comm (2 ^ l.length)]]
      exact Nat.mul_le_mul_right _ g2
    have hb3 : s * f q ≤ 4611686018427387904 := by
      refine Nat.le_trans (Nat.le_mul_of_pos_right _ ?_) hb2
      omega
    rw [List.foldl_cons, g0, ← Int.natCast_mul, w64_id (by omega), zPi_fold hl hb2 (Nat.mul_pos hs g1)]
    rw [show zPi f (q :: l) = f q * zPi f l from rfl, Nat.mul_assoc]
theorem zGood_b9 {n : Nat} {l : List (Nat × Nat)} (hn : n ≤ 999999999) (hG : zGood n l) : 2 ^ l.length * zprod l ≤ 512 * n := by
  have h9 := zGood_nine hG (by omega)
  rw [hG.2.2]
  exact Nat.mul_le_mul_right n (Nat.pow_le_pow_right (by decide) h9 : 2 ^ l.length ≤ 2 ^ 9)
theorem zGood_ne {n : Nat} {l : List (Nat × Nat)} (hn : 2 ≤ n) (hG : zGood n l) : l ≠ [] := fun z => by
  subst z
  have : 1 = n := hG.2.2
  omega
theorem zGood_pw {n : Nat} {l : List (Nat × Nat)} {q : Nat × Nat} (hn : n ≤ 999999999) (hG : zGood n l) (hq : q ∈ l) : 2 ≤ q.1 ∧ 1 ≤ q.2 ∧ q.1 ^ q.2 ≤ 999999999 ∧ q.1 ≤ q.1 ^ q.2 := by
  have h1 := zprod_mem hG.2.1 hq
  rw [hG.2.2] at h1
  have hb := zGood_bd hG hq
  refine ⟨hb.1, hb.2.1, by omega, ?_⟩
  obtain ⟨k, hk⟩ : ∃ k, q.2 = k + 1 := ⟨q.2 - 1, by omega⟩
  rw [hk, Nat.pow_succ]
  exact Nat.le_mul_of_pos_left _ (Nat.pow_pos (by omega))
/-- all divisors added -/
def zSg (l : List (Nat × Nat)) : Nat := zPi (fun q => zsg q.1 q.2) l
theorem zSg_b {n : Nat} {l : List (Nat × Nat)} (hn : n ≤ 999999999) (hG : zGood n l) : zall l = (zSg l : Nat) ∧ n ≤ zSg l ∧ zSg l ≤ 512 * n ∧ (2 ≤ n → n + 1 ≤ zSg l) := by
  have hf : ∀ q ∈ l, q.1 ^ q.2 + 1 ≤ zsg q.1 q.2 ∧ zsg q.1 q.2 ≤ 2 * q.1 ^ q.2 := fun q hq => by
    have hb := zGood_pw hn hG hq
    have := zsg_b hb.1 q.2
    exact ⟨this.2.2 hb.2.1, by omega⟩
  have h1 := zPi_b (f := fun q => zsg q.1 q.2) (l := l) (fun q hq => ⟨by have := hf q hq; show 1 ≤ zsg q.1 q.2; omega, (hf q hq).2⟩)
  have h2 := zPi_ge (f := fun q => zsg q.1 q.2) (l := l) (fun q hq => (hf q hq).1)
  have h9 := zGood_b9 hn hG
  rw [hG.2.2] at h2
  refine ⟨?_, h2.1, by unfold zSg; omega, fun h => h2.2 (zGood_ne h hG)⟩
  have := zPi_fold (f := fun q => zsg q.1 q.2) (g := fun q => zofp q.1 q.2) (l := l) (s := 1) (fun q hq => ⟨zofp_eq (zGood_pw hn hG hq).1 _ (zGood_pw hn hG hq).2.2.1, by have := hf q hq; show 1 ≤ zsg q.1 q.2; omega, (hf q hq).2⟩) (by omega) (by omega)
  rw [Nat.one_mul] at this
  exact this
theorem zall_n {n : Nat} (hn : n ≤ 999999999) (hG : zGood n (zfac n)) : ∃ s : Nat, zall (zfac n) = s ∧ n ≤ s ∧ s ≤ 512 * n ∧ (2 ≤ n → n + 1 ≤ s) := ⟨_, (zSg_b hn hG).1, (zSg_b hn hG).2⟩
theorem zfold_r {g : Nat × Nat → Int} : ∀ {l : List (Nat × Nat)} {s b : Int} {law : Int}, (∀ q ∈ l, g q = w64 (1 + (if law = 1 then zpw q.1 q.2 else (q.1 : Int)))) → (l.foldl (zsst law) (s, b)).1 = l.foldl (fun s q => w64 (s * g q)) s
  | [], _, _, _, _ => rfl
  | q :: l, s, b, law, h => by
    rw [List.foldl_cons, List.foldl_cons, h q List.mem_cons_self]
    exact zfold_r (fun r hr => h r (List.mem_cons_of_mem _ hr))
/-- sums are from 0 on, and not too great -/
theorem zsum_r {n : Nat} {law : Int} (h1 : 1 ≤ n) (hn : n ≤ 999999999) (hG : zGood n (zfac n)) (hl : 0 ≤ law ∧ law ≤ 3) : 0 ≤ zsum law n ∧ zsum law n ≤ 512 * n := by
  unfold zsum
  by_cases hn1 : n = 1
  · rw [if_pos hn1]; omega
  · rw [if_neg hn1]
    obtain ⟨s, e, s1, s2, s3⟩ := zall_n hn hG
    have s3 := s3 (by omega)
    by_cases l0 : law = 0
    · rw [if_pos l0, e, w64_id (by omega)]; omega
    · rw [if_neg l0]
      by_cases l2 : law = 2
      · rw [if_pos l2, e, w64_id (show _ ≤ (s : Int) - n ∧ _ by omega), w64_id (by omega)]; omega
      · rw [if_neg l2]
        unfold zsre
        have h9 := zGood_b9 hn hG
        by_cases l1 : law = 1
        · rw [if_pos l1]
          have hf : ∀ q ∈ zfac n, q.1 ^ q.2 + 1 ≤ q.1 ^ q.2 + 1 ∧ q.1 ^ q.2 + 1 ≤ 2 * q.1 ^ q.2 := fun q hq => by
            have hb := zGood_pw hn hG hq
            exact ⟨Nat.le_refl _, by omega⟩
          have b1 := zPi_b (f := fun q => q.1 ^ q.2 + 1) (l := zfac n) (fun q hq => ⟨by show 1 ≤ q.1 ^ q.2 + 1; omega, (hf q hq).2⟩)
          have b2 := (zPi_ge (f := fun q => q.1 ^ q.2 + 1) (l := zfac n) (fun q hq => (hf q hq).1)).1
          rw [hG.2.2] at b2
          have hg : ∀ q ∈ zfac n, ((q.1 ^ q.2 + 1 : Nat) : Int) = w64 (1 + (if law = 1 then zpw q.1 q.2 else (q.1 : Int))) := fun q hq => by
            have hb := zGood_pw hn hG hq
            rw [if_pos l1, zpw_eq (by omega) _ hb.2.2.1, w64_id (by omega)]
            omega
          rw [zfold_r (g := fun q => ((q.1 ^ q.2 + 1 : Nat) : Int)) hg]
          have := zPi_fold (f := fun q => q.1 ^ q.2 + 1) (g := fun q => ((q.1 ^ q.2 + 1 : Nat) : Int)) (l := zfac n) (s := 1) (fun q hq => ⟨rfl, by show 1 ≤ q.1 ^ q.2 + 1; omega, (hf q hq).2⟩) (by omega) (by omega)
          rw [Nat.one_mul] at this
          rw [show (1 : Int) = ((1 : Nat) : Int) from rfl, this, w64_id (by omega)]
          omega
        · rw [if_neg l1]
          have hf : ∀ q ∈ zfac n, 1 ≤ q.1 + 1 ∧ q.1 + 1 ≤ 2 * q.1 ^ q.2 := fun q hq => by
            have hb := zGood_pw hn hG hq
            exact ⟨by omega, by omega⟩
          have b1 := zPi_b (f := fun q => q.1 + 1) (l := zfac n) hf
          have hg : ∀ q ∈ zfac n, ((q.1 + 1 : Nat) : Int) = w64 (1 + (if law = 1 then zpw q.1 q.2 else (q.1 : Int))) := fun q hq => by
            have hb := zGood_pw hn hG hq
            rw [if_neg l1, w64_id (by omega)]
            omega
          have e1 := zPi_fold (f := fun q => q.1 + 1) (g := fun q => ((q.1 + 1 : Nat) : Int)) (l := zfac n) (s := 1) (fun q hq => ⟨rfl, (hf q hq).1, (hf q hq).2⟩) (by omega) (by omega)
          rw [Nat.one_mul] at e1
          rw [zfold_r (g := fun q => ((q.1 + 1 : Nat) : Int)) hg, show (1 : Int) = ((1 : Nat) : Int) from rfl, e1]
          by_cases hz : ((zfac n).foldl (zsst law) (((1 : Nat) : Int), ((1 : Nat) : Int))).2 = 0
          · rw [if_pos hz]; omega
          · rw [if_neg hz]
            have hq2 : ∀ q ∈ zfac n, 1 ≤ q.2 := fun q hq => (zGood_bd hG hq).2.1
            have hb := zssb (law := law) (zfac n) 1 1 hq2
            have hall : ∀ q ∈ zfac n, q.2 ≤ 1 := by
              rcases Classical.em (∀ q ∈ zfac n, q.2 ≤ 1) with z | z
              · exact z
              · exact absurd (hb.mpr (Or.inr z)) hz
            have b2 := (zPi_ge (f := fun q => q.1 + 1) (l := zfac n) (fun q hq => by
              have a1 := hall q hq
              have a2 := hq2 q hq
              have : q.2 = 1 := by omega
              rw [this, Nat.pow_one]; exact Nat.le_refl _)).1
            rw [hG.2.2] at b2
            rw [w64_id (by omega)]
            omega
