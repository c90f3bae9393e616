/-! the case load: the class's TOKEN -/
def zf33 (H H' : zHt) : Prop := ∀ a j : Int, ¬ (a = 33 ∧ 3 ≤ j ∧ j ≤ 7) → H' a j = H a j
theorem zf33_up {H0 H : zHt} {j x : Int} (hj : 3 ≤ j ∧ j ≤ 7) (h : zf33 H0 H) : zf33 H0 (zup H 33 j x) := fun a i q => by
  rw [zq_ne (fun z => q ⟨z.1, by rw [z.2]; exact hj⟩)]; exact h a i q
theorem zf33_tr {H H1 H2 : zHt} (h1 : zf33 H H1) (h2 : zf33 H1 H2) : zf33 H H2 := fun a j q => (h2 a j q).trans (h1 a j q)
/-- the TOKEN behind p, by the class -/
def zCt (H : zHt) (T : Nat → Int) (N p : Nat) : Prop := H 33 3 = (znx T N p : Nat) ∧ H 33 4 = (zqq T N p : Nat) ∧ H 33 5 = zkd T N p ∧ (zkd T N p = 1 → H 33 6 = zcdw 32 (zwd T N p)) ∧ (zkd T N p = 2 → H 33 7 = znm T N p)
section Z74i
variable {w : zWt} {d : Nat} {H : zHt} {T : Nat → Int} {N : Nat}
theorem c16l {P : Nat → Bool} {lo hi : Int} {K : Int → zHt → Prop} (hT : zTx H T N) (h2 : H 33 2 = (N : Int)) (hP : ∀ j : Nat, P j = decide (lo ≤ T j ∧ T j ≤ hi)) : ∀ (c j : Nat), j + c = N → K ((zend P N j : Nat) : Int) H → zgo w d 16 5 [zR 33, zI lo, zI hi, zI (j : Int)] [] H (zQI K) := by
  have h4 := hT.1
  intro c
  induction c with
  | zero =>
    intro j hj hK
    rw [zend_n (by omega)] at hK
    exact x16_5 ⟨fun _ => hK, fun q => by omega⟩
  | succ c ih =>
    intro j hj hK
    have ht := (hT.2 j (by omega)).1
    refine x16_5 ⟨fun q => by omega, fun _ => ⟨by omega, ?_⟩⟩
    rw [ht, zi1 (by omega)]
    refine ⟨fun q => ?_, fun q => ⟨fun q2 => ?_, fun q2 => ?_⟩⟩
    · rw [zend_f (by rw [hP]; exact decide_eq_false (by omega))] at hK; exact hK
    · rw [zend_f (by rw [hP]; exact decide_eq_false (by omega))] at hK; exact hK
    · rw [zend_t (by omega) (by rw [hP]; exact decide_eq_true ⟨q, q2⟩)] at hK
      exact ih (j + 1) (by omega) hK
theorem c16 {P : Nat → Bool} {lo hi : Int} {p : Nat} {K : Int → zHt → Prop} (hT : zTx H T N) (h2 : H 33 2 = (N : Int)) (h3 : H 33 3 = (p : Int)) (hp : p ≤ N) (hP : ∀ j : Nat, P j = decide (lo ≤ T j ∧ T j ≤ hi)) : zclI w d 16 [zR 33, zI lo, zI hi] H K = K ((zend P N p : Nat) : Int) H :=
  zclI_eq fun K hK => x16_0 (by rw [h3]; exact c16l hT h2 hP (N - p) p (by omega) hK)
theorem zTx_33 {H' : zHt} (f : zf33 H H') (hT : zTx H T N) : zTx H' T N := ⟨hT.1, fun k hk => by rw [f 34 k (by omega)]; exact hT.2 k hk⟩
-- a word
theorem c17l {H0 : zHt} {q e : Nat} {k : Int} (he : e ≤ N) (hin : ∀ i : Nat, q ≤ i → i < e → 97 ≤ T i ∧ T i ≤ 122) (hk : k = 1 ∧ e ≤ q + 8 ∨ k = 4) : ∀ (c j : Nat) (H : zHt), j + c = e → q ≤ j → zf33 H0 H → zTx H T N → H 33 3 = (j : Int) → H 33 4 = (q : Int) → H 33 5 = k → (k = 1 → H 33 6 = zcdw 32 (zlt2 T q (j - q))) → zgo w d 17 20 [zR 33, zI (e : Int)] [] H (zQV fun H' => zf33 H0 H' ∧ H' 33 3 = (e : Int) ∧ H' 33 4 = (q : Int) ∧ H' 33 5 = k ∧ (k = 1 → H' 33 6 = zcdw 32 (zlt2 T q (e - q)))) := by
  intro c
  induction c with
  | zero =>
    intro j H hj hq hf hT h3 h4 h5 h6
    have : j = e := by omega
    subst this
    refine x17_20 ⟨fun _ => ⟨zf33_up (by omega) hf, zq_eq, by rw [zq_ne (by omega)]; exact h4, by rw [zq_ne (by omega)]; exact h5, fun z => by rw [zq_ne (by omega)]; exact h6 z⟩, fun z => by omega⟩
  | succ c ih =>
    intro j H hj hq hf hT h3 h4 h5 h6
    have h40 := hT.1
    refine x17_20 ⟨fun z => by omega, fun _ => ⟨fun z => ?_, fun z => ?_⟩⟩
    · exact ⟨zf33_up (by omega) hf, zq_eq, by rw [zq_ne (by omega)]; exact h4, by rw [zq_ne (by omega)]; exact h5, fun y => absurd (h5.trans y) z⟩
    · have hk1 : k = 1 := h5.symm.trans z
      have hle : e ≤ q + 8 := by omega
      have ht := (hT.2 j (by omega)).1
      have hb := hin j hq (by omega)
      have hcb := zcdw_b (b := 32) (by omega) (l := zlt2 T q (j - q)) (zlt2_in (fun i hi => hin (q + i) (by omega) (by omega)))
      rw [zlt2_len] at hcb
      have hp32 := zpow32 (b := 32) (k := j - q) (by omega) (by omega) (by omega)
      have hcb : 0 ≤ zcdw 32 (zlt2 T q (j - q)) ∧ zcdw 32 (zlt2 T q (j - q)) < ((32 ^ (j - q) : Nat) : Int) := hcb
      have hcb : 0 ≤ zcdw 32 (zlt2 T q (j - q)) ∧ zcdw 32 (zlt2 T q (j - q)) < 1099511627776 := ⟨hcb.1, by omega⟩
      rw [h3, ht, h6 hk1, zi1 (by omega)]
      refine ⟨by omega, ih (j + 1) _ (by omega) (by omega) (zf33_up (by omega) (zf33_up (by omega) hf)) (zTx_33 (zf33_up (by omega) (zf33_up (by omega) (fun _ _ _ => rfl))) hT) zq_eq (by rw [zq_ne (by omega), zq_ne (by omega)]; exact h4) (by rw [zq_ne (by omega), zq_ne (by omega)]; exact h5) (fun _ => ?_)⟩
      rw [zq_ne (by omega), zq_eq, show j + 1 - q = (j - q) + 1 by omega]
      show _ = zcdw 32 (zlt2 T q (j - q)) * 32 + (T (q + (j - q)) - 96)
      rw [show q + (j - q) = j by omega, w32_id (show _ ≤ T j - 97 ∧ _ by omega), w32_id (show _ ≤ T j - 97 + 1 ∧ _ by omega), w64_id (show _ ≤ zcdw 32 (zlt2 T q (j - q)) * 32 ∧ _ by omega), w64_id (by omega)]
      omega
theorem c18l {H0 : zHt} {q e : Nat} {k : Int} (he : e ≤ N) (hin : ∀ i : Nat, q ≤ i → i < e → 48 ≤ T i ∧ T i ≤ 57) (hk : k = 2 ∧ e ≤ q + 9 ∨ k = 4) : ∀ (c j : Nat) (H : zHt), j + c = e → q ≤ j → zf33 H0 H → zTx H T N → H 33 3 = (j : Int) → H 33 4 = (q : Int) → H 33 5 = k → (k = 2 → H 33 7 = zdg T q (j - q)) → zgo w d 18 20 [zR 33, zI (e : Int)] [] H (zQV fun H' => zf33 H0 H' ∧ H' 33 3 = (e : Int) ∧ H' 33 4 = (q : Int) ∧ H' 33 5 = k ∧ (k = 2 → H' 33 7 = zdg T q (e - q))) := by
  intro c
  induction c with
  | zero =>
    intro j H hj hq hf hT h3 h4 h5 h6
    have : j = e := by omega
    subst this
    refine x18_20 ⟨fun _ => ⟨zf33_up (by omega) hf, zq_eq, by rw [zq_ne (by omega)]; exact h4, by rw [zq_ne (by omega)]; exact h5, fun z => by rw [zq_ne (by omega)]; exact h6 z⟩, fun z => by omega⟩
  | succ c ih =>
    intro j H hj hq hf hT h3 h4 h5 h6
    have h40 := hT.1
    refine x18_20 ⟨fun z => by omega, fun _ => ⟨fun z => ?_, fun z => ?_⟩⟩
    · exact ⟨zf33_up (by omega) hf, zq_eq, by rw [zq_ne (by omega)]; exact h4, by rw [zq_ne (by omega)]; exact h5, fun y => absurd (h5.trans y) z⟩
    · have hk1 : k = 2 := h5.symm.trans z
      have ht := (hT.2 j (by omega)).1
      have hb := hin j hq (by omega)
      have hcb := zdg_b (T := T) (q := q) (k := j - q) (fun i hi => hin (q + i) (by omega) (by omega))
      have hp10 := zpow10 (k := j - q + 1) (by omega)
      have e10 : ((10 ^ (j - q + 1) : Nat) : Int) = ((10 ^ (j - q) : Nat) : Int) * 10 := by rw [Nat.pow_succ, Int.natCast_mul]; rfl
      rw [e10] at hp10
      have hcb : 0 ≤ zdg T q (j - q) ∧ zdg T q (j - q) < 100000000 := ⟨hcb.1, by omega⟩
      rw [h3, ht, h6 hk1, zi1 (by omega)]
      refine ⟨by omega, ih (j + 1) _ (by omega) (by omega) (zf33_up (by omega) (zf33_up (by omega) hf)) (zTx_33 (zf33_up (by omega) (zf33_up (by omega) (fun _ _ _ => rfl))) hT) zq_eq (by rw [zq_ne (by omega), zq_ne (by omega)]; exact h4) (by rw [zq_ne (by omega), zq_ne (by omega)]; exact h5) (fun _ => ?_)⟩
      rw [zq_ne (by omega), zq_eq, show j + 1 - q = (j - q) + 1 by omega]
      show _ = zdg T q (j - q) * 10 + (T (q + (j - q)) - 48)
      rw [show q + (j - q) = j by omega, w32_id (show _ ≤ T j - 48 ∧ _ by omega), w32_id (show _ ≤ zdg T q (j - q) * 10 ∧ _ by omega), w32_id (by omega)]
theorem c15b {H0 : zHt} {p q : Nat} (hp : p ≤ N) (hq : q = zqq T N p) (hf : zf33 H0 H) (hT : zTx H T N) (h2 : H 33 2 = (N : Int)) (h3 : H 33 3 = (q : Int)) : zgo w (d + 1) 15 52 [zR 33, zJ, zJ] [] H (zQV fun H' => zf33 H0 H' ∧ zCt H' T N p) := by
  have h40 := hT.1
  have b1 := zend_b (P := zbl T) hp
  have b1 : p ≤ zqq T N p ∧ zqq T N p ≤ N := b1
  have b2 : zqq T N p ≤ zle2 T N p ∧ zle2 T N p ≤ N := zend_b (P := zlr T) (N := N) (p := zqq T N p) b1.2
  have b3 : zqq T N p ≤ zde2 T N p ∧ zde2 T N p ≤ N := zend_b (P := zdi T) (N := N) (p := zqq T N p) b1.2
  have inl : ∀ i : Nat, zqq T N p ≤ i → i < zle2 T N p → 97 ≤ T i ∧ T i ≤ 122 := fun i i1 i2 => of_decide_eq_true (zend_in (P := zlr T) (c := N - zqq T N p) (by omega) i1 i2)
  have ind : ∀ i : Nat, zqq T N p ≤ i → i < zde2 T N p → 48 ≤ T i ∧ T i ≤ 57 := fun i i1 i2 => of_decide_eq_true (zend_in (P := zdi T) (c := N - zqq T N p) (by omega) i1 i2)
  subst hq
  refine x15_52 ?_
  rw [h3]
  have f1 : zf33 H0 (zup (zup (zup H 33 4 ((zqq T N p : Nat) : Int)) 33 6 0) 33 7 0) := zf33_up (by omega) (zf33_up (by omega) (zf33_up (by omega) hf))
  have g : zf33 H (zup (zup (zup H 33 4 ((zqq T N p : Nat) : Int)) 33 6 0) 33 7 0) := zf33_up (by omega) (zf33_up (by omega) (zf33_up (by omega) (fun _ _ _ => rfl)))
  have a3 : (zup (zup (zup H 33 4 ((zqq T N p : Nat) : Int)) 33 6 0) 33 7 0) 33 3 = ((zqq T N p : Nat) : Int) := by rw [zq_ne (by omega), zq_ne (by omega), zq_ne (by omega)]; exact h3
  have a4 : (zup (zup (zup H 33 4 ((zqq T N p : Nat) : Int)) 33 6 0) 33 7 0) 33 4 = ((zqq T N p : Nat) : Int) := by rw [zq_ne (by omega), zq_ne (by omega), zq_eq]
  have a6 : (zup (zup (zup H 33 4 ((zqq T N p : Nat) : Int)) 33 6 0) 33 7 0) 33 6 = 0 := by rw [zq_ne (by omega), zq_eq]
  have a7 : (zup (zup (zup H 33 4 ((zqq T N p : Nat) : Int)) 33 6 0) 33 7 0) 33 7 = 0 := zq_eq
  have a2 : (zup (zup (zup H 33 4 ((zqq T N p : Nat) : Int)) 33 6 0) 33 7 0) 33 2 = (N : Int) := (g 33 2 (by omega)).trans h2
  have aT := zTx_33 g hT
  generalize (zup (zup (zup H 33 4 ((zqq T N p : Nat) : Int)) 33 6 0) 33 7 0) = H1 at f1 a3 a4 a6 a7 a2 aT ⊢
  rw [c16 (P := zlr T) aT a2 a3 b1.2 (fun _ => rfl), c16 (P := zdi T) aT a2 a3 b1.2 (fun _ => rfl), a2, a3]
  rw [show zend (zlr T) N (zqq T N p) = zle2 T N p from rfl, show zend (zdi T) N (zqq T N p) = zde2 T N p from rfl]
  refine ⟨fun q1 => ⟨fun q2 => ⟨fun q3 => ⟨by omega, ?_⟩, fun q3 => ?_⟩, fun q2 => ?_⟩, fun q1 => ?_⟩
  · have ht := (aT.2 (zqq T N p) (by omega)).1
    have en : znx T N p = zqq T N p + 1 := by unfold znx; rw [if_neg (by omega), if_neg (by omega), if_neg (by omega)]
    have ek : zkd T N p = if T (zqq T N p) = 59 then 3 else 4 := by unfold zkd; rw [if_neg (by omega), if_neg (by omega), if_neg (by omega)]
    rw [ht, zi1 (by omega)]
    refine ⟨fun q4 => ⟨zf33_up (by omega) (zf33_up (by omega) f1), ?_⟩, fun q4 => ⟨zf33_up (by omega) (zf33_up (by omega) f1), ?_⟩⟩
    · rw [if_neg q4] at ek
      refine ⟨by rw [zq_eq, en], by rw [zq_ne (by omega), zq_ne (by omega)]; exact a4, by rw [zq_ne (by omega), zq_eq, ek], fun z => by omega, fun z => by omega⟩
    · rw [if_pos q4] at ek
      refine ⟨by rw [zq_eq, en], by rw [zq_ne (by omega), zq_ne (by omega)]; exact a4, by rw [zq_ne (by omega), zq_eq, ek], fun z => by omega, fun z => by omega⟩
  · have en : znx T N p = zde2 T N p := by unfold znx; rw [if_neg (by omega), if_neg (by omega), if_pos (by omega)]
    have ek : zkd T N p = if zde2 T N p ≤ zqq T N p + 9 then 2 else 4 := by unfold zkd; rw [if_neg (by omega), if_neg (by omega), if_pos (by omega)]
    have fin : ∀ k : Int, k = zkd T N p → zgo w d 18 20 [zR 33, zI ((zde2 T N p : Nat) : Int)] [] (zup H1 33 5 k) (zQV fun H' => zf33 H0 H' ∧ zCt H' T N p) := fun k hk => by
      refine g_mono (c18l (T := T) (N := N) (H0 := H0) (q := zqq T N p) (e := zde2 T N p) (k := k) b3.2 ind ?_ (zde2 T N p - zqq T N p) (zqq T N p) _ (by omega) (Nat.le_refl _) (zf33_up (by omega) f1) (zTx_33 (zf33_up (by omega) (fun _ _ _ => rfl)) aT) (by rw [zq_ne (by omega)]; exact a3) (by rw [zq_ne (by omega)]; exact a4) zq_eq (fun _ => by rw [zq_ne (by omega), Nat.sub_self]; exact a7)) (fun r H' h => ?_)
      · rw [hk, ek]
        by_cases z : zde2 T N p ≤ zqq T N p + 9
        · rw [if_pos z]; omega
        · rw [if_neg z]; omega
      · obtain ⟨h0, h1, h2, h3, h4, h5⟩ := h
        refine ⟨h0, h1, by rw [h2, en], h3, h4.trans hk, fun z => ?_, fun z => h5 (hk.trans z)⟩
        rw [ek] at z
        split at z <;> omega
    refine x18_0 ?_
    rw [a4, w32_id (by omega)]
    refine ⟨fun q4 => fin 4 ?_, fun q4 => fin 2 ?_⟩
    · rw [ek, if_neg (by omega)]
    · rw [ek, if_pos (by omega)]
  · have en : znx T N p = zle2 T N p := by unfold znx; rw [if_neg (by omega), if_pos (by omega)]
    have ek : zkd T N p = if zle2 T N p ≤ zqq T N p + 8 then 1 else 4 := by unfold zkd; rw [if_neg (by omega), if_pos (by omega)]
    have fin : ∀ k : Int, k = zkd T N p → zgo w d 17 20 [zR 33, zI ((zle2 T N p : Nat) : Int)] [] (zup H1 33 5 k) (zQV fun H' => zf33 H0 H' ∧ zCt H' T N p) := fun k hk => by
      refine g_mono (c17l (T := T) (N := N) (H0 := H0) (q := zqq T N p) (e := zle2 T N p) (k := k) b2.2 inl ?_ (zle2 T N p - zqq T N p) (zqq T N p) _ (by omega) (Nat.le_refl _) (zf33_up (by omega) f1) (zTx_33 (zf33_up (by omega) (fun _ _ _ => rfl)) aT) (by rw [zq_ne (by omega)]; exact a3) (by rw [zq_ne (by omega)]; exact a4) zq_eq (fun _ => by rw [zq_ne (by omega), Nat.sub_self]; exact a6)) (fun r H' h => ?_)
      · rw [hk, ek]
        by_cases z : zle2 T N p ≤ zqq T N p + 8
        · rw [if_pos z]; omega
        · rw [if_neg z]; omega
      · obtain ⟨h0, h1, h2, h3, h4, h5⟩ := h
        refine ⟨h0, h1, by rw [h2, en], h3, h4.trans hk, fun z => h5 (hk.trans z), fun z => ?_⟩
        rw [ek] at z
        split at z <;> omega
    refine x17_0 ?_
    rw [a4, w32_id (by omega)]
    refine ⟨fun q4 => fin 4 ?_, fun q4 => fin 1 ?_⟩
    · rw [ek, if_neg (by omega)]
    · rw [ek, if_pos (by omega)]
  · have en : znx T N p = zqq T N p := by unfold znx; rw [if_pos (by omega)]
    have ek : zkd T N p = 0 := zkd_0.mpr (by omega)
    exact ⟨zf33_up (by omega) f1, by rw [zq_ne (by omega), en]; exact a3, by rw [zq_ne (by omega)]; exact a4, by rw [zq_eq, ek], fun z => by omega, fun z => by omega⟩
theorem c15l {H0 : zHt} {p : Nat} (hp : p ≤ N) : ∀ (c j : Nat) (H : zHt), j + c = N → zend (zbl T) N j = zqq T N p → zf33 H0 H → zTx H T N → H 33 2 = (N : Int) → H 33 3 = (j : Int) → zclV w (d + 1) 15 [zR 33] H (fun H' => zf33 H0 H' ∧ zCt H' T N p) := by
  intro c
  induction c with
  | zero =>
    intro j H hj he hf hT h2 h3
    refine x15_0 ⟨fun _ => c15b hp (q := j) (by rw [← he, zend_n (by omega)]) hf hT h2 h3, fun q => by omega⟩
  | succ c ih =>
    intro j H hj he hf hT h2 h3
    have h40 := hT.1
    have ht := (hT.2 j (by omega)).1
    have stp : zbl T j = true → zclV w (d + 1) 15 [zR 33] (zup H 33 3 ((j + 1 : Nat) : Int)) (fun H' => zf33 H0 H' ∧ zCt H' T N p) := fun hb => by
      rw [zend_t (by omega) hb] at he
      exact ih (j + 1) _ (by omega) he (zf33_up (by omega) hf) (zTx_33 (zf33_up (by omega) (fun _ _ _ => rfl)) hT) (by rw [zq_ne (by omega)]; exact h2) zq_eq
    refine x15_0 ⟨fun q => by omega, fun _ => ?_⟩
    rw [h3, ht, zi1 (by omega)]
    refine ⟨by omega, fun q => ?_, fun q => ⟨fun q2 => ?_, fun q2 => ?_⟩⟩
    · exact stp (decide_eq_true (Or.inl q))
    · exact c15b hp (q := j) (by rw [← he, zend_f (decide_eq_false (by omega))]) hf hT h2 h3
    · exact stp (decide_eq_true (Or.inr q2))
theorem c15 {p : Nat} (hp : p ≤ N) (hT : zTx H T N) (h2 : H 33 2 = (N : Int)) (h3 : H 33 3 = (p : Int)) : ∃ H', (zf33 H H' ∧ zCt H' T N p) ∧ ∀ K : zHt → Prop, zclV w (d + 1) 15 [zR 33] H K = K H' :=
  zclV_ex (c15l hp (N - p) p H (by omega) rfl (fun _ _ _ => rfl) hT h2 h3)
end Z74i
