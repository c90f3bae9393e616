/-! the case load: the model's TOKEN -/
def zf81 (H H' : zHt) : Prop := ∀ a j : Int, ¬ (a = 81 ∧ (36 ≤ j ∧ j ≤ 39 ∨ j = 41)) → H' a j = H a j
theorem zf81_up {H0 H : zHt} {j x : Int} (hj : 36 ≤ j ∧ j ≤ 39 ∨ j = 41) (h : zf81 H0 H) : zf81 H0 (zup H 81 j x) := fun a i q => by
  rw [zq_ne (fun z => q ⟨z.1, by rw [z.2]; exact hj⟩)]; exact h a i q
theorem zf81_tr {H H1 H2 : zHt} (h1 : zf81 H H1) (h2 : zf81 H1 H2) : zf81 H H2 := fun a j q => (h2 a j q).trans (h1 a j q)
/-- the TOKEN behind p, by the model -/
def zMt (H : zHt) (T : Nat → Int) (N p : Nat) : Prop := H 81 36 = (zqq T N p : Nat) ∧ H 81 38 = zkd T N p ∧ (zkd T N p ≠ 0 → H 81 37 = (znx T N p : Nat)) ∧ (zkd T N p = 1 → H 81 41 = zcdw 27 (zwd T N p)) ∧ (zkd T N p = 2 → H 81 39 = znm T N p)
section Z74j
variable {w : zWt} {d : Nat} {H : zHt} {T : Nat → Int} {N : Nat}
theorem zTx_81 {H' : zHt} (f : zf81 H H') (hT : zTxM H T N) : zTxM H' T N := ⟨hT.1, fun k hk => by rw [f 99 k (by omega)]; exact hT.2 k hk⟩
theorem c279 {k : Nat} {lo hi : Int} {K : Int → zHt → Prop} (hT : zTxM H T N) (h4 : H 81 40 = (N : Int)) (hlo : 0 ≤ lo) (hhi : hi ≤ 127) : zclI w (d + 1) 279 [zR 81, zI k, zI lo, zI hi] H K = K (if k < N ∧ lo ≤ T k ∧ T k ≤ hi then 1 else 0) H := zclI_eq fun K hK => x279_0 (by
  have h40 := hT.1
  refine ⟨fun q => ?_, fun q => ⟨by omega, ?_⟩⟩
  · rwa [if_neg (by omega)] at hK
  · obtain ⟨t1, t2, t3⟩ := hT.2 k (by omega)
    rw [c173, t1, zi8_lo ⟨t2, t3⟩]
    by_cases z : k < N ∧ lo ≤ T k ∧ T k ≤ hi
    · rw [if_pos z] at hK
      rw [if_pos (by rw [if_pos (by omega)]; exact z.2)]
      exact ⟨fun y => absurd y (by decide), fun _ => hK⟩
    · rw [if_neg z] at hK
      rw [if_neg (fun y => by
        by_cases x : T k < 128
        · rw [if_pos x] at y; exact z ⟨by omega, y⟩
        · rw [if_neg x] at y; omega)]
      exact ⟨fun _ => hK, fun y => absurd rfl y⟩)
theorem c278w {H0 : zHt} {q e : Nat} (he : e ≤ N) (hq : q ≤ e) (hin : ∀ i : Nat, q ≤ i → i < e → 97 ≤ T i ∧ T i ≤ 122) (hst : ¬ (e < N ∧ 97 ≤ T e ∧ T e ≤ 122)) : ∀ (c j : Nat) (H : zHt), j + c = e → q ≤ j → zf81 H0 H → zTxM H T N → H 81 40 = (N : Int) → H 81 37 = (j : Int) → H 81 36 = (q : Int) → (j ≤ q + 8 → H 81 41 = zcdw 27 (zlt2 T q (j - q))) → zgo w (d + 2) 278 127 [zR 81] [] H (zQV fun H' => zf81 H0 H' ∧ H' 81 36 = (q : Int) ∧ H' 81 38 = (if e ≤ q + 8 then 1 else 4) ∧ H' 81 37 = (e : Int) ∧ (e ≤ q + 8 → H' 81 41 = zcdw 27 (zlt2 T q (e - q)))) := by
  intro c
  induction c with
  | zero =>
    intro j H hj hqj hf hT h4 h7 h6 h1
    have h40 := hT.1
    have : j = e := by omega
    subst this
    refine x278_127 ?_
    rw [h7, c279 hT h4 (by omega) (by omega), if_neg hst, h6, h7, w32_id (by omega)]
    refine ⟨fun _ => ⟨fun z => ?_, fun z => ?_⟩, fun z => absurd rfl z⟩
    · exact ⟨zf81_up (by omega) hf, by rw [zq_ne (by omega)]; exact h6, by rw [zq_eq, if_pos (by omega)], by rw [zq_ne (by omega)]; exact h7, fun y => by rw [zq_ne (by omega)]; exact h1 y⟩
    · exact ⟨zf81_up (by omega) hf, by rw [zq_ne (by omega)]; exact h6, by rw [zq_eq, if_neg (by omega)], by rw [zq_ne (by omega)]; exact h7, fun y => by omega⟩
  | succ c ih =>
    intro j H hj hqj hf hT h4 h7 h6 h1
    have h40 := hT.1
    have hb := hin j hqj (by omega)
    obtain ⟨t1, t2, t3⟩ := hT.2 j (by omega)
    refine x278_127 ?_
    rw [h7, c279 hT h4 (by omega) (by omega), if_pos ⟨by omega, hb⟩, h6, h7, w32_id (by omega), zi1 (by omega), t1, zi8_lo ⟨t2, t3⟩, if_pos (show T j < 128 by omega)]
    have nx : ∀ x : Int, (j + 1 ≤ q + 8 → x = zcdw 27 (zlt2 T q (j + 1 - q))) → zgo w (d + 2) 278 127 [zR 81] [] (zup (zup H 81 41 x) 81 37 ((j + 1 : Nat) : Int)) (zQV fun H' => zf81 H0 H' ∧ H' 81 36 = (q : Int) ∧ H' 81 38 = (if e ≤ q + 8 then 1 else 4) ∧ H' 81 37 = (e : Int) ∧ (e ≤ q + 8 → H' 81 41 = zcdw 27 (zlt2 T q (e - q)))) := fun x hx =>
      ih (j + 1) _ (by omega) (by omega) (zf81_up (by omega) (zf81_up (by omega) hf)) (zTx_81 (zf81_up (by omega) (zf81_up (by omega) (fun _ _ _ => rfl))) hT) (by rw [zq_ne (by omega), zq_ne (by omega)]; exact h4) zq_eq (by rw [zq_ne (by omega), zq_ne (by omega)]; exact h6) (fun y => by rw [zq_ne (by omega), zq_eq]; exact hx y)
    refine ⟨fun z => absurd z (by decide), fun _ => ⟨fun z => nx 0 (fun y => by omega), fun z => ⟨by omega, ?_⟩⟩⟩
    have hcb := zcdw_b (b := 27) (by omega) (l := zlt2 T q (j - q)) (zlt2_in (fun i hi => hin (q + i) (by omega) (by omega)))
    rw [zlt2_len] at hcb
    have hp32 := zpow32 (b := 27) (k := j - q) (by omega) (by omega) (by omega)
    have hcb : 0 ≤ zcdw 27 (zlt2 T q (j - q)) ∧ zcdw 27 (zlt2 T q (j - q)) < ((27 ^ (j - q) : Nat) : Int) := hcb
    have hcb : 0 ≤ zcdw 27 (zlt2 T q (j - q)) ∧ zcdw 27 (zlt2 T q (j - q)) < 1099511627776 := ⟨hcb.1, by omega⟩
    rw [h1 (by omega)]
    refine nx _ (fun _ => ?_)
    rw [show j + 1 - q = (j - q) + 1 by omega]
    show _ = zcdw 27 (zlt2 T q (j - q)) * 27 + (T (q + (j - q)) - 96)
    rw [show q + (j - q) = j by omega, w64_id (show _ ≤ 27 * zcdw 27 (zlt2 T q (j - q)) ∧ _ by omega), w64_id (show _ ≤ 27 * zcdw 27 (zlt2 T q (j - q)) + T j ∧ _ by omega), w64_id (by omega)]
    omega
theorem c278n {H0 : zHt} {q e : Nat} (he : e ≤ N) (hq : q ≤ e) (hin : ∀ i : Nat, q ≤ i → i < e → 48 ≤ T i ∧ T i ≤ 57) (hst : ¬ (e < N ∧ 48 ≤ T e ∧ T e ≤ 57)) : ∀ (c j : Nat) (H : zHt), j + c = e → q ≤ j → zf81 H0 H → zTxM H T N → H 81 40 = (N : Int) → H 81 37 = (j : Int) → H 81 36 = (q : Int) → (j ≤ q + 9 → H 81 39 = zdg T q (j - q)) → zgo w (d + 2) 278 254 [zR 81] [] H (zQV fun H' => zf81 H0 H' ∧ H' 81 36 = (q : Int) ∧ H' 81 38 = (if e ≤ q + 9 then 2 else 4) ∧ H' 81 37 = (e : Int) ∧ (e ≤ q + 9 → H' 81 39 = zdg T q (e - q))) := by
  intro c
  induction c with
  | zero =>
    intro j H hj hqj hf hT h4 h7 h6 h1
    have h40 := hT.1
    have : j = e := by omega
    subst this
    refine x278_254 ?_
    rw [h7, c279 hT h4 (by omega) (by omega), if_neg hst, h6, h7, w32_id (by omega)]
    refine ⟨fun _ => ⟨fun z => ?_, fun z => ?_⟩, fun z => absurd rfl z⟩
    · exact ⟨zf81_up (by omega) hf, by rw [zq_ne (by omega)]; exact h6, by rw [zq_eq, if_pos (by omega)], by rw [zq_ne (by omega)]; exact h7, fun y => by rw [zq_ne (by omega)]; exact h1 y⟩
    · exact ⟨zf81_up (by omega) hf, by rw [zq_ne (by omega)]; exact h6, by rw [zq_eq, if_neg (by omega)], by rw [zq_ne (by omega)]; exact h7, fun y => by omega⟩
  | succ c ih =>
    intro j H hj hqj hf hT h4 h7 h6 h1
    have h40 := hT.1
    have hb := hin j hqj (by omega)
    obtain ⟨t1, t2, t3⟩ := hT.2 j (by omega)
    refine x278_254 ?_
    rw [h7, c279 hT h4 (by omega) (by omega), if_pos ⟨by omega, hb⟩, h6, h7, w32_id (by omega), zi1 (by omega), t1, zi8_lo ⟨t2, t3⟩, if_pos (show T j < 128 by omega)]
    have nx : ∀ x : Int, (j + 1 ≤ q + 9 → x = zdg T q (j + 1 - q)) → zgo w (d + 2) 278 254 [zR 81] [] (zup (zup H 81 39 x) 81 37 ((j + 1 : Nat) : Int)) (zQV fun H' => zf81 H0 H' ∧ H' 81 36 = (q : Int) ∧ H' 81 38 = (if e ≤ q + 9 then 2 else 4) ∧ H' 81 37 = (e : Int) ∧ (e ≤ q + 9 → H' 81 39 = zdg T q (e - q))) := fun x hx =>
      ih (j + 1) _ (by omega) (by omega) (zf81_up (by omega) (zf81_up (by omega) hf)) (zTx_81 (zf81_up (by omega) (zf81_up (by omega) (fun _ _ _ => rfl))) hT) (by rw [zq_ne (by omega), zq_ne (by omega)]; exact h4) zq_eq (by rw [zq_ne (by omega), zq_ne (by omega)]; exact h6) (fun y => by rw [zq_ne (by omega), zq_eq]; exact hx y)
    refine ⟨fun z => absurd z (by decide), fun _ => ⟨fun z => nx _ (fun y => by omega), fun z => ⟨by omega, ?_⟩⟩⟩
    have hcb := zdg_b (T := T) (q := q) (k := j - q) (fun i hi => hin (q + i) (by omega) (by omega))
    have hp10 := zpow10 (k := j - q + 1) (by omega)
    have e10 : ((10 ^ (j - q + 1) : Nat) : Int) = ((10 ^ (j - q) : Nat) : Int) * 10 := by rw [Nat.pow_succ, Int.natCast_mul]; rfl
    rw [e10] at hp10
    have hcb : 0 ≤ zdg T q (j - q) ∧ zdg T q (j - q) < 100000000 := ⟨hcb.1, by omega⟩
    rw [h1 (by omega)]
    refine nx _ (fun _ => ?_)
    rw [show j + 1 - q = (j - q) + 1 by omega]
    show _ = zdg T q (j - q) * 10 + (T (q + (j - q)) - 48)
    rw [show q + (j - q) = j by omega, w32_id (show _ ≤ 10 * zdg T q (j - q) ∧ _ by omega), w32_id (show _ ≤ 10 * zdg T q (j - q) + T j ∧ _ by omega), w32_id (by omega)]
    omega
/-- behind the blanks -/
theorem c278b {H0 : zHt} {p : Nat} {s : Int} (hp : p ≤ N) (hs : s = if N ≤ zqq T N p then 0 else if T (zqq T N p) = 59 then 3 else 4) (hf : zf81 H0 H) (hT : zTxM H T N) (h4 : H 81 40 = (N : Int)) (h6 : H 81 36 = (zqq T N p : Nat)) (h7 : H 81 37 = ((zqq T N p + 1 : Nat) : Int)) : zgo w (d + 2) 278 96 [zR 81] [zI s, zR 81] H (zQV fun H' => zf81 H0 H' ∧ zMt H' T N p) := by
  have b1 : p ≤ zqq T N p ∧ zqq T N p ≤ N := zend_b (P := zbl T) hp
  have b2 : zqq T N p ≤ zle2 T N p ∧ zle2 T N p ≤ N := zend_b (P := zlr T) (N := N) (p := zqq T N p) b1.2
  have b3 : zqq T N p ≤ zde2 T N p ∧ zde2 T N p ≤ N := zend_b (P := zdi T) (N := N) (p := zqq T N p) b1.2
  have inl : ∀ i : Nat, zqq T N p ≤ i → i < zle2 T N p → 97 ≤ T i ∧ T i ≤ 122 := fun i i1 i2 => of_decide_eq_true (zend_in (P := zlr T) (c := N - zqq T N p) (by omega) i1 i2)
  have ind : ∀ i : Nat, zqq T N p ≤ i → i < zde2 T N p → 48 ≤ T i ∧ T i ≤ 57 := fun i i1 i2 => of_decide_eq_true (zend_in (P := zdi T) (c := N - zqq T N p) (by omega) i1 i2)
  have stl : ¬ (zle2 T N p < N ∧ 97 ≤ T (zle2 T N p) ∧ T (zle2 T N p) ≤ 122) := fun z => absurd z.2 (of_decide_eq_false (zend_stop (P := zlr T) (c := N - zqq T N p) (by omega) z.1))
  have std : ¬ (zde2 T N p < N ∧ 48 ≤ T (zde2 T N p) ∧ T (zde2 T N p) ≤ 57) := fun z => absurd z.2 (of_decide_eq_false (zend_stop (P := zdi T) (c := N - zqq T N p) (by omega) z.1))
  have hl : zqq T N p < N ∧ 97 ≤ T (zqq T N p) ∧ T (zqq T N p) ≤ 122 ↔ zqq T N p < zle2 T N p := by
    refine ⟨fun z => ?_, fun z => ⟨by omega, inl _ (Nat.le_refl _) z⟩⟩
    have e : zle2 T N p = zend (zlr T) N (zqq T N p + 1) := zend_t z.1 (decide_eq_true z.2)
    have := (zend_b (P := zlr T) (N := N) (p := zqq T N p + 1) (by omega)).1
    omega
  have hd : zqq T N p < N ∧ 48 ≤ T (zqq T N p) ∧ T (zqq T N p) ≤ 57 ↔ zqq T N p < zde2 T N p := by
    refine ⟨fun z => ?_, fun z => ⟨by omega, ind _ (Nat.le_refl _) z⟩⟩
    have e : zde2 T N p = zend (zdi T) N (zqq T N p + 1) := zend_t z.1 (decide_eq_true z.2)
    have := (zend_b (P := zdi T) (N := N) (p := zqq T N p + 1) (by omega)).1
    omega
  have h40 := hT.1
  refine x278_96 ?_
  have f1 : zf81 H0 (zup H 81 38 s) := zf81_up (by omega) hf
  have T1 : zTxM (zup H 81 38 s) T N := zTx_81 (zf81_up (by omega) (fun _ _ _ => rfl)) hT
  have a4 : zup H 81 38 s 81 40 = (N : Int) := by rw [zq_ne (by omega)]; exact h4
  have a6 : zup H 81 38 s 81 36 = (zqq T N p : Nat) := by rw [zq_ne (by omega)]; exact h6
  have a7 : zup H 81 38 s 81 37 = ((zqq T N p + 1 : Nat) : Int) := by rw [zq_ne (by omega)]; exact h7
  have a8 : zup H 81 38 s 81 38 = s := zq_eq
  rw [h6]
  generalize zup H 81 38 s = H1 at f1 T1 a4 a6 a7 a8 ⊢
  rw [c279 T1 a4 (by omega) (by omega), a6]
  by_cases zl : zqq T N p < zle2 T N p
  · rw [if_pos (hl.mpr zl)]
    refine ⟨fun z => absurd z (by decide), fun _ => ?_⟩
    have en : znx T N p = zle2 T N p := by unfold znx; rw [if_neg (by omega), if_pos (by omega)]
    have ek : zkd T N p = if zle2 T N p ≤ zqq T N p + 8 then 1 else 4 := by unfold zkd; rw [if_neg (by omega), if_pos (by omega)]
    refine g_mono (c278w (T := T) (N := N) (H0 := H0) (q := zqq T N p) (e := zle2 T N p) b2.2 (by omega) inl stl (zle2 T N p - zqq T N p) (zqq T N p) _ (by omega) (Nat.le_refl _) (zf81_up (by omega) (zf81_up (by omega) f1)) (zTx_81 (zf81_up (by omega) (zf81_up (by omega) (fun _ _ _ => rfl))) T1) (by rw [zq_ne (by omega), zq_ne (by omega)]; exact a4) zq_eq (by rw [zq_ne (by omega), zq_ne (by omega)]; exact a6) (fun _ => by rw [zq_ne (by omega), zq_eq, Nat.sub_self]; rfl)) (fun r H' h => ?_)
    obtain ⟨h0, g1, g2, g3, g4, g5⟩ := h
    refine ⟨h0, g1, g2, by rw [g3, ek], fun _ => by rw [g4, en], fun z => g5 ?_, fun z => ?_⟩
    · rw [ek] at z
      split at z
      · assumption
      · omega
    · rw [ek] at z
      split at z <;> omega
  · rw [if_neg (fun z => zl (hl.mp z))]
    refine ⟨fun _ => ?_, fun z => absurd rfl z⟩
    rw [c279 T1 a4 (by omega) (by omega), a6]
    by_cases zd : zqq T N p < zde2 T N p
    · rw [if_pos (hd.mpr zd)]
      refine ⟨fun z => absurd z (by decide), fun _ => ?_⟩
      have en : znx T N p = zde2 T N p := by unfold znx; rw [if_neg (by omega), if_neg (by omega), if_pos (by omega)]
      have ek : zkd T N p = if zde2 T N p ≤ zqq T N p + 9 then 2 else 4 := by unfold zkd; rw [if_neg (by omega), if_neg (by omega), if_pos (by omega)]
      refine g_mono (c278n (T := T) (N := N) (H0 := H0) (q := zqq T N p) (e := zde2 T N p) b3.2 (by omega) ind std (zde2 T N p - zqq T N p) (zqq T N p) _ (by omega) (Nat.le_refl _) (zf81_up (by omega) (zf81_up (by omega) f1)) (zTx_81 (zf81_up (by omega) (zf81_up (by omega) (fun _ _ _ => rfl))) T1) (by rw [zq_ne (by omega), zq_ne (by omega)]; exact a4) zq_eq (by rw [zq_ne (by omega), zq_ne (by omega)]; exact a6) (fun _ => by rw [zq_ne (by omega), zq_eq, Nat.sub_self]; rfl)) (fun r H' h => ?_)
      obtain ⟨h0, g1, g2, g3, g4, g5⟩ := h
      refine ⟨h0, g1, g2, by rw [g3, ek], fun _ => by rw [g4, en], fun z => ?_, fun z => g5 ?_⟩
      · rw [ek] at z
        split at z <;> omega
      · rw [ek] at z
        split at z
        · assumption
        · omega
    · rw [if_neg (fun z => zd (hd.mp z))]
      refine ⟨fun _ => ⟨f1, a6, ?_, fun z => ?_, fun z => ?_, fun z => ?_⟩, fun z => absurd rfl z⟩
      · rw [a8, hs]; unfold zkd
        by_cases y : N ≤ zqq T N p
        · rw [if_pos y, if_pos y]
        · rw [if_neg y, if_neg y, if_neg zl, if_neg zd]
      · have : ¬ N ≤ zqq T N p := fun y => z (zkd_0.mpr y)
        rw [a7]; unfold znx
        rw [if_neg this, if_neg zl, if_neg zd]
      · unfold zkd at z
        split at z
        · omega
        · split at z <;> omega
      · unfold zkd at z
        split at z
        · omega
        · split at z <;> omega
theorem c278l {H0 : zHt} {p : Nat} (hp : p ≤ N) : ∀ (c j : Nat) (H : zHt), j + c = N → zend (zbl T) N j = zqq T N p → zf81 H0 H → zTxM H T N → H 81 40 = (N : Int) → H 81 36 = (j : Int) → zgo w (d + 2) 278 8 [zR 81] [] H (zQV fun H' => zf81 H0 H' ∧ zMt H' T N p) := by
  have fin : ∀ (j : Nat) (H : zHt), j ≤ N → j = zqq T N p → zf81 H0 H → zTxM H T N → H 81 40 = (N : Int) → H 81 36 = (j : Int) → ((H 81 36 < H 81 40 → (0 ≤ H 81 36 ∧ H 81 36 < 400) ∧ (¬ (H 99 (H 81 36)) = 59 → zgo w (d + 2) 278 96 [zR 81] [zI 4, zR 81] (zup H 81 37 (w32 (H 81 36 + 1))) (zQV fun H' => zf81 H0 H' ∧ zMt H' T N p)) ∧ ((H 99 (H 81 36)) = 59 → zgo w (d + 2) 278 96 [zR 81] [zI 3, zR 81] (zup H 81 37 (w32 (H 81 36 + 1))) (zQV fun H' => zf81 H0 H' ∧ zMt H' T N p))) ∧ (H 81 40 ≤ H 81 36 → zgo w (d + 2) 278 96 [zR 81] [zI 0, zR 81] (zup H 81 37 (w32 (H 81 36 + 1))) (zQV fun H' => zf81 H0 H' ∧ zMt H' T N p))) := fun j H hj hq hf hT h4 h6 => by
    subst hq
    have h40 := hT.1
    have go : ∀ s : Int, (s = if N ≤ zqq T N p then 0 else if T (zqq T N p) = 59 then 3 else 4) → zgo w (d + 2) 278 96 [zR 81] [zI s, zR 81] (zup H 81 37 ((zqq T N p + 1 : Nat) : Int)) (zQV fun H' => zf81 H0 H' ∧ zMt H' T N p) := fun s hs =>
      c278b hp hs (zf81_up (by omega) hf) (zTx_81 (zf81_up (by omega) (fun _ _ _ => rfl)) hT) (by rw [zq_ne (by omega)]; exact h4) (by rw [zq_ne (by omega)]; exact h6) zq_eq
    rw [h6, h4, zi1 (by omega)]
    refine ⟨fun q => ⟨by omega, ?_⟩, fun q => go 0 (by rw [if_pos (by omega)])⟩
    obtain ⟨t1, t2, t3⟩ := hT.2 (zqq T N p) (by omega)
    rw [t1, zi8_lo ⟨t2, t3⟩]
    refine ⟨fun z => go 4 ?_, fun z => go 3 ?_⟩
    · rw [if_neg (by omega), if_neg (fun y => z (by rw [if_pos (by omega)]; exact y))]
    · rw [if_neg (by omega), if_pos]
      split at z <;> omega
  intro c
  induction c with
  | zero =>
    intro j H hj he hf hT h4 h6
    have h40 := hT.1
    have hq : j = zqq T N p := by rw [← he, zend_n (by omega)]
    refine x278_8 ?_
    rw [h6, c279 hT h4 (by omega) (by omega), if_neg (by omega)]
    refine ⟨fun z => absurd rfl z, fun _ => ?_⟩
    rw [h6, c279 hT h4 (by omega) (by omega), if_neg (by omega)]
    exact ⟨fun _ => fin j H (by omega) hq hf hT h4 h6, fun z => absurd rfl z⟩
  | succ c ih =>
    intro j H hj he hf hT h4 h6
    have h40 := hT.1
    have stp : zbl T j = true → zgo w (d + 2) 278 8 [zR 81] [] (zup H 81 36 ((j + 1 : Nat) : Int)) (zQV fun H' => zf81 H0 H' ∧ zMt H' T N p) := fun hb => by
      rw [zend_t (by omega) hb] at he
      exact ih (j + 1) _ (by omega) he (zf81_up (by omega) hf) (zTx_81 (zf81_up (by omega) (fun _ _ _ => rfl)) hT) (by rw [zq_ne (by omega)]; exact h4) zq_eq
    refine x278_8 ?_
    rw [h6, c279 hT h4 (by omega) (by omega)]
    by_cases z1 : j < N ∧ 32 ≤ T j ∧ T j ≤ 32
    · rw [if_pos z1]
      refine ⟨fun _ => ?_, fun z => absurd z (by decide)⟩
      rw [h6, zi1 (by omega)]
      exact stp (decide_eq_true (Or.inr (by omega)))
    · rw [if_neg z1]
      refine ⟨fun z => absurd rfl z, fun _ => ?_⟩
      rw [h6, c279 hT h4 (by omega) (by omega)]
      by_cases z2 : j < N ∧ 10 ≤ T j ∧ T j ≤ 10
      · rw [if_pos z2]
        refine ⟨fun z => absurd z (by decide), fun _ => ?_⟩
        rw [h6, zi1 (by omega)]
        exact stp (decide_eq_true (Or.inl (by omega)))
      · rw [if_neg z2]
        exact ⟨fun _ => fin j H (by omega) (by rw [← he, zend_f (decide_eq_false (by omega))]) hf hT h4 h6, fun z => absurd rfl z⟩
theorem c278 {p : Nat} (hp : p ≤ N) (hT : zTxM H T N) (h4 : H 81 40 = (N : Int)) (h7 : H 81 37 = (p : Int)) : ∃ H', (zf81 H H' ∧ zMt H' T N p) ∧ ∀ K : zHt → Prop, zclV w (d + 2) 278 [zR 81] H K = K H' :=
  zclV_ex (x278_0 (by
    rw [h7]
    exact c278l hp (N - p) p _ (by omega) rfl (zf81_up (by omega) (fun _ _ _ => rfl)) (zTx_81 (zf81_up (by omega) (fun _ _ _ => rfl)) hT) (by rw [zq_ne (by omega)]; exact h4) zq_eq))
end Z74j
