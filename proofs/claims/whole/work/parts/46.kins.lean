/-! the cases kins, untouched -/
section Z46
variable {w : zWt} {d : Nat} {H : zHt}
theorem zi0 {f : Nat} (h : f ≤ 2000000000) : w32 ((f : Int) + 0) = (f : Int) := by rw [w32_id (by omega)]; omega
-- kins, by the class
def zSt (H : zHt) (A : Int) (a n : Nat) : Prop := ∀ j : Nat, j < n → H A j = zall (zfac (a + j))
theorem c84l {a size first i : Nat} {K : Int → zHt → Prop} (hs : size ≤ 201) (ha : a + size ≤ 1000000000) (hT : zSt H 50 a size) (hf : first ≤ size) (hi : i < size) : ∀ (c j f : Nat), j + c = first → f + c ≤ 300 → K ((f + zcn (zPks a i) c j : Nat) : Int) H → zgo w d 84 6 [zR 32, zI a, zI first, zI i, zI f, zI j] [] H (zQI K) := by
  intro c
  induction c with
  | zero =>
    intro j f hj hc hK
    exact x84_6 ⟨fun _ => hK, fun q => by omega⟩
  | succ c ih =>
    intro j f hj hc hK
    have e1 : w32 ((a : Int) + (i : Int)) = ((a + i : Nat) : Int) := w32_id (by omega)
    have e2 : w32 ((a : Int) + (j : Int)) = ((a + j : Nat) : Int) := w32_id (by omega)
    refine x84_6 ⟨fun q => by omega, fun _ => ⟨fun q => by omega, fun _ => ⟨fun q => by omega, fun _ => ⟨fun q => ?_, fun q => ⟨by omega, by omega, ?_⟩⟩⟩⟩⟩
    · rw [zcn_f (decide_eq_false (fun z => z.1 (by omega)))] at hK
      rw [zi1 (by omega)]
      exact ih (j + 1) f (by omega) (by omega) hK
    · rw [hT j (by omega), hT i hi, e1, e2, zi1 (by omega), zi1 (by omega)]
      refine ⟨fun q2 => ?_, fun q2 => ?_⟩
      · rw [zcn_f (decide_eq_false (fun z => q2 z.2))] at hK
        exact ih (j + 1) f (by omega) (by omega) hK
      · rw [zcn_t (decide_eq_true ⟨by omega, q2⟩)] at hK
        exact ih (j + 1) (f + 1) (by omega) (by omega) (by rw [show f + 1 + zcn (zPks a i) c (j + 1) = f + (zcn (zPks a i) c (j + 1) + 1) by omega]; exact hK)
theorem c84 {a size first i : Nat} {K : Int → zHt → Prop} (hs : size ≤ 201) (ha : a + size ≤ 1000000000) (hT : zSt H 50 a size) (hf : first ≤ size) (hi : i < size) : zclI w d 84 [zR 32, zI a, zI first, zI i] H K = K (zcn (zPks a i) first 0 : Int) H :=
  zclI_eq fun K h => x84_0 (c84l hs ha hT hf hi first 0 0 (by omega) (by omega) (by rw [Nat.zero_add]; exact h))
theorem b83l {H0 : zHt} {t : Int} {a size : Nat} {A : Int × Int} (ht : 0 ≤ t ∧ t ≤ 2) (hs : size ≤ 201) (ha : a + size ≤ 1000000000) (hF : zcf H0 H) (hT : zSt H 50 a size) : ∀ (c i u r mo be : Nat), i + c = size → u ≤ i → r ≤ i → mo ≤ 300 → zKl t a size c i u r mo be = A → zgo w (d + 1) 83 91 [zR 32, zI a, zJ, zI t, zI size, zI u, zI r, zI mo, zI be, zI i, zJ] [] H (zQI (zPC H0 A)) := by
  intro c
  induction c with
  | zero =>
    intro i u r mo be hi hu hr hm hA
    have hA : (if t = 2 then (if mo = 0 then ((5 : Int), (-1 : Int)) else (0, (be : Int))) else (0, if t = 0 then (u : Int) else (r : Int))) = A := hA
    refine x83_91 ⟨fun _ => ⟨fun q => ⟨fun q2 => ?_, fun q2 => ?_⟩, fun q => ⟨fun q2 => ?_, fun q2 => ?_⟩⟩, fun q => by omega⟩
    · rw [if_neg q, if_neg q2] at hA; exact zPC_d hF hA.symm
    · rw [if_neg q, if_pos q2] at hA; exact zPC_d hF hA.symm
    · rw [if_pos q, if_neg (by omega)] at hA; exact zPC_d hF hA.symm
    · rw [if_pos q, if_pos (by omega)] at hA; exact zPC_r hF hA.symm
  | succ c ih =>
    intro i u r mo be hi hu hr hm hA
    unfold zKl at hA
    have hk := zcn_le (P := zPks a i) (c := size) (m := 0)
    have e1 : w32 ((a : Int) + (i : Int)) = ((a + i : Nat) : Int) := w32_id (by omega)
    refine x83_91 ⟨fun q => by omega, fun _ => ?_⟩
    rw [c84 hs ha hT (Nat.le_refl _) (by omega), c84 hs ha hT (by omega) (by omega), zi1 (by omega)]
    generalize zcn (zPks a i) size 0 = k at *
    have B : ∀ u' : Nat, u' ≤ i + 1 → (if zcn (zPks a i) i 0 = 0 then u + 1 else u) = u' → zgo w (d + 1) 83 124 [zR 32, zI a, zJ, zI t, zI size, zI u', zI r, zI mo, zI be, zI i, zI k] [] H (zQI (zPC H0 A)) := fun u' hu' eu => by
      rw [eu] at hA
      refine x83_124 ?_
      rw [e1, zi1 (by omega), zi1 (by omega)]
      refine ⟨fun q => ⟨fun q2 => ?_, fun q2 => by omega⟩, fun q => ⟨fun q2 => ?_, fun q2 => ?_⟩⟩
      · rw [if_neg (by omega), if_neg (by omega), if_neg (by omega)] at hA
        exact ih (i + 1) u' r mo be (by omega) hu' (by omega) hm hA
      · rw [if_pos (by omega), if_neg (by omega), if_neg (by omega)] at hA
        exact ih (i + 1) u' (r + 1) mo be (by omega) hu' (by omega) hm hA
      · rw [if_pos (by omega), if_pos (by omega), if_pos (by omega)] at hA
        exact ih (i + 1) u' (r + 1) k (a + i) (by omega) hu' (by omega) (by omega) hA
    refine ⟨fun q => B u (by omega) (if_neg (by omega)), fun q => B (u + 1) (by omega) (if_pos (by omega))⟩
theorem b83f {H0 : zHt} {t : Int} {a size : Nat} {A : Int × Int} (hMR : zMR) (ht : 0 ≤ t ∧ t ≤ 2) (hs : size ≤ 201) (ha : a + size ≤ 1000000000) (ha1 : 1 ≤ a) (hA : zKl t a size size 0 0 0 0 0 = A) : ∀ (c i : Nat) (H : zHt), i + c = size → zcf H0 H → zSt H 50 a i → zgo w (d + 4) 83 35 [zR 32, zI a, zJ, zI t, zI size, zI i, zJ, zJ, zJ, zJ, zJ] [] H (zQI (zPC H0 A)) := by
  intro c
  induction c with
  | zero =>
    intro i H hi hF hT
    have : i = size := by omega
    subst this
    exact x83_35 ⟨fun _ => b83l (d := d + 3) ht hs ha hF hT i 0 0 0 0 0 (by omega) (by omega) (by omega) (by omega) hA, fun q => by omega⟩
  | succ c ih =>
    intro i H hi hF hT
    obtain ⟨H1, g, e⟩ := c69 (w := w) (d := d) (H := H) (n := a + i) hMR (by omega) (by omega)
    refine x83_35 ⟨fun q => by omega, fun _ => ⟨fun q => by omega, fun _ => ?_⟩⟩
    rw [show w32 ((a : Int) + (i : Int)) = ((a + i : Nat) : Int) from w32_id (by omega), e, zi1 (by omega)]
    refine ⟨by omega, ih (i + 1) _ (by omega) (zcf_up (zcf_fc hF g) rfl (by omega)) (fun j hj => ?_)⟩
    by_cases z : j = i
    · subst z; rw [zq_eq]
    · rw [zq_ne (by omega), g 50 j (by decide) (by decide) (by omega)]; exact hT j (by omega)
theorem b83 {a b t : Int} (hMR : zMR) : zclI w (d + 4) 83 [zR 32, zI a, zI b, zI t] H (zPC H (zAks a b t)) := by
  unfold zAks
  by_cases hg : ((1 ≤ a ∧ a ≤ 999999999) ∧ (1 ≤ b ∧ b ≤ 999999999) ∧ a ≤ b ∧ b - a ≤ 200) ∧ 0 ≤ t ∧ t ≤ 2
  · rw [if_pos hg]
    obtain ⟨m, rfl⟩ : ∃ m : Nat, a = m := ⟨a.toNat, by omega⟩
    refine x83_0 ?_
    simp only [c43, c44, c81, zit0, Classical.not_not]
    refine ⟨fun q => by omega, fun _ => ⟨fun _ => ?_, fun q => by omega⟩⟩
    rw [show w32 (w32 (b - (m : Int)) + 1) = (((b + 1 - (m : Int)).toNat : Nat) : Int) by rw [w32_id (show _ ≤ b - (m : Int) ∧ _ by omega), w32_id (by omega)]; omega]
    rw [Int.toNat_natCast]
    exact b83f hMR hg.2 (by omega) (by omega) (by omega) rfl (b + 1 - (m : Int)).toNat 0 H (by omega) zcf_rfl (fun j hj => by omega)
  · have eA : (1, -1) = ((1 : Int), (-1 : Int)) := rfl
    rw [if_neg hg]
    refine x83_0 ?_
    simp only [c43, c44, c81, zit0, Classical.not_not]
    repeat' (first | exact zPC_r zcf_rfl eA | omega | intro _ | with_reducible refine And.intro ?_ ?_)
-- kins, by the model
theorem c203l {a size i top : Nat} {K : Int → zHt → Prop} (hs : size ≤ 201) (ha : a + size ≤ 1000000000) (hT : zSt H 89 a size) (hi : i < size) (hft : top ≤ size) : ∀ (c j f : Nat), j + c = top → f + c ≤ 300 → (j ≤ i → top ≤ i) → K ((f + zcn (zPks a i) c j : Nat) : Int) H → zgo w d 203 6 [zR 81, zI ((a + i : Nat) : Int), zI a, zJ, zI ((a : Int) + (top : Int) - 1), zI f, zI ((a + j : Nat) : Int)] [] H (zQI K) := by
  intro c
  induction c with
  | zero =>
    intro j f hj hc hji hK
    exact x203_6 ⟨fun _ => hK, fun q => by omega⟩
  | succ c ih =>
    intro j f hj hc hji hK
    have e1 : w32 (((a + j : Nat) : Int) - (a : Int)) = (j : Int) := by rw [w32_id (by omega)]; omega
    have e2 : w32 (((a + i : Nat) : Int) - (a : Int)) = (i : Int) := by rw [w32_id (by omega)]; omega
    refine x203_6 ⟨fun q => by omega, fun _ => ?_⟩
    rw [e1, e2, hT j (by omega), hT i hi, zi1 (by omega), zi0 (by omega), zi1 (by omega)]
    refine ⟨by omega, by omega, fun q2 => ?_, fun q2 => ?_⟩
    · rw [zcn_f (decide_eq_false (fun z => q2 z.2))] at hK
      exact ih (j + 1) f (by omega) (by omega) (fun z => by omega) hK
    · rw [zcn_t (decide_eq_true ⟨by omega, q2⟩)] at hK
      exact ih (j + 1) (f + 1) (by omega) (by omega) (fun z => by omega) (by rw [show f + 1 + zcn (zPks a i) c (j + 1) = f + (zcn (zPks a i) c (j + 1) + 1) by omega]; exact hK)
theorem b202l {H0 : zHt} {t b : Int} {a size : Nat} {A : Int × Int} (ht : 0 ≤ t ∧ t ≤ 2) (hb : b = (a : Int) + size - 1) (hs : size ≤ 201) (hs1 : 1 ≤ size) (ha : a + size ≤ 1000000000) (hF : zmf H0 H) (h0 : H 81 0 = 0) (hT : zSt H 89 a size) : ∀ (c i u r mo be : Nat) (bm : Int), i + c = size → u ≤ i → r ≤ i → mo ≤ 300 → bm = (if mo = 0 then -1 else (be : Int)) → zKl t a size c i u r mo be = A → zgo w (d + 1) 202 82 [zR 81, zI a, zI b, zI t, zI u, zI r, zI bm, zI mo, zI ((a + i : Nat) : Int), zJ, zJ] [] H (zQI (zPM H0 A)) := by
  subst hb
  intro c
  induction c with
  | zero =>
    intro i u r mo be bm hi hu hr hm hbm hA
    have hA : (if t = 2 then (if mo = 0 then ((5 : Int), (-1 : Int)) else (0, (be : Int))) else (0, if t = 0 then (u : Int) else (r : Int))) = A := hA
    refine x202_82 ⟨fun _ => ⟨fun q => ⟨fun q2 => ⟨fun q3 => ?_, fun q3 => ?_⟩, fun q2 => ?_⟩, fun q => ?_⟩, fun q => by omega⟩
    · by_cases z : mo = 0
      · rw [if_pos z] at hbm; omega
      · rw [if_pos (by omega), if_neg z] at hA
        rw [if_neg z] at hbm
        exact zPM_0 hF h0 (by rw [hbm]; exact hA.symm)
    · by_cases z : mo = 0
      · rw [if_pos (by omega), if_pos z] at hA
        exact zPM_r hF hA.symm
      · rw [if_neg z] at hbm; omega
    · rw [if_neg (by omega), if_neg q] at hA; exact zPM_0 hF h0 hA.symm
    · rw [if_neg (by omega), if_pos q] at hA; exact zPM_0 hF h0 hA.symm
  | succ c ih =>
    intro i u r mo be bm hi hu hr hm hbm hA
    unfold zKl at hA
    have hk := zcn_le (P := zPks a i) (c := size) (m := 0)
    have hsp := zks_split (a := a) (i := i) (size := size) (by omega)
    refine x202_82 ⟨fun q => by omega, fun _ => ?_⟩
    have e1 : ∀ K : Int → zHt → Prop, zclI w d 203 [zR 81, zI ((a + i : Nat) : Int), zI a, zI a, zI (w32 (((a + i : Nat) : Int) - 1))] H K = K (zcn (zPks a i) i 0 : Int) H := fun K => zclI_eq fun K h => x203_0 (by
      rw [show w32 (((a + i : Nat) : Int) - 1) = (a : Int) + (i : Int) - 1 by rw [w32_id (by omega)]; omega]
      exact c203l (d := d) hs ha hT (by omega) (by omega) i 0 0 (by omega) (by omega) (fun _ => Nat.le_refl _) (by rw [Nat.zero_add]; exact h))
    have e2 : ∀ K : Int → zHt → Prop, zclI w d 203 [zR 81, zI ((a + i : Nat) : Int), zI a, zI (w32 (((a + i : Nat) : Int) + 1)), zI ((a : Int) + (size : Int) - 1)] H K = K (zcn (zPks a i) (size - 1 - i) (i + 1) : Int) H := fun K => zclI_eq fun K h => x203_0 (by
      rw [show w32 (((a + i : Nat) : Int) + 1) = ((a + (i + 1) : Nat) : Int) by rw [w32_id (by omega)]; omega]
      exact c203l (d := d) hs ha hT (by omega) (Nat.le_refl _) (size - 1 - i) (i + 1) 0 (by omega) (by omega) (fun _ => by omega) (by rw [Nat.zero_add]; exact h))
    rw [e1, e2, show w32 ((zcn (zPks a i) i 0 : Int) + (zcn (zPks a i) (size - 1 - i) (i + 1) : Int)) = (zcn (zPks a i) size 0 : Int) by rw [w32_id (by omega)]; omega]
    generalize zcn (zPks a i) size 0 = k at *
    have B : ∀ (u' : Nat) (s0 : Int), u' ≤ i + 1 → (u' : Int) = u + s0 → (if zcn (zPks a i) i 0 = 0 then u + 1 else u) = u' → zgo w (d + 1) 202 131 [zR 81, zI a, zI ((a : Int) + (size : Int) - 1), zI t, zJ, zI r, zI bm, zI mo, zI ((a + i : Nat) : Int), zJ, zI k] [zI s0, zI u] H (zQI (zPM H0 A)) := fun u' s0 hu' hs0 eu => by
      rw [eu] at hA
      refine x202_131 ?_
      rw [show w32 ((u : Int) + s0) = (u' : Int) by rw [← hs0]; exact w32_id (by omega), zi0 (by omega), zi1 (m := a + i) (by omega), zi1 (m := r) (by omega)]
      refine ⟨fun q => ⟨fun q2 => by omega, fun q2 => ?_⟩, fun q => ⟨fun q2 => ?_, fun q2 => ?_⟩⟩
      · rw [if_neg (by omega), if_neg (by omega), if_neg (by omega)] at hA
        exact ih (i + 1) u' r mo be bm (by omega) hu' (by omega) hm hbm hA
      · rw [if_pos (by omega), if_pos (by omega), if_pos (by omega)] at hA
        exact ih (i + 1) u' (r + 1) k (a + i) _ (by omega) hu' (by omega) (by omega) (by rw [if_neg (by omega)]) hA
      · rw [if_pos (by omega), if_neg (by omega), if_neg (by omega)] at hA
        exact ih (i + 1) u' (r + 1) mo be bm (by omega) hu' (by omega) hm hbm hA
    refine ⟨fun q => B u 0 (by omega) (by omega) (if_neg (by omega)), fun q => B (u + 1) 1 (by omega) (by omega) (if_pos (by omega))⟩
theorem b202f {H0 : zHt} {t b : Int} {a size : Nat} {A : Int × Int} (ht : 0 ≤ t ∧ t ≤ 2) (hb : b = (a : Int) + size - 1) (hs : size ≤ 201) (hs1 : 1 ≤ size) (ha : a + size ≤ 1000000000) (ha1 : 1 ≤ a) (hA : zKl t a size size 0 0 0 0 0 = A) : ∀ (c i : Nat) (H : zHt), i + c = size → zmf H0 H → H 81 0 = 0 → zSt H 89 a i → zgo w (d + 4) 202 40 [zR 81, zI a, zI b, zI t, zI ((a + i : Nat) : Int), zJ, zJ, zJ, zJ, zJ, zJ] [] H (zQI (zPM H0 A)) := by
  intro c
  induction c with
  | zero =>
    intro i H hi hF h0 hT
    have : i = size := by omega
    subst this
    exact x202_40 ⟨fun _ => b202l (d := d + 3) ht hb hs hs1 ha hF h0 hT i 0 0 0 0 0 _ (by omega) (by omega) (by omega) (by omega) rfl hA, fun q => by omega⟩
  | succ c ih =>
    intro i H hi hF h0 hT
    obtain ⟨H1, F, e⟩ := c182 (w := w) (d := d + 2) (H := H) (n := a + i) (by omega) (by omega)
    refine x202_40 ⟨fun q => by omega, fun _ => ?_⟩
    rw [e, show w32 (((a + i : Nat) : Int) - (a : Int)) = (i : Int) by rw [w32_id (by omega)]; omega, show w32 (((a + i : Nat) : Int) + 1) = ((a + (i + 1) : Nat) : Int) by rw [w32_id (by omega)]; omega]
    refine ⟨by omega, ih (i + 1) _ (by omega) (zmf_up (zmf_fm hF F.1) rfl (by omega)) ?_ (fun j hj => ?_)⟩
    · rw [zq_ne (by omega), F.1 81 0 (by decide) (by decide) (by decide)]; exact h0
    by_cases z : j = i
    · subst z; rw [zq_eq]
    · rw [zq_ne (by omega), F.1 89 j (by decide) (by decide) (by omega)]; exact hT j (by omega)
theorem b202 {a b t : Int} : zclI w (d + 4) 202 [zR 81, zI a, zI b, zI t] H (zPM H (zAks a b t)) := by
  unfold zAks
  by_cases hg : ((1 ≤ a ∧ a ≤ 999999999) ∧ (1 ≤ b ∧ b ≤ 999999999) ∧ a ≤ b ∧ b - a ≤ 200) ∧ 0 ≤ t ∧ t ≤ 2
  · rw [if_pos hg]
    obtain ⟨m, rfl⟩ : ∃ m : Nat, a = m := ⟨a.toNat, by omega⟩
    refine x202_0 ?_
    simp only [c176, c173, c201, c174_0, c174_1, c174_2, c174_3, c174_4, c174_5, zit0, z10a, z10b, Classical.not_not, not_true_eq_false, false_implies, true_implies, true_and, and_true]
    refine ⟨fun q => by omega, fun _ => ⟨fun q => by omega, fun _ => ?_⟩⟩
    rw [Int.toNat_natCast]
    exact b202f hg.2 (by omega) (by omega) (by omega) (by omega) (by omega) rfl (b + 1 - (m : Int)).toNat 0 (zst H 0) (by omega) (zst_f zmf_rfl) rfl (fun j hj => by omega)
  · have eA : (1, -1) = ((1 : Int), (-1 : Int)) := rfl
    rw [if_neg hg]
    refine x202_0 ?_
    simp only [c176, c173, c201, c174_0, c174_1, c174_2, c174_3, c174_4, c174_5, zit0, z10a, z10b, Classical.not_not, not_true_eq_false, false_implies, true_implies, true_and, and_true]
    repeat' (first | exact zPM_n zmf_rfl eA | omega | intro _ | with_reducible refine And.intro ?_ ?_)
-- untouched, by the class
theorem c96l {H0 : zHt} : ∀ (c i : Nat) (H : zHt), i + c = 501 → (∀ a j : Int, a ≠ 51 → H a j = H0 a j) → (∀ j : Nat, j < i → H 51 j = 0) → zgo w d 96 2 [zR 32, zI i] [] H (zQV fun H' => (∀ a j : Int, a ≠ 51 → H' a j = H0 a j) ∧ ∀ j : Nat, j < 501 → H' 51 j = 0) := by
  intro c
  induction c with
  | zero =>
    intro i H hi hF hT
    exact x96_2 ⟨fun _ => ⟨hF, fun j hj => hT j (by omega)⟩, fun q => by omega⟩
  | succ c ih =>
    intro i H hi hF hT
    refine x96_2 ⟨fun q => by omega, fun _ => ?_⟩
    rw [zi1 (by omega)]
    refine ⟨by omega, ih (i + 1) _ (by omega) (fun a j q => by rw [zq_ne (fun z => q z.1)]; exact hF a j q) (fun j hj => ?_)⟩
    by_cases z : j = i
    · subst z; rw [zq_eq]
    · rw [zq_ne (by omega)]; exact hT j (by omega)
theorem zcf_51 {H0 H : zHt} (h : ∀ a j : Int, a ≠ 51 → H a j = H0 a j) : zcf H0 H := ⟨zRk_of (fun a j q => h a j (fun z => by subst z; cases q)), h 81 0 (by decide)⟩
theorem b95c {H0 : zHt} {law n t : Int} {M : Nat} {A : Int × Int} (hn : n ≤ 500) (hF : zcf H0 H) (hT : ∀ v : Nat, 1 ≤ v → v ≤ 500 → (H 51 v = 0 ↔ zhas law v M = false)) : ∀ (c m f la : Nat), (m : Int) + c = n + 1 → 1 ≤ m → f + c ≤ 3000 → zUl law M t c m f la = A → zgo w (d + 1) 95 99 [zR 32, zI n, zJ, zI t, zI f, zI la, zI m] [] H (zQI (zPC H0 A)) := by
  intro c
  induction c with
  | zero =>
    intro m f la hm m1 hf hA
    have hA : (if t = 0 then (0, (f : Int)) else if f = 0 then ((5 : Int), (-1 : Int)) else (0, (la : Int))) = A := hA
    refine x95_99 ⟨fun _ => ⟨fun q => ⟨fun q2 => ?_, fun q2 => ?_⟩, fun q => ?_⟩, fun q => by omega⟩
    · rw [if_neg q, if_neg (by omega)] at hA; exact zPC_d hF hA.symm
    · rw [if_neg q, if_pos (by omega)] at hA; exact zPC_r hF hA.symm
    · rw [if_pos q] at hA; exact zPC_d hF hA.symm
  | succ c ih =>
    intro m f la hm m1 hf hA
    unfold zUl at hA
    have ht := hT m m1 (by omega)
    refine x95_99 ⟨fun q => by omega, fun _ => ⟨fun q => by omega, fun _ => ?_⟩⟩
    rw [zi1 (by omega), zi1 (by omega)]
    refine ⟨by omega, fun q => ?_, fun q => ?_⟩
    · cases hc : zhas law m M with
      | false => exact absurd (ht.mpr hc) q
      | true =>
        rw [if_pos hc] at hA
        exact ih (m + 1) f la (by omega) (by omega) (by omega) hA
    · rw [ht.mp q, if_neg (by decide)] at hA
      exact ih (m + 1) (f + 1) m (by omega) (by omega) (by omega) hA
theorem b95l {H0 : zHt} {n t : Int} {M : Nat} {A : Int × Int} (hMR : zMR) (hD : zDk H0) (hn : 1 ≤ n ∧ n ≤ 500) (hM : M ≤ 2000) (hA : zUl (H0 40 4) M t n.toNat 1 0 0 = A) : ∀ (c m : Nat) (H : zHt), m + c = M + 1 → 1 ≤ m → zcf H0 H → (∀ v : Nat, 1 ≤ v → v ≤ 500 → (H 51 v = 0 ↔ zhas (H0 40 4) v (m - 1) = false)) → zgo w (d + 5) 95 45 [zR 32, zI n, zI M, zI t, zI m, zJ, zJ] [] H (zQI (zPC H0 A)) := by
  intro c
  induction c with
  | zero =>
    intro m H hm m1 hF hT
    refine x95_45 ⟨fun _ => ?_, fun q => by omega⟩
    rw [show m - 1 = M by omega] at hT
    exact b95c (d := d + 4) hn.2 hF hT n.toNat 1 0 0 (by omega) (by omega) (by omega) hA
  | succ c ih =>
    intro m H hm m1 hF hT
    have el : H 40 4 = H0 40 4 := zcf_at hF rfl
    obtain ⟨H1, g, e⟩ := c52 (w := w) (d := d) (H := H) (n := m) hMR (by omega) (by omega) (by rw [el]; exact hD.1)
    obtain ⟨H2, F, -⟩ := c45 (w := w) (H := H) (d := d) (n := m) hMR (by omega) (by omega)
    have hr := zsum_r (law := H0 40 4) m1 (by omega) F.2.1 hD.1
    have hz : ∀ v, zhas (H0 40 4) v m = (zhas (H0 40 4) v (m - 1) || decide (zsum (H0 40 4) m = v)) := fun v => by
      obtain ⟨k, rfl⟩ : ∃ k, m = k + 1 := ⟨m - 1, by omega⟩
      rfl
    refine x95_45 ⟨fun q => by omega, fun _ => ?_⟩
    rw [e, el, zi1 (by omega)]
    refine ⟨fun q => ?_, fun q => ?_⟩
    · refine ih (m + 1) H1 (by omega) (by omega) (zcf_fc hF g) (fun v v1 v2 => ?_)
      rw [g 51 v (by decide) (by decide) (by omega), hT v v1 v2, show m + 1 - 1 = m by omega, hz, decide_eq_false (by omega), Bool.or_false]
    · rw [if_neg (by omega), w32_id (by omega)]
      refine ⟨by omega, ih (m + 1) _ (by omega) (by omega) (zcf_up (zcf_fc hF g) rfl (by omega)) (fun v v1 v2 => ?_)⟩
      rw [show m + 1 - 1 = m by omega, hz]
      by_cases z : zsum (H0 40 4) m = v
      · rw [z, zq_eq, decide_eq_true rfl, Bool.or_true]
        exact ⟨fun y => absurd y (by decide), fun y => Bool.noConfusion y⟩
      · rw [zq_ne (by omega), g 51 v (by decide) (by decide) (by omega), hT v v1 v2, decide_eq_false z, Bool.or_false]
theorem b95 {n m t : Int} (hMR : zMR) (hD : zDk H) : zclI w (d + 5) 95 [zR 32, zI n, zI m, zI t] H (zPC H (zAun (H 40 4) n m t)) := by
  unfold zAun
  by_cases hg : (1 ≤ n ∧ n ≤ 500) ∧ (1 ≤ m ∧ m ≤ 2000) ∧ 0 ≤ t ∧ t ≤ 1
  · rw [if_pos hg]
    obtain ⟨M, rfl⟩ : ∃ k : Nat, m = k := ⟨m.toNat, by omega⟩
    refine x95_0 ?_
    simp only [c43, c44, c81, zit0, Classical.not_not]
    repeat' (first | omega | intro _ | with_reducible refine And.intro ?_ ?_)
    refine zclV_mono (x96_0 (c96l (H0 := H) 501 0 H (by omega) (fun _ _ _ => rfl) (fun j hj => by omega))) (fun H1 h1 => ?_)
    rw [Int.toNat_natCast]
    exact b95l hMR hD hg.1 (by omega) rfl M 1 H1 (by omega) (by omega) (zcf_51 h1.1) (fun v v1 v2 => by
      rw [h1.2 v (by omega)]
      exact ⟨fun _ => rfl, fun _ => rfl⟩)
  · have eA : (1, -1) = ((1 : Int), (-1 : Int)) := rfl
    rw [if_neg hg]
    refine x95_0 ?_
    simp only [c43, c44, c81, zit0, Classical.not_not]
    repeat' (first | exact zPC_r zcf_rfl eA | omega | intro _ | with_reducible refine And.intro ?_ ?_)
theorem b208l {H0 : zHt} {law n t : Int} {M : Nat} {A : Int × Int} (hn : n ≤ 500) (hM : M ≤ 2000) (hF : zmf H0 H) (h0 : H 81 0 = 0) (hT : zTab H law M) : ∀ (c m f la : Nat) (g : Int), (m : Int) + c = n + 1 → 1 ≤ m → f + c ≤ 3000 → g = (if f = 0 then -1 else (la : Int)) → zUl law M t c m f la = A → zgo w (d + 1) 208 62 [zR 81, zI n, zI M, zI t, zI f, zI g, zI m] [] H (zQI (zPM H0 A)) := by
  intro c
  induction c with
  | zero =>
    intro m f la g hm m1 hf hg hA
    have hA : (if t = 0 then (0, (f : Int)) else if f = 0 then ((5 : Int), (-1 : Int)) else (0, (la : Int))) = A := hA
    refine x208_62 ⟨fun _ => ⟨fun q => ⟨fun q2 => ?_, fun q2 => ?_⟩, fun q => ?_⟩, fun q => by omega⟩
    · by_cases z : f = 0
      · rw [if_pos z] at hg; omega
      · rw [if_neg q, if_neg z] at hA
        rw [if_neg z] at hg
        exact zPM_0 hF h0 (by rw [hg]; exact hA.symm)
    · by_cases z : f = 0
      · rw [if_neg q, if_pos z] at hA
        exact zPM_r hF hA.symm
      · rw [if_neg z] at hg; omega
    · rw [if_pos q] at hA; exact zPM_0 hF h0 hA.symm
  | succ c ih =>
    intro m f la g hm m1 hf hg hA
    unfold zUl at hA
    refine x208_62 ⟨fun q => by omega, fun _ => ?_⟩
    rw [c206 hM hT, zi1 (by omega), zi1 (by omega)]
    cases hc : zhas law m M with
    | true =>
      rw [if_pos hc] at hA
      obtain ⟨i, i1, i2, i3⟩ := zhas_iff.mp hc
      have := zsk_has (law := law) (v := m) (c := M) (m := 1) ⟨i, i1, by omega, i3⟩
      exact ⟨fun q => by omega, fun _ => ih (m + 1) f la g (by omega) (by omega) (by omega) hg hA⟩
    | false =>
      rw [hc, if_neg (by decide)] at hA
      have := zsk_no (law := law) (v := m) (c := M) (m := 1) (fun i i1 i2 i3 => by
        have := (zhas_iff (law := law) (v := m) (M := M)).mpr ⟨i, i1, by omega, i3⟩
        rw [hc] at this; cases this)
      rw [this]
      exact ⟨fun _ => ih (m + 1) (f + 1) m m (by omega) (by omega) (by omega) (by rw [if_neg (by omega)]) hA, fun q => absurd q (by decide)⟩
theorem b208 {n m t : Int} (hD : zDk H) : zclI w (d + 5) 208 [zR 81, zI n, zI m, zI t] H (zPM H (zAun (H 40 4) n m t)) := by
  unfold zAun
  by_cases hg : (1 ≤ n ∧ n ≤ 500) ∧ (1 ≤ m ∧ m ≤ 2000) ∧ 0 ≤ t ∧ t ≤ 1
  · rw [if_pos hg]
    obtain ⟨M, rfl⟩ : ∃ k : Nat, m = k := ⟨m.toNat, by omega⟩
    obtain ⟨H1, ⟨f, hT⟩, e⟩ := c205 (w := w) (H := zst H 0) (d := d) (M := M) (by omega)
    have el : zst H 0 82 9 = H 40 4 := (zst_at (by decide)).trans hD.2.1
    rw [el] at hT
    refine x208_0 ?_
    simp only [c176, c173, c201, c174_0, c174_1, c174_2, c174_3, c174_4, c174_5, zit0, z10a, z10b, Classical.not_not, not_true_eq_false, false_implies, true_implies, true_and, and_true]
    repeat' (first | omega | intro _ | with_reducible refine And.intro ?_ ?_)
    rw [e, Int.toNat_natCast]
    exact b208l (d := d + 4) (by omega) (by omega) (zmf_fs (zst_f zmf_rfl) f) (by rw [f 81 0 (by decide) (by decide) (by decide) (by decide)]; rfl) hT n.toNat 1 0 0 (-1) (by omega) (by omega) (by omega) rfl rfl
  · have eA : (1, -1) = ((1 : Int), (-1 : Int)) := rfl
    rw [if_neg hg]
    refine x208_0 ?_
    simp only [c176, c173, c201, c174_0, c174_1, c174_2, c174_3, c174_4, c174_5, zit0, z10a, z10b, Classical.not_not, not_true_eq_false, false_implies, true_implies, true_and, and_true]
    repeat' (first | exact zPM_n zmf_rfl eA | omega | intro _ | with_reducible refine And.intro ?_ ?_)
end Z46
theorem l724 {w : zWt} (hw : w.1 ≤ 3072) (hMR : zMR) : zLaw w (zKept zAllR) 724 := fun H i hi hR K nx => x0_724 (d := 1999) (by
  refine ⟨zidx hw hi (by decide) (by decide), zidx hw hi (by decide) (by decide), zidx hw hi (by decide) (by decide), ?_⟩
  have r1 : r32 (zH0 w.2 0 (w32 ((i : Int) + 1))) := zv_r
  generalize zH0 w.2 0 (w32 ((i : Int) + 1)) = v1 at r1 ⊢
  have r2 : r32 (zH0 w.2 0 (w32 ((i : Int) + 2))) := zv_r
  generalize zH0 w.2 0 (w32 ((i : Int) + 2)) = v2 at r2 ⊢
  have r3 : r32 (zH0 w.2 0 (w32 ((i : Int) + 3))) := zv_r
  generalize zH0 w.2 0 (w32 ((i : Int) + 3)) = v3 at r3 ⊢
  exact zcaseI (A := fun H => zAks v1 v2 v3) (fun H H1 h => by simp only [h 40 4 rfl, h 40 1 rfl, h 40 2 rfl, h 40 3 rfl]) hR (fun hD hW => b83 (d := 1995) hMR) (fun H1 hD => b202 (d := 1995)) (fun x y H' hk e => nx H' hk))
theorem l992 {w : zWt} (hw : w.1 ≤ 3072) (hMR : zMR) : zLaw w (zKept zAllR) 992 := fun H i hi hR K nx => x0_992 (d := 1999) (by
  refine ⟨zidx hw hi (by decide) (by decide), zidx hw hi (by decide) (by decide), zidx hw hi (by decide) (by decide), ?_⟩
  have r1 : r32 (zH0 w.2 0 (w32 ((i : Int) + 1))) := zv_r
  generalize zH0 w.2 0 (w32 ((i : Int) + 1)) = v1 at r1 ⊢
  have r2 : r32 (zH0 w.2 0 (w32 ((i : Int) + 2))) := zv_r
  generalize zH0 w.2 0 (w32 ((i : Int) + 2)) = v2 at r2 ⊢
  have r3 : r32 (zH0 w.2 0 (w32 ((i : Int) + 3))) := zv_r
  generalize zH0 w.2 0 (w32 ((i : Int) + 3)) = v3 at r3 ⊢
  exact zcaseI (A := fun H => zAun (H 40 4) v1 v2 v3) (fun H H1 h => by simp only [h 40 4 rfl, h 40 1 rfl, h 40 2 rfl, h 40 3 rfl]) hR (fun hD hW => b95 (d := 1994) hMR hD) (fun H1 hD => b208 (d := 1994) hD) (fun x y H' hk e => nx H' hk))
