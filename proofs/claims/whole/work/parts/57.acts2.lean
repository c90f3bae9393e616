/-! acts: keeping one, by the class and by the model -/
section Z57
variable {w : zWt} {d : Nat} {H : zHt}
theorem zisD_b {o : Int} (h : zisD o) : (o = 40 ∨ o = 42 ∨ (53 ≤ o ∧ o ≤ 67 ∧ o % 2 = 1)) := by unfold zisD at h; omega
theorem zisD_a {j : Nat} (h : j < 8) : zisD (53 + 2 * (j : Int)) := by unfold zisD; omega
/-- a desk copied -/
theorem c37 {o p : Int} (ho : zisD o) (hp : zisD p) (hne : o ≠ p) : ∃ H', ((∀ a j : Int, a ≠ o → a ≠ o + 1 → H' a j = H a j) ∧ H' o 1 = H p 1 ∧ H' o 2 = H p 2 ∧ H' o 3 = H p 3 ∧ H' o 4 = H p 4 ∧ ∀ k : Nat, k < 6 → H' (o + 1) k = H (p + 1) k) ∧ ∀ K : zHt → Prop, zclV w d 37 [zR o, zR p] H K = K H' := by
  have bo := zisD_b ho
  have bp := zisD_b hp
  have L : ∀ (c k : Nat) (H1 : zHt), k + c = 6 → (∀ a j : Int, a ≠ o + 1 → H1 a j = H a j) → (∀ i : Nat, i < k → H1 (o + 1) i = H (p + 1) i) → zgo w d 37 2 [zR o, zR p, zI k] [] H1 (zQV fun H' => (∀ a j : Int, a ≠ o → a ≠ o + 1 → H' a j = H a j) ∧ H' o 1 = H p 1 ∧ H' o 2 = H p 2 ∧ H' o 3 = H p 3 ∧ H' o 4 = H p 4 ∧ ∀ k : Nat, k < 6 → H' (o + 1) k = H (p + 1) k) := by
    intro c
    induction c with
    | zero =>
      intro k H1 hk hF hT
      refine x37_2 ho hp ⟨fun _ v hv => ?_, fun q => by omega⟩
      subst hv
      refine ⟨fun a j h1 h2 => ?_, ?_, ?_, ?_, ?_, fun i hi => ?_⟩
      · rw [zq_ne (by omega), zq_ne (by omega), zq_ne (by omega), zq_ne (by omega)]; exact hF a j h2
      · rw [zq_ne (by omega), zq_ne (by omega), zq_ne (by omega), zq_eq]; exact hF p 1 (by omega)
      · rw [zq_ne (by omega), zq_ne (by omega), zq_eq, zq_ne (by omega)]; exact hF p 2 (by omega)
      · rw [zq_ne (by omega), zq_eq, zq_ne (by omega), zq_ne (by omega)]; exact hF p 3 (by omega)
      · rw [zq_eq, zq_ne (by omega), zq_ne (by omega), zq_ne (by omega)]; exact hF p 4 (by omega)
      · rw [zq_ne (by omega), zq_ne (by omega), zq_ne (by omega), zq_ne (by omega)]; exact hT i (by omega)
    | succ c ih =>
      intro k H1 hk hF hT
      refine x37_2 ho hp ⟨fun q => by omega, fun _ => ⟨by omega, ?_⟩⟩
      rw [zi1 (by omega)]
      refine ih (k + 1) _ (by omega) (fun a j q => by rw [zq_ne (by omega)]; exact hF a j q) (fun i hi => ?_)
      by_cases z : i = k
      · subst z; rw [zq_eq]; exact hF (p + 1) i (by omega)
      · rw [zq_ne (by omega)]; exact hT i (by omega)
  exact zclV_ex (x37_0 ho hp (L 6 0 H (by omega) (fun _ _ _ => rfl) (fun i hi => by omega)))
theorem zDeC_cp {H1 : zHt} {o p : Int} {D : List Int × Int × Int × Int} (h6 : D.1.length ≤ 6) (h : H1 o 1 = H p 1 ∧ H1 o 2 = H p 2 ∧ H1 o 3 = H p 3 ∧ H1 o 4 = H p 4 ∧ ∀ k : Nat, k < 6 → H1 (o + 1) k = H (p + 1) k) (hc : zDeC H p D) : zDeC H1 o D := by
  obtain ⟨c1, c2, c3, c4, c5⟩ := hc
  obtain ⟨a1, a2, a3, a4, a5⟩ := h
  exact ⟨by rw [a1, c1], by rw [a2, c2], by rw [a3, c3], by rw [a4, c4], fun k hk => by rw [a5 k (by omega)]; exact c5 k hk⟩
theorem zDeC_k {H1 : zHt} {o : Int} {D : List Int × Int × Int × Int} (h : ∀ j, H1 o j = H o j) (h2 : ∀ j, H1 (o + 1) j = H (o + 1) j) (hc : zDeC H o D) : zDeC H1 o D := by
  unfold zDeC zArr at hc ⊢
  simp only [h, h2]
  exact hc
/-- the oldest act dropped -/
theorem c154 {D : List Int × Int × Int × Int} {L : List (List Int × Int × Int × Int)} (s : zCS H D L) (h8 : L.length = 8) : ∃ H', (zCS H' D L.tail ∧ (∀ a j : Int, a ≠ 44 → ¬ (a = 32 ∧ j = 11) → H' a j = H a j)) ∧ ∀ K : zHt → Prop, zclV w d 154 [zR 32] H K = K H' := by
  obtain ⟨s1, s2, s3, s4, s5, s6⟩ := s
  have hD : ∀ i : Nat, i < 8 → zisD (H 44 i) := fun i hi => by
    obtain ⟨j, j1, j2⟩ := s4 i hi
    rw [j2]; exact zisD_a j1
  have Lp : ∀ (c k : Nat) (H1 : zHt), k + c = 8 → 1 ≤ k → (∀ a j : Int, a ≠ 44 → H1 a j = H a j) → (∀ i : Nat, i < 8 → H1 44 i = if i + 1 < k then H 44 ((i + 1 : Nat) : Int) else H 44 i) → zgo w d 154 9 [zR 32, zR (H 44 0), zI k] [] H1 (zQV fun H' => (∀ a j : Int, a ≠ 44 → ¬ (a = 32 ∧ j = 11) → H' a j = H a j) ∧ H' 32 11 = 7 ∧ H' 44 7 = H 44 0 ∧ ∀ i : Nat, i < 7 → H' 44 i = H 44 ((i + 1 : Nat) : Int)) := by
    intro c
    induction c with
    | zero =>
      intro k H1 hk k1 hF hT
      refine x154_9 (hD 0 (by omega)) ⟨fun _ => ⟨by decide, fun a j h1 h2 => ?_, zq_eq, ?_, fun i hi => ?_⟩, fun q => by omega⟩
      · rw [zq_ne (by omega), zq_ne (by omega)]; exact hF a j h1
      · rw [zq_ne (by omega)]; exact zq_eq
      · rw [zq_ne (by omega), zq_ne (show ¬ ((44 : Int) = 44 ∧ (i : Int) = w32 (8 - 1)) by rw [w32_id (by omega)]; omega), hT i (by omega), if_pos (by omega)]
    | succ c ih =>
      intro k H1 hk k1 hF hT
      have ek : w32 ((k : Int) - 1) = ((k - 1 : Nat) : Int) := by rw [w32_id (by omega)]; omega
      have hk44 : H1 44 k = H 44 k := by rw [hT k (by omega), if_neg (by omega)]
      refine x154_9 (hD 0 (by omega)) ⟨fun q => by omega, fun _ => ⟨by omega, by rw [hk44]; exact hD k (by omega), by rw [ek]; omega, ?_⟩⟩
      rw [ek, hk44, zi1 (by omega)]
      refine ih (k + 1) _ (by omega) (by omega) (fun a j q => by rw [zq_ne (by omega)]; exact hF a j q) (fun i hi => ?_)
      by_cases z : i = k - 1
      · subst z
        rw [zq_eq, if_pos (by omega), show k - 1 + 1 = k by omega]
      · rw [zq_ne (by omega), hT i hi]
        by_cases y : i + 1 < k
        · rw [if_pos y, if_pos (by omega)]
        · rw [if_neg y, if_neg (by omega)]
  obtain ⟨H', ⟨f, e11, e7, eT⟩, e⟩ := zclV_ex (x154_0 ⟨hD 0 (by omega), Lp 7 1 H (by omega) (by omega) (fun _ _ _ => rfl) (fun i hi => by rw [if_neg (by omega)])⟩)
  have g : ∀ i : Nat, i < 8 → ∃ i' : Nat, i' < 8 ∧ H' 44 i = H 44 i' ∧ i' = (if i < 7 then i + 1 else 0) := fun i hi => by
    by_cases z : i < 7
    · exact ⟨i + 1, by omega, eT i z, by rw [if_pos z]⟩
    · have : i = 7 := by omega
      subst this
      exact ⟨0, by omega, e7, by rw [if_neg z]⟩
  refine ⟨H', ⟨⟨?_, ?_, ?_, fun i hi => ?_, fun i j hi hj eij => ?_, fun i E hE => ?_⟩, f⟩, e⟩
  · exact zDeC_k (fun j => f 40 j (by omega) (by omega)) (fun j => f 41 j (by omega) (by omega)) s1
  · rw [e11, List.length_tail, h8]; rfl
  · rw [List.length_tail, h8]; omega
  · obtain ⟨i', a1, a2, -⟩ := g i hi
    obtain ⟨j, j1, j2⟩ := s4 i' a1
    exact ⟨j, j1, by rw [a2]; exact j2⟩
  · obtain ⟨i', a1, a2, a3⟩ := g i hi
    obtain ⟨j', b1, b2, b3⟩ := g j hj
    have := s5 i' j' a1 b1 (by rw [← a2, ← b2]; exact eij)
    split at a3 <;> split at b3 <;> omega
  · have hi : i < 7 := by
      rcases Nat.lt_or_ge i 7 with z | z
      · exact z
      · rw [List.getElem?_eq_none (by rw [List.length_tail]; omega)] at hE; cases hE
    rw [List.getElem?_tail] at hE
    have a1 := s6 (i + 1) E hE
    obtain ⟨j, j1, j2⟩ := s4 (i + 1) (by omega)
    rw [eT i hi]
    refine zDeC_k (fun q => f _ q (by omega) (by omega)) (fun q => f _ q (by omega) (by omega)) a1
/-- the class keeps an act -/
theorem c153 {D : List Int × Int × Int × Int} {L : List (List Int × Int × Int × Int)} (hv : zOkA D L) (s : zCS H D L) : ∃ H', (zCS H' D (zkpt D L) ∧ (∀ a j : Int, a ≠ 44 → ¬ (a = 32 ∧ j = 11) → ¬ (53 ≤ a ∧ a ≤ 68) → H' a j = H a j)) ∧ ∀ K : zHt → Prop, zclV w (d + 1) 153 [zR 32] H K = K H' := by
  have B : ∀ (H0 : zHt) (M : List (List Int × Int × Int × Int)), zCS H0 D M → M.length ≤ 7 → ∃ H', (zCS H' D (M ++ [D]) ∧ (∀ a j : Int, a ≠ 44 → ¬ (a = 32 ∧ j = 11) → ¬ (53 ≤ a ∧ a ≤ 68) → H' a j = H0 a j)) ∧ (0 ≤ H0 32 11 ∧ H0 32 11 < 8) ∧ zisD (H0 44 (H0 32 11)) ∧ ∀ K : zHt → Prop, zclV w d 37 [zR (H0 44 (H0 32 11)), zR 40] H0 (fun H4 => K (zup H4 32 11 (w32 ((H4 32 11) + 1)))) = K H' := fun H0 M sM hM => by
    obtain ⟨s1, s2, s3, s4, s5, s6⟩ := sM
    obtain ⟨j, j1, j2⟩ := s4 M.length (by omega)
    have ho : H0 44 (H0 32 11) = 53 + 2 * (j : Int) := by rw [s2]; exact j2
    obtain ⟨H1, ⟨f, a1⟩, e⟩ := c37 (w := w) (d := d) (H := H0) (o := 53 + 2 * (j : Int)) (p := 40) (zisD_a j1) (Or.inl rfl) (by omega)
    have e11 : H1 32 11 = M.length := by rw [f 32 11 (by omega) (by omega)]; exact s2
    refine ⟨zup H1 32 11 (w32 (H1 32 11 + 1)), ⟨⟨?_, ?_, ?_, fun i hi => ?_, fun i k hi hk eik => ?_, fun i E hE => ?_⟩, fun a q h1 h2 h3 => ?_⟩, by rw [s2]; omega, by rw [ho]; exact zisD_a j1, fun K => by rw [ho, e]⟩
    · refine zDeC_k (fun q => ?_) (fun q => ?_) s1
      · rw [zq_ne (by omega)]; exact f 40 q (by omega) (by omega)
      · rw [zq_ne (by omega)]; exact f 41 q (by omega) (by omega)
    · rw [zq_eq, e11, w32_id (by omega), List.length_append]; rfl
    · rw [List.length_append]; show M.length + 1 ≤ 8; omega
    · rw [zq_ne (by omega), f 44 i (by omega) (by omega)]; exact s4 i hi
    · rw [zq_ne (by omega), zq_ne (by omega), f 44 i (by omega) (by omega), f 44 k (by omega) (by omega)] at eik
      exact s5 i k hi hk eik
    · have hi : i < M.length + 1 := by
        rcases Nat.lt_or_ge i (M.length + 1) with z | z
        · exact z
        · rw [List.getElem?_eq_none (by rw [List.length_append]; exact z)] at hE; cases hE
      rw [zq_ne (by omega), f 44 i (by omega) (by omega)]
      by_cases z : i = M.length
      · subst z
        rw [List.getElem?_append_right (Nat.le_refl _), Nat.sub_self] at hE
        cases hE
        rw [j2]
        refine zDeC_k (H := H1) (fun q => ?_) (fun q => ?_) (zDeC_cp hv.1.1 a1 s1)
        · rw [zq_ne (by omega)]
        · rw [zq_ne (by omega)]
      · rw [List.getElem?_append_left (by omega)] at hE
        obtain ⟨k, k1, k2⟩ := s4 i (by omega)
        have hne : (k : Int) ≠ j := fun y => z (s5 i M.length (by omega) (by omega) (by rw [k2, j2, y]))
        have b1 := s6 i E hE
        refine zDeC_k (fun q => ?_) (fun q => ?_) b1
        · rw [zq_ne (by omega)]; exact f _ q (by omega) (by omega)
        · rw [zq_ne (by omega)]; exact f _ q (by omega) (by omega)
    · rw [zq_ne (by omega)]; exact f a q (by omega) (by omega)
  have s2 := s.2.1
  have s3 := s.2.2.1
  unfold zkpt
  by_cases h8 : L.length = 8
  · rw [if_pos h8]
    obtain ⟨H1, ⟨t1, f1⟩, e1⟩ := c154 (w := w) (d := d) s h8
    obtain ⟨H2, ⟨t2, f2⟩, b1, b2, e2⟩ := B H1 L.tail t1 (by rw [List.length_tail]; omega)
    refine ⟨H2, ⟨t2, fun a j h1 h2 h3 => (f2 a j h1 h2 h3).trans (f1 a j h1 h2)⟩, fun K => zclV_eq fun K h => x153_0 ⟨fun q => by omega, fun _ => ?_⟩⟩
    rw [e1]
    exact ⟨b1, b2, by rw [e2]; exact h⟩
  · rw [if_neg h8]
    obtain ⟨H2, ⟨t2, f2⟩, b1, b2, e2⟩ := B H L s (by omega)
    exact ⟨H2, ⟨t2, f2⟩, fun K => zclV_eq fun K h => x153_0 ⟨fun _ => ⟨b1, b2, by rw [e2]; exact h⟩, fun q => by omega⟩⟩
/-- the rows as told forgotten -/
theorem c38 : ∃ H', ((∀ a j : Int, ¬ ((69 ≤ a ∧ a ≤ 79) ∧ j = 4) → H' a j = H a j) ∧ ∀ r : Nat, r ≤ 5 → H' (69 + 2 * r) 4 = 0) ∧ ∀ K : zHt → Prop, zclV w d 38 [zR 32] H K = K H' := by
  have L : ∀ (c k : Nat) (H1 : zHt), k + c = 6 → (∀ a j : Int, ¬ ((69 ≤ a ∧ a ≤ 79) ∧ j = 4) → H1 a j = H a j) → (∀ r : Nat, r < k → H1 (69 + 2 * r) 4 = 0) → zgo w d 38 2 [zR 32, zI k] [] H1 (zQV fun H' => (∀ a j : Int, ¬ ((69 ≤ a ∧ a ≤ 79) ∧ j = 4) → H' a j = H a j) ∧ ∀ r : Nat, r ≤ 5 → H' (69 + 2 * r) 4 = 0) := by
    intro c
    induction c with
    | zero =>
      intro k H1 hk hF hT
      exact x38_2 ⟨fun _ => ⟨hF, fun r hr => hT r (by omega)⟩, fun q => by omega⟩
    | succ c ih =>
      intro k H1 hk hF hT
      refine x38_2 ⟨fun q => by omega, fun _ => ⟨by omega, ?_⟩⟩
      rw [zi1 (by omega)]
      refine ih (k + 1) _ (by omega) (fun a j q => by rw [zq_ne (by omega)]; exact hF a j q) (fun r hr => ?_)
      by_cases z : r = k
      · subst z; rw [zq_eq]
      · rw [zq_ne (by omega)]; exact hT r (by omega)
  exact zclV_ex (x38_0 (L 6 0 H (by omega) (fun _ _ _ => rfl) (fun r hr => by omega)))
theorem zWlk_0 (h : ∀ r : Nat, r ≤ 5 → H (69 + 2 * r) 4 = 0) : zWlk H := fun r h5 _ h2 => absurd (h r h5) h2
/-- what the class may change in an act -/
def zaw (H H' : zHt) : Prop := ∀ a j : Int, a ≠ 40 → a ≠ 41 → a ≠ 44 → ¬ (a = 32 ∧ (j = 11 ∨ j = 14)) → ¬ (53 ≤ a ∧ a ≤ 80) → H' a j = H a j
theorem zcA_aw {H' : zHt} (h : zaw H H') : zcA H H' := fun a j q => by
  refine h a j (fun z => by subst z; cases q) (fun z => by subst z; cases q) (fun z => by subst z; cases q) (fun z => ?_) (fun z => ?_)
  · obtain ⟨rfl, rfl | rfl⟩ := z <;> cases q
  · unfold zrelA at q
    simp only [Bool.or_eq_true, Bool.and_eq_true, beq_iff_eq] at q
    omega
/-- the class's desk changed, the act kept, the rows forgotten -/
theorem zCS_k {H' : zHt} {D : List Int × Int × Int × Int} {L : List (List Int × Int × Int × Int)} (h40 : zDeC H' 40 D) (hk : ∀ a j : Int, (a = 44 ∨ (a = 32 ∧ j = 11) ∨ (53 ≤ a ∧ a ≤ 68)) → H' a j = H a j) {D0 : List Int × Int × Int × Int} (s : zCS H D0 L) : zCS H' D L := by
  obtain ⟨s1, s2, s3, s4, s5, s6⟩ := s
  have k44 : ∀ j, H' 44 j = H 44 j := fun j => hk 44 j (Or.inl rfl)
  refine ⟨h40, by rw [hk 32 11 (by omega)]; exact s2, s3, fun i hi => by rw [k44]; exact s4 i hi, fun i j hi hj e => s5 i j hi hj (by rw [← k44, ← k44]; exact e), fun i E hE => ?_⟩
  have hi : i < L.length := by
    rcases Nat.lt_or_ge i L.length with z | z
    · exact z
    · rw [List.getElem?_eq_none z] at hE; cases hE
  obtain ⟨j, j1, j2⟩ := s4 i (by omega)
  rw [k44]
  exact zDeC_k (fun q => hk _ q (by omega)) (fun q => hk _ q (by omega)) (s6 i E hE)
-- the model keeps an act
theorem c262b {H0 : zHt} {D : List Int × Int × Int × Int} {M : List (List Int × Int × Int × Int)} (hM : M.length ≤ 7) (h6 : D.1.length ≤ 6) (hE6 : ∀ E ∈ M, E.1.length ≤ 6) (m : zMS H0 D M) : ∀ (c k : Nat) (H : zHt), k + c = 10 → (∀ a j : Int, ¬ (a = 84 ∧ 10 * (M.length : Int) ≤ j) → H a j = H0 a j) → (∀ i : Nat, i < k → H 84 (10 * (M.length : Int) + i) = H0 82 i) → zgo w d 262 50 [zR 81, zI k] [] H (zQV fun H' => zMS H' D (M ++ [D]) ∧ ∀ a j : Int, a ≠ 84 → ¬ (a = 81 ∧ j = 5) → H' a j = H0 a j) := by
  obtain ⟨m1, m2, m3⟩ := m
  intro c
  induction c with
  | zero =>
    intro k H hk hF hT
    have e5 : H 81 5 = M.length := by rw [hF 81 5 (by omega)]; exact m2
    have hT' : ∀ j : Int, 0 ≤ j → j < 10 → H 84 (10 * (M.length : Int) + j) = H0 82 j := fun j j0 j9 => by
      have := hT j.toNat (by omega)
      rw [Int.toNat_of_nonneg j0] at this
      exact this
    refine x262_50 ⟨fun _ => ⟨⟨?_, ?_, fun i E hE => ?_⟩, fun a j h1 h2 => ?_⟩, fun q => by omega⟩
    · obtain ⟨d1, d2, d3, d4, d5⟩ := m1
      refine ⟨?_, ?_, ?_, ?_, fun i hi => ?_⟩
      · rw [zq_ne (by omega), hF _ _ (by omega)]; exact d1
      · rw [zq_ne (by omega), hF _ _ (by omega)]; exact d2
      · rw [zq_ne (by omega), hF _ _ (by omega)]; exact d3
      · rw [zq_ne (by omega), hF _ _ (by omega)]; exact d4
      · rw [zq_ne (by omega), hF _ _ (by omega)]; exact d5 i hi
    · rw [zq_eq, e5, w32_id (by omega), List.length_append]; rfl
    · have hi : i < M.length + 1 := by
        rcases Nat.lt_or_ge i (M.length + 1) with z | z
        · exact z
        · rw [List.getElem?_eq_none (by rw [List.length_append]; exact z)] at hE; cases hE
      by_cases z : i = M.length
      · subst z
        rw [List.getElem?_append_right (Nat.le_refl _), Nat.sub_self] at hE
        cases hE
        obtain ⟨d1, d2, d3, d4, d5⟩ := m1
        simp only [Int.zero_add] at d1 d2 d3 d4 d5
        refine ⟨?_, ?_, ?_, ?_, fun q hq => ?_⟩
        · rw [zq_ne (by omega), hT' 6 (by omega) (by omega)]; exact d1
        · rw [zq_ne (by omega), hT' 7 (by omega) (by omega)]; exact d2
        · rw [zq_ne (by omega), hT' 8 (by omega) (by omega)]; exact d3
        · rw [zq_ne (by omega), hT' 9 (by omega) (by omega)]; exact d4
        · rw [zq_ne (by omega), hT' q (by omega) (by omega)]; exact d5 q hq
      · rw [List.getElem?_append_left (by omega)] at hE
        obtain ⟨d1, d2, d3, d4, d5⟩ := m3 i E hE
        have e6 := hE6 E (List.mem_of_getElem? hE)
        refine ⟨?_, ?_, ?_, ?_, fun q hq => ?_⟩
        · rw [zq_ne (by omega), hF _ _ (by omega)]; exact d1
        · rw [zq_ne (by omega), hF _ _ (by omega)]; exact d2
        · rw [zq_ne (by omega), hF _ _ (by omega)]; exact d3
        · rw [zq_ne (by omega), hF _ _ (by omega)]; exact d4
        · rw [zq_ne (by omega), hF _ _ (by omega)]; exact d5 q hq
    · rw [zq_ne (by omega)]; exact hF a j (by omega)
  | succ c ih =>
    intro k H hk hF hT
    have e5 : H 81 5 = M.length := by rw [hF 81 5 (by omega)]; exact m2
    have ei : w32 (w32 (10 * (M.length : Int)) + (k : Int)) = 10 * (M.length : Int) + k := by rw [w32_id (show _ ≤ 10 * (M.length : Int) ∧ _ by omega), w32_id (by omega)]
    refine x262_50 ⟨fun q => by omega, fun _ => ⟨by omega, ?_⟩⟩
    rw [e5, ei, zi1 (by omega), hF 82 k (by omega)]
    refine ⟨by omega, ih (k + 1) _ (by omega) (fun a j q => by rw [zq_ne (by omega)]; exact hF a j q) (fun i hi => ?_)⟩
    by_cases z : i = k
    · subst z; rw [zq_eq]
    · rw [zq_ne (by omega)]; exact hT i (by omega)
theorem c262 {D : List Int × Int × Int × Int} {L : List (List Int × Int × Int × Int)} (hv : zOkA D L) (h8 : L.length ≤ 8) (m : zMS H D L) : ∃ H', (zMS H' D (zkpt D L) ∧ ∀ a j : Int, a ≠ 84 → ¬ (a = 81 ∧ j = 5) → H' a j = H a j) ∧ ∀ K : zHt → Prop, zclV w d 262 [zR 81] H K = K H' := by
  obtain ⟨m1, m2, m3⟩ := m
  unfold zkpt
  by_cases h : L.length = 8
  · rw [if_pos h]
    have Lp : ∀ (c k : Nat) (H1 : zHt), k + c = 70 → (∀ a j : Int, a ≠ 84 → H1 a j = H a j) → (∀ i : Nat, i < 80 → H1 84 i = if i < k then H 84 ((i + 10 : Nat) : Int) else H 84 i) → zgo w d 262 11 [zR 81, zI k] [] H1 (zQV fun H' => zMS H' D (L.tail ++ [D]) ∧ ∀ a j : Int, a ≠ 84 → ¬ (a = 81 ∧ j = 5) → H' a j = H a j) := by
      intro c
      induction c with
      | zero =>
        intro k H1 hk hF hT
        have e5 : H1 81 5 = 8 := by rw [hF 81 5 (by omega), m2, h]; rfl
        refine x262_11 ⟨fun _ => ?_, fun q => by omega⟩
        rw [e5]
        have t7 : L.tail.length = 7 := by rw [List.length_tail]; omega
        have hT' : ∀ j : Int, 0 ≤ j → j < 70 → H1 84 j = H 84 (j + 10) := fun j j0 j9 => by
          have := hT j.toNat (by omega)
          rw [if_pos (by omega), Int.toNat_of_nonneg j0] at this
          rw [this]; congr 1; omega
        have m' : zMS (zup H1 81 5 (w32 (8 - 1))) D L.tail := by
          refine ⟨?_, ?_, fun i E hE => ?_⟩
          · obtain ⟨d1, d2, d3, d4, d5⟩ := m1
            refine ⟨?_, ?_, ?_, ?_, fun i hi => ?_⟩
            · rw [zq_ne (by omega), hF _ _ (by omega)]; exact d1
            · rw [zq_ne (by omega), hF _ _ (by omega)]; exact d2
            · rw [zq_ne (by omega), hF _ _ (by omega)]; exact d3
            · rw [zq_ne (by omega), hF _ _ (by omega)]; exact d4
            · rw [zq_ne (by omega), hF _ _ (by omega)]; exact d5 i hi
          · rw [zq_eq, t7]; rfl
          · have hi : i < 7 := by
              rcases Nat.lt_or_ge i 7 with z | z
              · exact z
              · rw [List.getElem?_eq_none (by omega)] at hE; cases hE
            rw [List.getElem?_tail] at hE
            obtain ⟨d1, d2, d3, d4, d5⟩ := m3 (i + 1) E hE
            have e6 := (hv.2 E (List.mem_of_getElem? hE)).1
            have ee : ∀ j : Int, 10 * (((i + 1 : Nat) : Int)) + j = 10 * (i : Int) + j + 10 := fun j => by omega
            rw [ee] at d1 d2 d3 d4
            refine ⟨?_, ?_, ?_, ?_, fun q hq => ?_⟩
            · rw [zq_ne (by omega), hT' _ (by omega) (by omega)]; exact d1
            · rw [zq_ne (by omega), hT' _ (by omega) (by omega)]; exact d2
            · rw [zq_ne (by omega), hT' _ (by omega) (by omega)]; exact d3
            · rw [zq_ne (by omega), hT' _ (by omega) (by omega)]; exact d4
            · have := d5 q hq
              rw [ee] at this
              rw [zq_ne (by omega), hT' _ (by omega) (by omega)]; exact this
        refine g_mono (c262b (w := w) (d := d) (H0 := zup H1 81 5 (w32 (8 - 1))) (by omega) hv.1.1 (fun E hE => (hv.2 E (List.mem_of_mem_tail hE)).1) m' 10 0 _ (by omega) (fun _ _ _ => rfl) (fun i hi => by omega)) (fun r H' q => ?_)
        obtain ⟨e, q1, q2⟩ := q
        refine ⟨e, q1, fun a j h1 h2 => ?_⟩
        rw [q2 a j h1 h2, zq_ne (by omega)]; exact hF a j h1
      | succ c ih =>
        intro k H1 hk hF hT
        have ek : w32 ((k : Int) + 10) = ((k + 10 : Nat) : Int) := by rw [w32_id (by omega)]; omega
        have h10 : H1 84 ((k + 10 : Nat) : Int) = H 84 ((k + 10 : Nat) : Int) := by rw [hT (k + 10) (by omega), if_neg (by omega)]
        refine x262_11 ⟨fun q => by omega, fun _ => ?_⟩
        rw [ek, h10, zi1 (by omega)]
        refine ⟨by omega, by omega, ih (k + 1) _ (by omega) (fun a j q => by rw [zq_ne (by omega)]; exact hF a j q) (fun i hi => ?_)⟩
        by_cases z : i = k
        · subst z; rw [zq_eq, if_pos (by omega)]
        · rw [zq_ne (by omega), hT i hi]
          by_cases y : i < k
          · rw [if_pos y, if_pos (by omega)]
          · rw [if_neg y, if_neg (by omega)]
    exact zclV_ex (x262_0 ⟨fun q => by rw [m2, h] at q; exact absurd rfl q, fun _ => Lp 70 0 H (by omega) (fun _ _ _ => rfl) (fun i hi => by rw [if_neg (by omega)])⟩)
  · rw [if_neg h]
    exact zclV_ex (x262_0 ⟨fun _ => c262b (by omega) hv.1.1 (fun E hE => (hv.2 E hE).1) ⟨m1, m2, m3⟩ 10 0 H (by omega) (fun _ _ _ => rfl) (fun i hi => by omega), fun q => by omega⟩)
end Z57
