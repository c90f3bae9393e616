/-! acts: desks as values, kept and taken back -/
def zOkD (D : List Int × Int × Int × Int) : Prop := D.1.length ≤ 6 ∧ (∀ k : Nat, k < D.1.length → 1 ≤ D.1.getD k 0 ∧ D.1.getD k 0 ≤ 999999999) ∧ (1 ≤ D.2.1 ∧ D.2.1 ≤ 999999999) ∧ (1 ≤ D.2.2.1 ∧ D.2.2.1 ≤ 100) ∧ 0 ≤ D.2.2.2 ∧ D.2.2.2 ≤ 3
def zDeC (H : zHt) (o : Int) (D : List Int × Int × Int × Int) : Prop := H o 1 = D.1.length ∧ H o 2 = D.2.1 ∧ H o 3 = D.2.2.1 ∧ H o 4 = D.2.2.2 ∧ zArr H (o + 1) D.1
def zDeM (H : zHt) (A b : Int) (D : List Int × Int × Int × Int) : Prop := H A (b + 6) = D.1.length ∧ H A (b + 7) = D.2.1 ∧ H A (b + 8) = D.2.2.1 ∧ H A (b + 9) = D.2.2.2 ∧ ∀ k : Nat, k < D.1.length → H A (b + k) = D.1.getD k 0
theorem zDa_of {H : zHt} {o A b : Int} {D : List Int × Int × Int × Int} (hv : zOkD D) (hc : zDeC H o D) (hm : zDeM H A b D) : zDa H o A b := by
  obtain ⟨v1, v2, v3, v4, v5, v6⟩ := hv
  obtain ⟨c1, c2, c3, c4, c5⟩ := hc
  obtain ⟨m1, m2, m3, m4, m5⟩ := hm
  refine ⟨by rw [c4]; exact ⟨v5, v6⟩, by rw [m4, c4], by rw [m1, c1], by rw [m2, c2], by rw [m3, c3], by rw [c1]; omega, by rw [c2]; exact v3, by rw [c3]; exact v4, fun k hk => ?_⟩
  rw [c1] at hk
  rw [c5 k (by omega), m5 k (by omega)]
  exact ⟨rfl, v2 k (by omega)⟩
theorem zDa_to {H : zHt} {o A b : Int} (h : zDa H o A b) : ∃ D, zOkD D ∧ zDeC H o D ∧ zDeM H A b D := by
  obtain ⟨h1, h2, h3, h4, h5, h6, h7, h8, h9⟩ := h
  have hl : ((List.range (H o 1).toNat).map (fun k : Nat => H (o + 1) k)).length = (H o 1).toNat := by rw [List.length_map, List.length_range]
  have hg : ∀ k : Nat, k < (H o 1).toNat → ((List.range (H o 1).toNat).map (fun k : Nat => H (o + 1) k)).getD k 0 = H (o + 1) k := fun k hk => by
    rw [List.getD_eq_getElem?_getD, List.getElem?_map, List.getElem?_range hk]; rfl
  refine ⟨((List.range (H o 1).toNat).map (fun k : Nat => H (o + 1) k), H o 2, H o 3, H o 4), ⟨?_, fun k hk => ?_, h7, h8, h1⟩, ⟨?_, rfl, rfl, rfl, fun k hk => ?_⟩, ⟨?_, h4, h5, h2, fun k hk => ?_⟩⟩
  · show ((List.range (H o 1).toNat).map (fun k : Nat => H (o + 1) k)).length ≤ 6
    rw [hl]; omega
  · have hk : k < ((List.range (H o 1).toNat).map (fun k : Nat => H (o + 1) k)).length := hk
    rw [hl] at hk
    show 1 ≤ ((List.range (H o 1).toNat).map (fun k : Nat => H (o + 1) k)).getD k 0 ∧ _
    rw [hg k hk]
    exact (h9 k (by omega)).2
  · show H o 1 = (((List.range (H o 1).toNat).map (fun k : Nat => H (o + 1) k)).length : Int)
    rw [hl]; omega
  · rw [hl] at hk
    rw [hg k hk]
  · show H A (b + 6) = (((List.range (H o 1).toNat).map (fun k : Nat => H (o + 1) k)).length : Int)
    rw [hl, h3]; omega
  · have hk : k < ((List.range (H o 1).toNat).map (fun k : Nat => H (o + 1) k)).length := hk
    rw [hl] at hk
    show H A (b + k) = ((List.range (H o 1).toNat).map (fun k : Nat => H (o + 1) k)).getD k 0
    rw [hg k hk]
    exact (h9 k (by omega)).1.symm
theorem zDk_da {H : zHt} : zDk H ↔ zDa H 40 82 0 := by
  unfold zDk zDa
  simp only [Int.zero_add]
  exact Iff.rfl
-- the state of the acts, by the class and by the model
def zCS (H : zHt) (D : List Int × Int × Int × Int) (L : List (List Int × Int × Int × Int)) : Prop := zDeC H 40 D ∧ H 32 11 = L.length ∧ L.length ≤ 8 ∧ (∀ i : Nat, i < 8 → ∃ j : Nat, j < 8 ∧ H 44 i = 53 + 2 * j) ∧ (∀ i j : Nat, i < 8 → j < 8 → H 44 i = H 44 j → i = j) ∧ ∀ (i : Nat) (E : List Int × Int × Int × Int), L[i]? = some E → zDeC H (H 44 i) E
def zMS (H : zHt) (D : List Int × Int × Int × Int) (L : List (List Int × Int × Int × Int)) : Prop := zDeM H 82 0 D ∧ H 81 5 = L.length ∧ ∀ (i : Nat) (E : List Int × Int × Int × Int), L[i]? = some E → zDeM H 84 (10 * i) E
def zOkA (D : List Int × Int × Int × Int) (L : List (List Int × Int × Int × Int)) : Prop := zOkD D ∧ ∀ E ∈ L, zOkD E
theorem zlist_ex {P : Nat → (List Int × Int × Int × Int) → Prop} : ∀ (n : Nat), (∀ i, i < n → ∃ E, P i E) → ∃ L : List (List Int × Int × Int × Int), L.length = n ∧ ∀ (i : Nat) (E : List Int × Int × Int × Int), L[i]? = some E → P i E
  | 0, _ => ⟨[], rfl, fun i E h => by simp at h⟩
  | n + 1, h => by
    obtain ⟨L, h1, h2⟩ := zlist_ex n (fun i hi => h i (by omega))
    obtain ⟨E, hE⟩ := h n (by omega)
    refine ⟨L ++ [E], by rw [List.length_append, h1]; rfl, fun i F hF => ?_⟩
    rcases Nat.lt_or_ge i L.length with z | z
    · rw [List.getElem?_append_left z] at hF
      exact h2 i F hF
    · rw [List.getElem?_append_right z] at hF
      have hi : i - L.length = 0 := by
        rcases Nat.eq_zero_or_pos (i - L.length) with y | y
        · exact y
        · rw [List.getElem?_eq_none (by simp; omega)] at hF; cases hF
      rw [hi] at hF
      cases hF
      have : i = n := by omega
      subst this
      exact hE
theorem zact_start {H : zHt} (h : zAllR H) : ∃ D L, zOkA D L ∧ zCS H D L ∧ zMS H D L := by
  obtain ⟨hD, -, -, ⟨a1, a2, a3, a4, a5, a6⟩, -, -⟩ := h
  obtain ⟨D, d1, d2, d3⟩ := zDa_to (zDk_da.mp hD)
  obtain ⟨L, l1, l2⟩ := zlist_ex (P := fun i E => zOkD E ∧ zDeC H (H 44 i) E ∧ zDeM H 84 (10 * i) E) (H 81 5).toNat (fun i hi => zDa_to (a6 i (by omega)))
  refine ⟨D, L, ⟨d1, fun E hE => ?_⟩, ⟨d2, by rw [a1, l1]; omega, by omega, a4, a5, fun i E hE => (l2 i E hE).2.1⟩, ⟨d3, by rw [l1]; omega, fun i E hE => (l2 i E hE).2.2⟩⟩
  obtain ⟨i, hi⟩ := List.mem_iff_getElem?.mp hE
  exact (l2 i E hi).1
def zrelA (a j : Int) : Bool := a == 34 || a == 49 || a == 82 || a == 84 || a == 93 || a == 101 || a == 98 || a == 99 || (a == 32 && (j == 12 || j == 13)) || (a == 33 && j == 8) || (a == 48 && j == 1) || (a == 81 && (j == 0 || j == 5 || j == 29 || j == 31 || j == 32 || j == 33))
def zcA (H H' : zHt) : Prop := ∀ a j : Int, zrelA a j = true → H' a j = H a j
def zrelB (a j : Int) : Bool := a == 34 || a == 40 || a == 41 || a == 44 || a == 49 || a == 93 || a == 101 || a == 98 || a == 99 || (a == 32 && (j == 11 || j == 12 || j == 13 || j == 14)) || (a == 33 && j == 8) || (a == 48 && j == 1) || (a == 81 && (j == 29 || j == 31 || j == 32 || j == 33)) || (decide (53 ≤ a) && decide (a ≤ 80))
def zmA (H H' : zHt) : Prop := ∀ a j : Int, zrelB a j = true → H' a j = H a j
theorem zrelB_o {a j : Int} (h : 53 ≤ a ∧ a ≤ 80) : zrelB a j = true := by
  unfold zrelB
  rw [decide_eq_true h.1, decide_eq_true h.2]; simp
theorem zcA_tr {H H1 H2 : zHt} (h1 : zcA H H1) (h2 : zcA H1 H2) : zcA H H2 := fun a j q => (h2 a j q).trans (h1 a j q)
theorem zmA_tr {H H1 H2 : zHt} (h1 : zmA H H1) (h2 : zmA H1 H2) : zmA H H2 := fun a j q => (h2 a j q).trans (h1 a j q)
theorem zMS_cA {H H1 : zHt} {D : List Int × Int × Int × Int} {L : List (List Int × Int × Int × Int)} (h : zcA H H1) (m : zMS H D L) : zMS H1 D L := by
  have e2 : ∀ j, H1 82 j = H 82 j := fun j => h 82 j rfl
  have e4 : ∀ j, H1 84 j = H 84 j := fun j => h 84 j rfl
  unfold zMS zDeM at m ⊢
  rw [h 81 5 rfl]
  simp only [e2, e4]
  exact m
/-- after an act: all is kept -/
theorem zact_fin {H H1 H2 : zHt} {D : List Int × Int × Int × Int} {L : List (List Int × Int × Int × Int)} (hR : zAllR H) (c1 : zcA H H1) (c2 : zWlk H1) (c3 : zCS H1 D L) (m1 : zmA H1 H2) (m3 : zMS H2 D L) (hv : zOkA D L) (st : H2 81 0 = H1 32 14) : zKept zAllR H2 := by
  obtain ⟨-, ⟨⟨f1, f2⟩, f3⟩, t, -, ik, -⟩ := hR
  obtain ⟨s1, s2, s3, s4, s5, s6⟩ := c3
  have k40 : ∀ j, H2 40 j = H1 40 j := fun j => m1 40 j rfl
  have k41 : ∀ j, H2 41 j = H1 41 j := fun j => m1 41 j rfl
  have k44 : ∀ j, H2 44 j = H1 44 j := fun j => m1 44 j rfl
  have s1' : zDeC H2 40 D := by
    unfold zDeC zArr at s1 ⊢
    rw [show (40 : Int) + 1 = 41 from rfl] at s1 ⊢
    simp only [k40, k41]
    exact s1
  refine ⟨by rw [st]; exact m1 32 14 rfl, ?_, ⟨⟨?_, ?_⟩, zM93_k f3 (fun j => (m1 93 j rfl).trans (c1 93 j rfl)) (fun j => (m1 101 j rfl).trans (c1 101 j rfl))⟩, ?_, ?_, ?_, ?_⟩
  · exact zDk_da.mpr (zDa_of hv.1 s1' m3.1)
  · rw [m1 32 12 rfl, m1 81 32 rfl, c1 32 12 rfl, c1 81 32 rfl]; exact f1
  · rw [m1 32 13 rfl, m1 81 33 rfl, c1 32 13 rfl, c1 81 33 rfl]; exact f2
  · have e1 : ∀ j, H2 34 j = H 34 j := fun j => (m1 34 j rfl).trans (c1 34 j rfl)
    have e2 : ∀ j, H2 99 j = H 99 j := fun j => (m1 99 j rfl).trans (c1 99 j rfl)
    unfold zTp at t ⊢
    rw [m1 33 8 rfl, m1 81 31 rfl, c1 33 8 rfl, c1 81 31 rfl]
    simp only [e1, e2]
    exact t
  · refine ⟨by rw [m1 32 11 rfl, s2, m3.2.1], by rw [m3.2.1]; omega, by rw [m3.2.1]; omega, fun i hi => by rw [k44]; exact s4 i hi, fun i j hi hj e => s5 i j hi hj (by rw [← k44, ← k44]; exact e), fun i hi => ?_⟩
    rw [m3.2.1] at hi
    have hi2 : i < L.length := by omega
    have hE := List.getElem?_eq_getElem hi2
    obtain ⟨j, j1, j2⟩ := s4 i (by omega)
    rw [k44]
    have a1 := s6 i _ hE
    refine zDa_of (hv.2 _ (List.getElem_mem hi2)) ?_ (m3.2.2 i _ hE)
    have ka : ∀ q, H2 (H1 44 i) q = H1 (H1 44 i) q := fun q => m1 _ q (zrelB_o (by omega))
    have kb : ∀ q, H2 (H1 44 i + 1) q = H1 (H1 44 i + 1) q := fun q => m1 _ q (zrelB_o (by omega))
    unfold zDeC zArr at a1 ⊢
    simp only [ka, kb]
    exact a1
  · have e1 : ∀ j, H2 49 j = H 49 j := fun j => (m1 49 j rfl).trans (c1 49 j rfl)
    have e2 : ∀ j, H2 98 j = H 98 j := fun j => (m1 98 j rfl).trans (c1 98 j rfl)
    unfold zIk at ik ⊢
    rw [m1 48 1 rfl, m1 81 29 rfl, c1 48 1 rfl, c1 81 29 rfl]
    simp only [e1, e2]
    exact ik
  · intro r h5 h1 h2
    rw [k40] at h1
    rw [m1 _ _ (zrelB_o (by omega))] at h2
    obtain ⟨a1, a2, a3, a4⟩ := c2 r h5 h1 h2
    rw [k40, k40, k40, k41]
    exact ⟨by rw [m1 _ _ (zrelB_o (by omega))]; exact a1, by rw [m1 _ _ (zrelB_o (by omega))]; exact a2, by rw [m1 _ _ (zrelB_o (by omega))]; exact a3, zArr_eq (fun k _ => m1 _ _ (zrelB_o (by omega))) a4⟩
def zQC (H : zHt) (A : Int × Int) (D : List Int × Int × Int × Int) (L : List (List Int × Int × Int × Int)) (x : Int) (H1 : zHt) : Prop := x = A.2 ∧ H1 32 14 = A.1 ∧ zcA H H1 ∧ zWlk H1 ∧ zCS H1 D L
def zQM (H : zHt) (A : Int × Int) (D : List Int × Int × Int × Int) (L : List (List Int × Int × Int × Int)) (x : Int) (H1 : zHt) : Prop := x = A.2 ∧ H1 81 0 = A.1 ∧ zmA H H1 ∧ zMS H1 D L
theorem zcaseA {w : zWt} {d1 d2 tc tm : Nat} {as bs : List zV} {H : zHt} {N M : Int → Int → zHt → Prop} (hR : zKept zAllR H) (h : ∀ D L, zOkA D L → zCS H D L → zMS H D L → ∃ A D' L', zOkA D' L' ∧ zclI w d1 tc as H (zQC H A D' L') ∧ ∀ H1, zcA H H1 → zMS H1 D L → zclI w d2 tm bs H1 (zQM H1 A D' L')) (nx : ∀ x y H', zKept zAllR H' → x = y → N x y H') : zclI w d1 tc as H (fun x H1 => zclI w d2 tm bs H1 (fun y H2 => (x = y → N x y H2) ∧ (¬ x = y → M x y H2))) := by
  obtain ⟨D, L, hv, hc, hm⟩ := zact_start hR.2
  obtain ⟨A, D', L', hv', hC, hM⟩ := h D L hv hc hm
  refine zclI_mono hC (fun x H1 q1 => ?_)
  obtain ⟨x1, x2, x3, x4, x5⟩ := q1
  refine zclI_mono (hM H1 x3 (zMS_cA x3 hm)) (fun y H2 q2 => ?_)
  obtain ⟨y1, y2, y3, y4⟩ := q2
  have exy : x = y := by rw [x1, y1]
  exact ⟨fun _ => nx x y H2 (zact_fin hR.2 x3 x4 x5 y3 y4 hv' (by rw [y2, x2])) exy, fun z => absurd exy z⟩
theorem zcA_cf {H H1 : zHt} (h : zcf H H1) : zcA H H1 := fun a j q => by
  by_cases z : a = 81 ∧ j = 0
  · obtain ⟨rfl, rfl⟩ := z; exact h.2
  · refine h.1.1 a j ?_
    unfold zrelA at q
    simp only [Bool.or_eq_true, Bool.and_eq_true, beq_iff_eq] at q
    rcases q with ((((((((((rfl | rfl) | rfl) | rfl) | rfl) | rfl) | rfl) | rfl) | ⟨rfl, rfl | rfl⟩) | ⟨rfl, rfl⟩) | ⟨rfl, rfl⟩) | ⟨rfl, ((((rfl | rfl) | rfl) | rfl) | rfl) | rfl⟩
    all_goals first | rfl | exact absurd ⟨rfl, rfl⟩ z
theorem zmA_mf {H H1 : zHt} (h : zmf H H1) : zmA H H1 := fun a j q => by
  by_cases z : a = 32 ∧ j = 14
  · obtain ⟨rfl, rfl⟩ := z; exact h.2
  · refine h.1 a j ?_
    by_cases y : 53 ≤ a ∧ a ≤ 80
    · exact zrel_o (Or.inr y)
    · unfold zrelB at q
      simp only [Bool.or_eq_true, Bool.and_eq_true, beq_iff_eq, decide_eq_true_eq] at q
      rcases q with ((((((((((((rfl | rfl) | rfl) | rfl) | rfl) | rfl) | rfl) | rfl) | rfl) | ⟨rfl, ((rfl | rfl) | rfl) | rfl⟩) | ⟨rfl, rfl⟩) | ⟨rfl, rfl⟩) | ⟨rfl, ((rfl | rfl) | rfl) | rfl⟩) | q
      all_goals first | rfl | exact absurd ⟨rfl, rfl⟩ z | exact absurd q y
theorem zCS_cf {H H1 : zHt} {D : List Int × Int × Int × Int} {L : List (List Int × Int × Int × Int)} (h : zcf H H1) (s : zCS H D L) : zCS H1 D L := by
  have k1 := h.1.1
  obtain ⟨s1, s2, s3, s4, s5, s6⟩ := s
  have k40 : ∀ j, H1 40 j = H 40 j := fun j => k1 40 j rfl
  have k41 : ∀ j, H1 41 j = H 41 j := fun j => k1 41 j rfl
  have k44 : ∀ j, H1 44 j = H 44 j := fun j => k1 44 j rfl
  refine ⟨?_, by rw [k1 32 11 rfl]; exact s2, s3, fun i hi => by rw [k44]; exact s4 i hi, fun i j hi hj e => s5 i j hi hj (by rw [← k44, ← k44]; exact e), fun i E hE => ?_⟩
  · unfold zDeC zArr at s1 ⊢
    rw [show (40 : Int) + 1 = 41 from rfl] at s1 ⊢
    simp only [k40, k41]
    exact s1
  · have hi : i < L.length := by
      rcases Nat.lt_or_ge i L.length with z | z
      · exact z
      · rw [List.getElem?_eq_none z] at hE; cases hE
    obtain ⟨j, j1, j2⟩ := s4 i (by omega)
    have a1 := s6 i E hE
    rw [k44]
    have ka : ∀ q, H1 (H 44 i) q = H (H 44 i) q := fun q => k1 _ q (zrel2_d (by omega))
    have kb : ∀ q, H1 (H 44 i + 1) q = H (H 44 i + 1) q := fun q => k1 _ q (zrel2_d (by omega))
    unfold zDeC zArr at a1 ⊢
    simp only [ka, kb]
    exact a1
theorem zMS_mf {H H1 : zHt} {D : List Int × Int × Int × Int} {L : List (List Int × Int × Int × Int)} (h : zmf H H1) (m : zMS H D L) : zMS H1 D L := by
  have e2 : ∀ j, H1 82 j = H 82 j := fun j => h.1 82 j rfl
  have e4 : ∀ j, H1 84 j = H 84 j := fun j => h.1 84 j rfl
  unfold zMS zDeM at m ⊢
  rw [h.1 81 5 rfl]
  simp only [e2, e4]
  exact m
/-- a refused act -/
theorem zQC_of {H H1 : zHt} {A : Int × Int} {D : List Int × Int × Int × Int} {L : List (List Int × Int × Int × Int)} {x : Int} (hW : zWlk H) (s : zCS H D L) (p : zPC H A x H1) : zQC H A D L x H1 := ⟨p.1, p.2.2, zcA_cf p.2.1, p.2.1.1.2 hW, zCS_cf p.2.1 s⟩
theorem zQM_of {H H1 : zHt} {A : Int × Int} {D : List Int × Int × Int × Int} {L : List (List Int × Int × Int × Int)} {x : Int} (s : zMS H D L) (p : zPM H A x H1) : zQM H A D L x H1 := ⟨p.1, p.2.2, zmA_mf p.2.1, zMS_mf p.2.1 s⟩
/-- what an act keeps -/
def zkpt (D : List Int × Int × Int × Int) (L : List (List Int × Int × Int × Int)) : List (List Int × Int × Int × Int) := (if L.length = 8 then L.tail else L) ++ [D]
theorem zkpt_ok {D D' : List Int × Int × Int × Int} {L : List (List Int × Int × Int × Int)} (h : zOkA D L) (h' : zOkD D') : zOkA D' (zkpt D L) := by
  refine ⟨h', fun E hE => ?_⟩
  unfold zkpt at hE
  rcases List.mem_append.mp hE with z | z
  · split at z
    · exact h.2 E (List.mem_of_mem_tail z)
    · exact h.2 E z
  · simp only [List.mem_cons, List.not_mem_nil, or_false] at z
    subst z; exact h.1
