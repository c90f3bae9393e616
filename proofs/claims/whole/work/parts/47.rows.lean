/-! rows: told by the class, gone by the model -/
theorem zplc_r : ∀ {v : Int} {l : List Int} {k : Int}, zplc v l k = -1 ∨ (k ≤ zplc v l k ∧ zplc v l k < k + l.length)
  | v, [], k => Or.inl rfl
  | v, a :: l, k => by
    unfold zplc
    rw [List.length_cons]
    by_cases h : a = v
    · rw [if_pos h]; exact Or.inr ⟨Int.le_refl _, by omega⟩
    · rw [if_neg h]
      rcases zplc_r (v := v) (l := l) (k := k + 1) with z | z
      · exact Or.inl z
      · exact Or.inr ⟨by omega, by omega⟩
/-- what is so of a row -/
def zRowOk (r : List Int × Int × Int) : Prop := 1 ≤ r.1.length ∧ r.1.length ≤ 101 ∧ (∀ k : Nat, k < r.1.length → 0 ≤ r.1.getD k 0 ∧ r.1.getD k 0 ≤ 999999999) ∧ (∀ k : Nat, k + 1 < r.1.length → 1 ≤ r.1.getD k 0) ∧ ((r.2.1 = 1 ∧ 0 ≤ r.2.2 ∧ r.2.2 < r.1.length) ∨ ((r.2.1 = 0 ∨ r.2.1 = 2 ∨ r.2.1 = 3) ∧ r.2.2 = -1)) ∧ 1 ≤ r.1.getD 0 0
theorem zget_app {l : List Int} {x : Int} : (l ++ [x]).getD l.length 0 = x := by
  rw [List.getD_eq_getElem?_getD, List.getElem?_append_right (Nat.le_refl _), Nat.sub_self]; rfl
theorem zget_app2 {l : List Int} {x : Int} {k : Nat} (h : k < l.length) : (l ++ [x]).getD k 0 = l.getD k 0 := by
  rw [List.getD_eq_getElem?_getD, List.getElem?_append_left h, List.getD_eq_getElem?_getD]
theorem zgoes_ok {law bound : Int} (hMR : zMR) (hl : 0 ≤ law ∧ law ≤ 3) (hb : bound ≤ 999999999) : ∀ (s : Nat) (vs : List Int), 1 ≤ vs.length → vs.length + s ≤ 101 → (∀ k : Nat, k < vs.length → 1 ≤ vs.getD k 0 ∧ vs.getD k 0 ≤ 999999999) → zRowOk (zgoes law bound s vs)
  | 0, vs, h1, h2, h3 => ⟨h1, h2, fun k hk => ⟨by have := (h3 k hk).1; show 0 ≤ vs.getD k 0; omega, (h3 k hk).2⟩, fun k hk => (h3 k (by show k < vs.length; have : k + 1 < vs.length := hk; omega)).1, Or.inr ⟨Or.inr (Or.inr rfl), rfl⟩, (h3 0 h1).1⟩
  | s + 1, vs, h1, h2, h3 => by
    have hlast := h3 (vs.length - 1) (by omega)
    have base : ∀ e b : Int, ((e = 1 ∧ 0 ≤ b ∧ b < vs.length) ∨ ((e = 0 ∨ e = 2 ∨ e = 3) ∧ b = -1)) → zRowOk (vs, e, b) := fun e b he => ⟨h1, by show vs.length ≤ 101; omega, fun k hk => ⟨by have := (h3 k hk).1; show 0 ≤ vs.getD k 0; omega, (h3 k hk).2⟩, fun k hk => (h3 k (by show k < vs.length; have : k + 1 < vs.length := hk; omega)).1, he, (h3 0 h1).1⟩
    unfold zgoes
    have hr : 0 ≤ zsum law (vs.getD (vs.length - 1) 0).toNat := by
      obtain ⟨H2, F, -⟩ := c45 (w := (0, fun _ => 0)) (H := fun _ _ => 0) (d := 0) (n := (vs.getD (vs.length - 1) 0).toNat) hMR (by omega) (by omega)
      exact (zsum_r (by omega) (by omega) F.2.1 hl).1
    generalize zsum law (vs.getD (vs.length - 1) 0).toNat = x at *
    have hp := zplc_r (v := x) (l := vs) (k := 0)
    by_cases c1 : zplc x vs 0 ≠ -1
    · rw [if_pos c1]
      exact base _ _ (Or.inl ⟨rfl, by omega, by omega⟩)
    · rw [if_neg c1]
      by_cases c2 : bound < x
      · rw [if_pos c2]
        exact base _ _ (Or.inr ⟨Or.inr (Or.inl rfl), rfl⟩)
      · rw [if_neg c2]
        by_cases c3 : x = 0
        · rw [if_pos c3]
          refine ⟨by show 1 ≤ (vs ++ [0]).length; rw [List.length_append]; omega, by show (vs ++ [0]).length ≤ 101; rw [List.length_append]; simp; omega, fun k hk => ?_, fun k hk => ?_, Or.inr ⟨Or.inl rfl, rfl⟩, ?_⟩
          · have hk : k < (vs ++ [0]).length := hk
            rw [List.length_append] at hk
            simp at hk
            by_cases z : k = vs.length
            · subst z
              show 0 ≤ (vs ++ [0]).getD vs.length 0 ∧ (vs ++ [0]).getD vs.length 0 ≤ 999999999
              rw [zget_app]; decide
            · show 0 ≤ (vs ++ [0]).getD k 0 ∧ (vs ++ [0]).getD k 0 ≤ 999999999
              rw [zget_app2 (by omega)]
              have := h3 k (by omega)
              omega
          · have hk : k + 1 < (vs ++ [0]).length := hk
            rw [List.length_append] at hk
            simp at hk
            show 1 ≤ (vs ++ [0]).getD k 0
            rw [zget_app2 (by omega)]
            exact (h3 k (by omega)).1
          · show 1 ≤ (vs ++ [0]).getD 0 0
            rw [zget_app2 (by omega)]
            exact (h3 0 h1).1
        · rw [if_neg c3]
          refine zgoes_ok hMR hl hb s (vs ++ [x]) (by rw [List.length_append]; omega) (by rw [List.length_append]; simp; omega) (fun k hk => ?_)
          rw [List.length_append] at hk
          simp at hk
          by_cases z : k = vs.length
          · subst z
            rw [zget_app]; omega
          · rw [zget_app2 (by omega)]
            exact h3 k (by omega)
theorem zrow_ok {law bound steps n : Int} (hMR : zMR) (hl : 0 ≤ law ∧ law ≤ 3) (hb : bound ≤ 999999999) (hs : steps ≤ 100) (hn : 1 ≤ n ∧ n ≤ 999999999) : zRowOk (zrow law bound steps n) := by
  refine zgoes_ok hMR hl hb steps.toNat [n] (Nat.le_refl _) (by show 1 + steps.toNat ≤ 101; omega) (fun k hk => ?_)
  have : k = 0 := by simp at hk; exact hk
  subst this
  exact hn
theorem zArr_app {H : zHt} {A x : Int} {l : List Int} (h : zArr H A l) : zArr (zup H A l.length x) A (l ++ [x]) := fun k hk => by
  rw [List.length_append] at hk
  simp at hk
  by_cases z : k = l.length
  · subst z; rw [zq_eq, zget_app]
  · rw [zq_ne (by omega), zget_app2 (by omega)]; exact h k (by omega)
-- the class
def zwkf (o : Int) (H0 H : zHt) : Prop := ∀ a j : Int, a ≠ 37 → a ≠ 38 → ¬ (a = 36 ∧ j = 3) → a ≠ o → a ≠ o + 1 → H a j = H0 a j
theorem zwkf_up {o i x a : Int} {H0 H : zHt} (h : zwkf o H0 H) (ha : a = o ∨ a = o + 1) : zwkf o H0 (zup H a i x) := fun b j h1 h2 h3 h4 h5 => by
  rw [zq_ne (by omega)]; exact h b j h1 h2 h3 h4 h5
theorem zwkf_fc {o : Int} {H0 H H1 : zHt} (h : zwkf o H0 H) (g : zfc H H1) : zwkf o H0 H1 := fun b j h1 h2 h3 h4 h5 => (g b j h1 h2 h3).trans (h b j h1 h2 h3 h4 h5)
theorem zisW_b {o : Int} (h : zisW o) : o = 46 ∨ (69 ≤ o ∧ o ≤ 79 ∧ o % 2 = 1) := by unfold zisW at h; omega
section Z47
variable {w : zWt} {d : Nat} {H : zHt}
theorem c110 {o v : Int} {vs : List Int} {K : Int → zHt → Prop} (ho : zisW o) (h1 : H o 1 = vs.length) (h9 : vs.length ≤ 101) (hA : zArr H (o + 1) vs) : zclI w d 110 [zR o, zL v] H K = K (zplc v vs 0) H := by
  have L : ∀ (suf pre : List Int) (K : Int → zHt → Prop), vs = pre ++ suf → K (zplc v suf pre.length) H → zgo w d 110 2 [zR o, zL v, zJ, zI pre.length] [] H (zQI K) := by
    intro suf
    induction suf with
    | nil =>
      intro pre K hl h
      have hlen : vs.length = pre.length := by rw [hl, List.append_nil]
      exact x110_2 ho ⟨fun _ => h, fun q => by omega⟩
    | cons x suf ih =>
      intro pre K hl h
      have hlen : vs.length = pre.length + (suf.length + 1) := by rw [hl, List.length_append]; rfl
      have hx : H (o + 1) (pre.length : Int) = x := by
        rw [hA pre.length (by omega), hl, List.getD_eq_getElem?_getD, List.getElem?_append_right (Nat.le_refl _), Nat.sub_self]; rfl
      unfold zplc at h
      refine x110_2 ho ⟨fun q => by omega, fun _ => ⟨by omega, fun q => ?_, fun q => ?_⟩⟩
      · rw [hx] at q
        rw [if_neg q] at h
        rw [show w32 ((pre.length : Int) + 1) = ((pre ++ [x]).length : Int) by rw [w32_id (by omega), List.length_append]; simp]
        refine ih (pre ++ [x]) K (by rw [hl]; simp) ?_
        rw [show ((pre ++ [x]).length : Int) = (pre.length : Int) + 1 by rw [List.length_append]; simp]
        exact h
      · rw [hx] at q
        rw [if_pos q] at h; exact h
  exact zclI_eq fun K h => x110_0 ho (L vs [] K rfl h)
theorem c109l {o law : Int} {H0 : zHt} (hMR : zMR) (ho : zisW o) (hl : 0 ≤ law ∧ law ≤ 3) (hb : H0 40 2 ≤ 999999999) (hs : H0 40 3 ≤ 100) : ∀ (s : Nat) (vs : List Int) (H : zHt), 1 ≤ vs.length → (vs.length : Int) + s = H0 40 3 + 1 → (∀ k : Nat, k < vs.length → 1 ≤ vs.getD k 0 ∧ vs.getD k 0 ≤ 999999999) → zwkf o H0 H → H o 4 = 1 → zWalkIs H o (vs, 3, -1) → zgo w (d + 4) 109 30 [zR o, zJ, zI law, zR 40, zR 36, zI vs.length, zJ, zJ] [] H (zQV fun H' => zwkf o H0 H' ∧ H' o 4 = 1 ∧ zWalkIs H' o (zgoes law (H0 40 2) s vs)) := by
  have hob := zisW_b ho
  intro s
  induction s with
  | zero =>
    intro vs H hv1 hvs hv hF h4 hW
    have e3 : H 40 3 = H0 40 3 := hF 40 3 (by decide) (by decide) (by decide) (by omega) (by omega)
    exact x109_30 ho (by unfold zisD; omega) ⟨fun _ => ⟨hF, h4, hW⟩, fun q => by omega⟩
  | succ s ih =>
    intro vs H hv1 hvs hv hF h4 hW
    have e2 : H 40 2 = H0 40 2 := hF 40 2 (by decide) (by decide) (by decide) (by omega) (by omega)
    have e3 : H 40 3 = H0 40 3 := hF 40 3 (by decide) (by decide) (by decide) (by omega) (by omega)
    obtain ⟨w1, w2, w3, w4⟩ := hW
    have w1 : H o 1 = vs.length := w1
    have w4 : zArr H (o + 1) vs := w4
    have hlast := hv (vs.length - 1) (by omega)
    have ei : w32 ((vs.length : Int) - 1) = ((vs.length - 1 : Nat) : Int) := by rw [w32_id (by omega)]; omega
    obtain ⟨H1, g, e⟩ := c53 (w := w) (H := H) (d := d) (law := law) (n := (vs.getD (vs.length - 1) 0).toNat) hMR (by omega) (by omega) hl
    obtain ⟨H2, F, -⟩ := c45 (w := w) (H := H) (d := d) (n := (vs.getD (vs.length - 1) 0).toNat) hMR (by omega) (by omega)
    have hsr := (zsum_r (law := law) (by omega) (by omega) F.2.1 hl).1
    have gF := zwkf_fc hF g
    have g1 : H1 o 1 = vs.length := (g o 1 (by omega) (by omega) (by omega)).trans w1
    have g2 : H1 o 2 = 3 := (g o 2 (by omega) (by omega) (by omega)).trans w2
    have g4 : H1 o 4 = 1 := (g o 4 (by omega) (by omega) (by omega)).trans h4
    have gA : zArr H1 (o + 1) vs := zArr_eq (fun k _ => g (o + 1) k (by omega) (by omega) (by omega)) w4
    have g42 : H1 40 2 = H0 40 2 := (g 40 2 (by decide) (by decide) (by decide)).trans e2
    unfold zgoes
    refine x109_30 ho (by unfold zisD; omega) ⟨fun q => by omega, fun _ => ⟨fun q => by omega, fun _ => ?_⟩⟩
    rw [ei, w4 (vs.length - 1) (by omega), zio hlast.1, e]
    refine ⟨by omega, ?_⟩
    rw [Int.toNat_of_nonneg (by omega)]
    generalize zsum law (vs.getD (vs.length - 1) 0).toNat = x at *
    rw [c110 ho g1 (by omega) gA, zq_eq]
    generalize hp : zplc x vs 0 = p
    have r2 : zup H1 o 3 p 40 2 = H0 40 2 := by rw [zq_ne (by omega)]; exact g42
    rw [r2]
    refine ⟨fun c1 => ⟨fun c2 => ⟨by omega, fun c3 => ?_, fun c3 => ?_⟩, fun c2 => ?_⟩, fun c1 => ?_⟩
    · rw [if_neg (by omega), if_neg (by omega), if_neg c3]
      have hx : x ≤ 999999999 := by omega
      rw [w32_id (show _ ≤ x ∧ _ by omega)]
      have ev : zup (zup H1 o 3 p) (o + 1) vs.length x o 1 = vs.length := by rw [zq_ne (by omega), zq_ne (by omega)]; exact g1
      rw [ev, zi1 (by omega), show ((vs.length + 1 : Nat) : Int) = ((vs ++ [x]).length : Int) by rw [List.length_append]; rfl]
      refine ih (vs ++ [x]) _ (by rw [List.length_append]; omega) (by rw [List.length_append]; simp; omega) (fun k hk => ?_) (zwkf_up (zwkf_up (zwkf_up gF (Or.inl rfl)) (Or.inr rfl)) (Or.inl rfl)) ?_ ⟨zq_eq, ?_, ?_, ?_⟩
      · rw [List.length_append] at hk
        simp at hk
        by_cases z : k = vs.length
        · subst z; rw [zget_app]; omega
        · rw [zget_app2 (by omega)]; exact hv k (by omega)
      · rw [zq_ne (by omega), zq_ne (by omega), zq_ne (by omega)]; exact g4
      · show _ = (3 : Int)
        rw [zq_ne (by omega), zq_ne (by omega), zq_ne (by omega)]; exact g2
      · show _ = (-1 : Int)
        rw [zq_ne (by omega), zq_ne (by omega), zq_eq]; exact c1
      · refine zArr_eq (H := zup H1 (o + 1) vs.length x) (fun k _ => ?_) (zArr_app gA)
        rw [zq_ne (by omega)]
        by_cases z : k = vs.length
        · subst z; rw [zq_eq, zq_eq]
        · rw [zq_ne (by omega), zq_ne (by omega), zq_ne (by omega)]
    · rw [if_neg (by omega), if_neg (by omega), if_pos c3]
      subst c3
      have ew : w32 0 = 0 := rfl
      rw [ew]
      have ev : zup (zup H1 o 3 p) (o + 1) vs.length 0 o 1 = vs.length := by rw [zq_ne (by omega), zq_ne (by omega)]; exact g1
      rw [ev, zi1 (by omega)]
      refine ⟨zwkf_up (zwkf_up (zwkf_up (zwkf_up gF (Or.inl rfl)) (Or.inr rfl)) (Or.inl rfl)) (Or.inl rfl), ?_, ?_, zq_eq, ?_, ?_⟩
      · rw [zq_ne (by omega), zq_ne (by omega), zq_ne (by omega), zq_ne (by omega)]; exact g4
      · rw [zq_ne (by omega), zq_eq]
        show _ = ((vs ++ [0]).length : Int)
        rw [List.length_append]; rfl
      · show _ = (-1 : Int)
        rw [zq_ne (by omega), zq_ne (by omega), zq_ne (by omega), zq_eq]; exact c1
      · refine zArr_eq (H := zup H1 (o + 1) vs.length 0) (fun k _ => ?_) (zArr_app gA)
        rw [zq_ne (by omega), zq_ne (by omega)]
        by_cases z : k = vs.length
        · subst z; rw [zq_eq, zq_eq]
        · rw [zq_ne (by omega), zq_ne (by omega), zq_ne (by omega)]
    · rw [if_neg (by omega), if_pos c2]
      refine ⟨zwkf_up (zwkf_up gF (Or.inl rfl)) (Or.inl rfl), ?_, ?_, zq_eq, ?_, ?_⟩
      · rw [zq_ne (by omega), zq_ne (by omega)]; exact g4
      · rw [zq_ne (by omega), zq_ne (by omega)]; exact g1
      · show _ = (-1 : Int)
        rw [zq_ne (by omega), zq_eq]; exact c1
      · exact zArr_eq (fun k _ => by rw [zq_ne (by omega), zq_ne (by omega)]) gA
    · rw [if_pos c1]
      refine ⟨zwkf_up (zwkf_up gF (Or.inl rfl)) (Or.inl rfl), ?_, ?_, zq_eq, ?_, ?_⟩
      · rw [zq_ne (by omega), zq_ne (by omega)]; exact g4
      · rw [zq_ne (by omega), zq_ne (by omega)]; exact g1
      · show _ = p
        rw [zq_ne (by omega), zq_eq]
      · exact zArr_eq (fun k _ => by rw [zq_ne (by omega), zq_ne (by omega)]) gA
theorem c109 {o n law : Int} (hMR : zMR) (ho : zisW o) (hl : 0 ≤ law ∧ law ≤ 3) (hb : H 40 2 ≤ 999999999) (hs : 1 ≤ H 40 3 ∧ H 40 3 ≤ 100) (hn : 1 ≤ n ∧ n ≤ 999999999) : ∃ H', (zwkf o H H' ∧ H' o 4 = 1 ∧ zWalkIs H' o (zrow law (H 40 2) (H 40 3) n)) ∧ ∀ K : zHt → Prop, zclV w (d + 4) 109 [zR o, zI n, zI law, zR 40, zR 36] H K = K H' := by
  have hob := zisW_b ho
  refine zclV_ex (x109_0 ho (by unfold zisD; omega) ?_)
  refine c109l (d := d) (H0 := H) hMR ho hl hb hs.2 (H 40 3).toNat [n] _ (Nat.le_refl _) (by show (1 : Int) + _ = _; omega) (fun k hk => ?_) (zwkf_up (zwkf_up (zwkf_up (zwkf_up (zwkf_up (fun _ _ _ _ _ _ _ => rfl) (Or.inr rfl)) (Or.inl rfl)) (Or.inl rfl)) (Or.inl rfl)) (Or.inl rfl)) zq_eq ⟨?_, ?_, ?_, ?_⟩
  · have : k = 0 := by simp at hk; exact hk
    subst this; exact hn
  · rw [zq_ne (by omega), zq_ne (by omega), zq_ne (by omega), zq_eq]; rfl
  · rw [zq_ne (by omega), zq_ne (by omega), zq_eq]
  · rw [zq_ne (by omega), zq_eq]
  · intro k hk
    have : k = 0 := by simp at hk; exact hk
    subst this
    show _ = n
    rw [zq_ne (by omega), zq_ne (by omega), zq_ne (by omega), zq_ne (by omega)]; exact zq_eq
/-- the row r of the desk -/
noncomputable def zRW (H : zHt) (r : Int) : List Int × Int × Int := zrow (H 40 4) (H 40 2) (H 40 3) (H 41 r)
theorem zRW_ok {r : Int} (hMR : zMR) (hD : zDk H) (hr : 0 ≤ r ∧ r < H 40 1) : zRowOk (zRW H r) := by
  have := hD.2.2.2.2.2.2.2.2 r.toNat (by omega)
  rw [Int.toNat_of_nonneg hr.1] at this
  exact zrow_ok hMR hD.1 hD.2.2.2.2.2.2.1.2 hD.2.2.2.2.2.2.2.1.2 this.2
theorem zRW_eq {H1 : zHt} {r : Int} (h : zkeep2 H H1) : zRW H1 r = zRW H r := by
  unfold zRW
  rw [h 40 4 rfl, h 40 2 rfl, h 40 3 rfl, h 41 r rfl]
theorem zisW_r {r : Nat} (h : r ≤ 5) : zisW (69 + 2 * (r : Int)) := by unfold zisW; omega
theorem c108 {r : Nat} (hMR : zMR) (hD : zDk H) (hW : zWlk H) (hr : (r : Int) < H 40 1) : ∃ H', (zcf H H' ∧ H' 32 14 = H 32 14 ∧ zWalkIs H' (69 + 2 * r) (zRW H r) ∧ ∀ q : Nat, q ≤ 5 → q ≠ r → ∀ j, H' (69 + 2 * q) j = H (69 + 2 * q) j ∧ H' (69 + 2 * q + 1) j = H (69 + 2 * q + 1) j) ∧ ∀ K : Int → zHt → Prop, zclR w (d + 5) 108 [zR 32, zI r] H K = K (69 + 2 * r) H' := by
  have h6 := hD.2.2.2.2.2.1
  have hr5 : r ≤ 5 := by omega
  by_cases ht : H (69 + 2 * r) 4 = 0
  · have hst := hD.2.2.2.2.2.2.2.2 r hr
    obtain ⟨H1, ⟨f, t4, hw⟩, e⟩ := c109 (w := w) (d := d) (H := H) (o := 69 + 2 * r) (n := H 41 r) (law := H 40 4) hMR (zisW_r hr5) hD.1 hD.2.2.2.2.2.2.1.2 hD.2.2.2.2.2.2.2.1 hst.2
    have k2 : zkeep2 H H1 := fun a j q => f a j (fun z => by subst z; cases q) (fun z => by subst z; cases q) (fun z => by obtain ⟨rfl, rfl⟩ := z; cases q) (fun z => by
      subst z; unfold zrel2 at q; rw [decide_eq_true (show (69 : Int) ≤ 69 + 2 * (r : Int) by omega), decide_eq_true (show 69 + 2 * (r : Int) ≤ 80 by omega)] at q; simp at q) (fun z => by
      subst z; unfold zrel2 at q; rw [decide_eq_true (show (69 : Int) ≤ 69 + 2 * (r : Int) + 1 by omega), decide_eq_true (show 69 + 2 * (r : Int) + 1 ≤ 80 by omega)] at q; simp at q)
    refine ⟨H1, ⟨⟨⟨k2, fun hw0 q q5 q1 q2 => ?_⟩, f 81 0 (by decide) (by decide) (by decide) (by omega) (by omega)⟩, f 32 14 (by decide) (by decide) (by decide) (by omega) (by omega), hw, fun q q5 qr j => ⟨f _ j (by omega) (by omega) (by omega) (by omega) (by omega), f _ j (by omega) (by omega) (by omega) (by omega) (by omega)⟩⟩, fun K => zclR_eq fun K h => x108_0 ⟨by omega, fun q => absurd ht q, fun _ => by rw [e]; exact h⟩⟩
    rw [k2 40 1 rfl] at q1
    rw [k2 40 4 rfl, k2 40 2 rfl, k2 40 3 rfl, k2 41 q rfl]
    by_cases z : q = r
    · subst z; exact hw
    · have fa : ∀ j, H1 (69 + 2 * q) j = H (69 + 2 * q) j := fun j => f _ j (by omega) (by omega) (by omega) (by omega) (by omega)
      have fb : ∀ j, H1 (69 + 2 * q + 1) j = H (69 + 2 * q + 1) j := fun j => f _ j (by omega) (by omega) (by omega) (by omega) (by omega)
      rw [fa] at q2
      obtain ⟨a1, a2, a3, a4⟩ := hw0 q q5 q1 q2
      exact ⟨by rw [fa]; exact a1, by rw [fa]; exact a2, by rw [fa]; exact a3, zArr_eq (fun k _ => fb k) a4⟩
  · exact ⟨H, ⟨zcf_rfl, rfl, hW r hr5 hr ht, fun q _ _ j => ⟨rfl, rfl⟩⟩, fun K => zclR_eq fun K h => x108_0 ⟨by omega, fun _ => h, fun q => absurd q ht⟩⟩
/-- a call on a row, by the class: from the row on -/
theorem zwalk {r : Int} {P : Int → zHt → Prop} (hMR : zMR) (hD : zDk H) (hW : zWlk H) (hr : 0 ≤ r ∧ r < H 40 1) (h : ∀ (o : Int) (H1 : zHt), zisW o → o = 69 + 2 * r → zcf H H1 → zWalkIs H1 o (zRW H r) → P o H1) : zclR w (d + 5) 108 [zR 32, zI r] H (fun x H1 => zisW x ∧ P x H1) := by
  obtain ⟨n, rfl⟩ : ∃ n : Nat, r = n := ⟨r.toNat, by omega⟩
  have h6 := hD.2.2.2.2.2.1
  obtain ⟨H1, ⟨a1, a2, a3, a4⟩, e⟩ := c108 (w := w) (d := d) (H := H) (r := n) hMR hD hW hr.2
  rw [e]
  have hw := zisW_r (r := n) (by omega)
  exact ⟨hw, h _ H1 hw rfl a1 a3⟩
-- the model
def zMrow (H : zHt) (r : List Int × Int × Int) : Prop := H 81 21 = r.1.length ∧ H 81 22 = r.2.1 ∧ H 81 23 = r.2.2 ∧ zArr H 94 r.1
def zgf (H0 H : zHt) : Prop := ∀ a j : Int, a ≠ 85 → a ≠ 86 → a ≠ 94 → ¬ (a = 81 ∧ (j = 8 ∨ j = 21 ∨ j = 22 ∨ j = 23 ∨ j = 25)) → H a j = H0 a j
theorem zgf_fm {H0 H H1 : zHt} (h : zgf H0 H) (g : zfm H H1) : zgf H0 H1 := fun a j h1 h2 h3 h4 => (g a j h1 h2 (by omega)).trans (h a j h1 h2 h3 h4)
theorem zgf_94 {H0 H : zHt} {i x : Int} (h : zgf H0 H) : zgf H0 (zup H 94 i x) := fun a j h1 h2 h3 h4 => by
  rw [zq_ne (by omega)]; exact h a j h1 h2 h3 h4
theorem zgf_81 {H0 H : zHt} {i x : Int} (h : zgf H0 H) (hi : i = 21 ∨ i = 22 ∨ i = 23 ∨ i = 25) : zgf H0 (zup H 81 i x) := fun a j h1 h2 h3 h4 => by
  rw [zq_ne (by omega)]; exact h a j h1 h2 h3 h4
theorem zgf_keep {H H' : zHt} (h : zgf H H') : zkeep H H' := fun a j q => h a j (fun z => by subst z; cases q) (fun z => by subst z; cases q) (fun z => by subst z; cases q) (fun z => by obtain ⟨rfl, rfl | rfl | rfl | rfl | rfl⟩ := z <;> cases q)
theorem zmf_gf {H0 H H1 : zHt} (h : zmf H0 H) (f : zgf H H1) : zmf H0 H1 := zmf_tr h ⟨zgf_keep f, f 32 14 (by decide) (by decide) (by decide) (by decide)⟩
theorem c228 {v : Int} {vs : List Int} {K : Int → zHt → Prop} (h1 : H 81 21 = vs.length) (h9 : vs.length ≤ 101) (hA : zArr H 94 vs) : zclI w d 228 [zR 81, zL v] H K = K (zplc v vs 0) H := by
  have L : ∀ (suf pre : List Int) (K : Int → zHt → Prop), vs = pre ++ suf → K (zplc v suf pre.length) H → zgo w d 228 2 [zR 81, zL v, zJ, zI pre.length] [] H (zQI K) := by
    intro suf
    induction suf with
    | nil =>
      intro pre K hl h
      have hlen : vs.length = pre.length := by rw [hl, List.append_nil]
      exact x228_2 ⟨fun _ => h, fun q => by omega⟩
    | cons x suf ih =>
      intro pre K hl h
      have hlen : vs.length = pre.length + (suf.length + 1) := by rw [hl, List.length_append]; rfl
      have hx : H 94 (pre.length : Int) = x := by
        rw [hA pre.length (by omega), hl, List.getD_eq_getElem?_getD, List.getElem?_append_right (Nat.le_refl _), Nat.sub_self]; rfl
      unfold zplc at h
      refine x228_2 ⟨fun q => by omega, fun _ => ⟨by omega, fun q => ?_, fun q => ?_⟩⟩
      · rw [hx] at q
        rw [if_neg q] at h
        rw [show w32 ((pre.length : Int) + 1) = ((pre ++ [x]).length : Int) by rw [w32_id (by omega), List.length_append]; simp]
        refine ih (pre ++ [x]) K (by rw [hl]; simp) ?_
        rw [show ((pre ++ [x]).length : Int) = (pre.length : Int) + 1 by rw [List.length_append]; simp]
        exact h
      · rw [hx] at q
        rw [if_pos q] at h; exact h
  exact zclI_eq fun K h => x228_0 (L vs [] K rfl h)
theorem c227l {law : Int} {H0 : zHt} (hMR : zMR) (hl : 0 ≤ law ∧ law ≤ 3) (hb : H0 82 7 ≤ 999999999) (hs : H0 82 8 ≤ 100) : ∀ (s : Nat) (vs : List Int) (H : zHt), 1 ≤ vs.length → (vs.length : Int) + s = H0 82 8 → (∀ k : Nat, k < vs.length → 1 ≤ vs.getD k 0 ∧ vs.getD k 0 ≤ 999999999) → zgf H0 H → H 81 25 = law → zMrow H (vs, -1, -1) → zgo w (d + 3) 227 27 [zR 81, zJ, zJ, zJ, zJ, zJ] [] H (zQV fun H' => zgf H0 H' ∧ zMrow H' (zgoes law (H0 82 7) (s + 1) vs)) := by
  intro s
  induction s using Nat.strongRecOn with
  | ind s ih =>
    intro vs H hv1 hvs hv hF h25 hW
    have ez : ∀ {H' : zHt} {r : List Int × Int × Int}, zgf H0 H' → zMrow H' r → 0 ≤ r.2.1 → zgo w (d + 3) 227 27 [zR 81, zJ, zJ, zJ, zJ, zJ] [] H' (zQV fun H' => zgf H0 H' ∧ zMrow H' r) := fun {H' r} f1 f2 f3 => x227_27 ⟨fun _ => ⟨f1, f2⟩, fun q => by have := f2.2.1; omega⟩
    obtain ⟨w1, w2, w3, w4⟩ := hW
    have w1 : H 81 21 = vs.length := w1
    have w2 : H 81 22 = -1 := w2
    have w3 : H 81 23 = -1 := w3
    have w4 : zArr H 94 vs := w4
    have hlast := hv (vs.length - 1) (by omega)
    have ei : w32 ((vs.length : Int) - 1) = ((vs.length - 1 : Nat) : Int) := by rw [w32_id (by omega)]; omega
    obtain ⟨H1, g, e⟩ := c181 (w := w) (H := H) (d := d) (law := law) (n := (vs.getD (vs.length - 1) 0).toNat) (by omega) (by omega)
    obtain ⟨H2, F, -⟩ := c45 (w := w) (H := H) (d := d) (n := (vs.getD (vs.length - 1) 0).toNat) hMR (by omega) (by omega)
    have hsr := (zsum_r (law := law) (by omega) (by omega) F.2.1 hl).1
    have gF := zgf_fm hF g
    have g1 : H1 81 21 = vs.length := (g 81 21 (by decide) (by decide) (by decide)).trans w1
    have g2 : H1 81 22 = -1 := (g 81 22 (by decide) (by decide) (by decide)).trans w2
    have g3 : H1 81 23 = -1 := (g 81 23 (by decide) (by decide) (by decide)).trans w3
    have g5 : H1 81 25 = law := (g 81 25 (by decide) (by decide) (by decide)).trans h25
    have gA : zArr H1 94 vs := zArr_eq (fun k _ => g 94 k (by decide) (by decide) (by omega)) w4
    have g7 : H1 82 7 = H0 82 7 := gF 82 7 (by decide) (by decide) (by decide) (by decide)
    have g8 : H1 82 8 = H0 82 8 := gF 82 8 (by decide) (by decide) (by decide) (by decide)
    unfold zgoes
    refine x227_27 ⟨fun q => by omega, fun _ => ?_⟩
    rw [w1, ei, w4 (vs.length - 1) (by omega), h25, zio hlast.1, e]
    refine ⟨by omega, ?_⟩
    rw [Int.toNat_of_nonneg (by omega)]
    generalize zsum law (vs.getD (vs.length - 1) 0).toNat = x at *
    rw [c228 g1 (by omega) gA, g7, g8, g1]
    have hp := zplc_r (v := x) (l := vs) (k := 0)
    generalize zplc x vs 0 = p at *
    have hap : ∀ y : Int, ((vs.length + 1 : Nat) : Int) = ((vs ++ [y]).length : Int) := fun y => by rw [List.length_append]; rfl
    have nx : ∀ (y e0 : Int), zMrow (zup (zup (zup H1 94 vs.length y) 81 21 ((vs.length + 1 : Nat) : Int)) 81 22 e0) (vs ++ [y], e0, -1) := fun y e0 => by
      refine ⟨?_, zq_eq, ?_, ?_⟩
      · rw [zq_ne (by omega), zq_eq]; exact hap y
      · show _ = (-1 : Int)
        rw [zq_ne (by omega), zq_ne (by omega), zq_ne (by omega)]; exact g3
      · refine zArr_eq (H := zup H1 94 vs.length y) (fun k _ => ?_) (zArr_app gA)
        rw [zq_ne (by omega), zq_ne (by omega)]
    have nf : ∀ (y e0 : Int), zgf H0 (zup (zup (zup H1 94 vs.length y) 81 21 ((vs.length + 1 : Nat) : Int)) 81 22 e0) := fun y e0 => zgf_81 (zgf_81 (zgf_94 gF) (by omega)) (by omega)
    rw [zi1 (by omega)]
    refine ⟨fun c1 => ⟨fun c2 => ⟨by omega, fun c3 => ?_, fun c3 => ?_⟩, fun c2 => ?_⟩, fun c1 => ?_⟩
    · rw [if_neg (by omega), if_neg (by omega), if_neg c3, w32_id (show _ ≤ x ∧ _ by omega)]
      refine ⟨fun q => ?_, fun q => ?_⟩
      · obtain ⟨t, rfl⟩ : ∃ t, s = t + 1 := ⟨s - 1, by omega⟩
        refine ih t (by omega) (vs ++ [x]) _ (by rw [List.length_append]; omega) (by rw [List.length_append]; simp; omega) (fun k hk => ?_) (nf x (-1)) ?_ (nx x (-1))
        · rw [List.length_append] at hk
          simp at hk
          by_cases z : k = vs.length
          · subst z; rw [zget_app]; omega
          · rw [zget_app2 (by omega)]; exact hv k (by omega)
        · rw [zq_ne (by omega), zq_ne (by omega), zq_ne (by omega)]; exact g5
      · have : s = 0 := by omega
        subst this
        exact ez (nf x 3) (nx x 3) (show (0 : Int) ≤ 3 by decide)
    · rw [if_neg (by omega), if_neg (by omega), if_pos c3]
      subst c3
      exact ez (nf 0 0) (nx 0 0) (show (0 : Int) ≤ 0 by decide)
    · rw [if_neg (by omega), if_pos c2]
      refine ez (zgf_81 gF (by omega)) ⟨?_, zq_eq, ?_, ?_⟩ (show (0 : Int) ≤ 2 by decide)
      · rw [zq_ne (by omega)]; exact g1
      · rw [zq_ne (by omega)]; exact g3
      · exact zArr_eq (fun k _ => by rw [zq_ne (by omega)]) gA
    · rw [if_pos (by omega)]
      refine ez (zgf_81 (zgf_81 gF (by omega)) (by omega)) ⟨?_, ?_, zq_eq, ?_⟩ (show (0 : Int) ≤ 1 by decide)
      · rw [zq_ne (by omega), zq_ne (by omega)]; exact g1
      · show _ = (1 : Int)
        rw [zq_ne (by omega), zq_eq]
      · exact zArr_eq (fun k _ => by rw [zq_ne (by omega), zq_ne (by omega)]) gA
theorem c227 {n law : Int} (hMR : zMR) (hl : 0 ≤ law ∧ law ≤ 3) (hb : H 82 7 ≤ 999999999) (hs : 1 ≤ H 82 8 ∧ H 82 8 ≤ 100) (hn : 1 ≤ n ∧ n ≤ 999999999) : ∃ H', (zgf H H' ∧ zMrow H' (zrow law (H 82 7) (H 82 8) n)) ∧ ∀ K : zHt → Prop, zclV w (d + 3) 227 [zR 81, zI n, zI law] H K = K H' := by
  refine zclV_ex (x227_0 ?_)
  have := c227l (w := w) (d := d) (H0 := H) (law := law) hMR hl hb hs.2 ((H 82 8).toNat - 1) [n] (zup (zup (zup (zup (zup H 81 25 law) 94 0 n) 81 21 1) 81 22 (-1)) 81 23 (-1)) (Nat.le_refl _) (by show (1 : Int) + _ = _; omega) (fun k hk => by
    have : k = 0 := by simp at hk; exact hk
    subst this; exact hn) (zgf_81 (zgf_81 (zgf_81 (zgf_94 (zgf_81 (fun _ _ _ _ _ _ => rfl) (by omega))) (by omega)) (by omega)) (by omega)) ?_ ⟨?_, ?_, ?_, ?_⟩
  · rw [show (H 82 8).toNat - 1 + 1 = (H 82 8).toNat by omega] at this
    exact this
  · rw [zq_ne (by omega), zq_ne (by omega), zq_ne (by omega), zq_ne (by omega), zq_eq]
  · rw [zq_ne (by omega), zq_ne (by omega), zq_eq]; rfl
  · rw [zq_ne (by omega), zq_eq]
  · rw [zq_eq]
  · intro k hk
    have : k = 0 := by simp at hk; exact hk
    subst this
    show _ = n
    rw [zq_ne (by omega), zq_ne (by omega), zq_ne (by omega)]; exact zq_eq
theorem zDk_row {r : Int} (hD : zDk H) (hr : 0 ≤ r ∧ r < H 40 1) : H 82 r = H 41 r ∧ 1 ≤ H 41 r ∧ H 41 r ≤ 999999999 := by
  have := hD.2.2.2.2.2.2.2.2 r.toNat (by omega)
  rw [Int.toNat_of_nonneg hr.1] at this
  exact ⟨this.1.symm, this.2⟩
/-- the model goes a row of its own -/
theorem c226 {H0 : zHt} {r : Int} (hMR : zMR) (hD : zDk H) (hr : 0 ≤ r ∧ r < H 40 1) : ∃ H', (zgf H H' ∧ zMrow H' (zRW H r)) ∧ ∀ K : zHt → Prop, zclV w (d + 4) 226 [zR 81, zI (H 82 r)] H K = K H' := by
  obtain ⟨e, r1, r2⟩ := zDk_row hD hr
  obtain ⟨d1, d2, d3, d4, d5, d6, d7, d8, -⟩ := hD
  obtain ⟨H1, ⟨f, hm⟩, e1⟩ := c227 (w := w) (d := d) (H := H) (n := H 82 r) (law := H 82 9) hMR (by rw [d2]; exact d1) (by rw [d4]; exact d7.2) (by rw [d5]; exact d8) (by rw [e]; exact ⟨r1, r2⟩)
  refine ⟨H1, ⟨f, ?_⟩, fun K => zclV_eq fun K h => x226_0 (by rw [e1]; exact h)⟩
  rw [d4, d5, d2, e] at hm
  exact hm
theorem zDk_zst {s : Int} (hD : zDk H) : zDk (zst H s) := by
  have e : ∀ a j : Int, a ≠ 81 → zst H s a j = H a j := fun a j h => zst_at (by omega)
  unfold zDk at hD ⊢
  simp only [e 40 _ (by decide), e 41 _ (by decide), e 82 _ (by decide)]
  exact hD
theorem zRW_zst {s r : Int} : zRW (zst H s) r = zRW H r := by
  unfold zRW
  rw [zst_at (by omega), zst_at (by omega), zst_at (by omega), zst_at (by omega)]
/-- a call on a row, by the model: from the row on -/
theorem c225 {g r : Int} {P : Int → zHt → Prop} (hMR : zMR) (hD : zDk H) (h0 : ¬ g = 0 → (0 ≤ r ∧ r < H 40 1) → ∀ H1, zmf H H1 → H1 81 0 = 0 → zMrow H1 (zRW H r) → P 1 H1) (h1 : g = 0 → P 0 (zst H 1)) (h2 : ¬ g = 0 → ¬ (0 ≤ r ∧ r < H 40 1) → P 0 (zst H 2)) : zclI w (d + 5) 225 [zR 81, zI g, zI r] H P := by
  have d6 := hD.2.2.2.2.2.1
  have d3 := hD.2.2.1
  refine x225_0 ?_
  rw [c222 (by rw [d3]; exact d6), d3, c174a]
  by_cases hg : g = 0
  · rw [if_pos hg, if_neg (by decide)]
    exact ⟨fun q => absurd rfl q, fun _ => h1 hg⟩
  · rw [if_neg hg]
    by_cases hr : 0 ≤ r ∧ r < H 40 1
    · rw [if_pos hr, if_pos rfl]
      obtain ⟨H1, ⟨f, hm⟩, e⟩ := c226 (w := w) (d := d) (H := zst H 0) (H0 := H) (r := r) hMR (zDk_zst hD) (by rw [zst_at (by omega)]; exact hr)
      refine ⟨fun _ => ⟨by omega, ?_⟩, fun q => absurd q (by decide)⟩
      rw [e]
      refine h0 hg hr H1 (zmf_gf (zst_f zmf_rfl) f) ?_ (by rw [zRW_zst] at hm; exact hm)
      rw [f 81 0 (by decide) (by decide) (by decide) (by decide)]; rfl
    · rw [if_neg hr, if_neg (by decide)]
      exact ⟨fun q => absurd rfl q, fun _ => h2 hg hr⟩
end Z47
/-- the form of an answer about a row -/
noncomputable def zAr (H : zHt) (g : Bool) (r : Int) (f : List Int × Int × Int → Int × Int) : Int × Int := if g = true then (if 0 ≤ r ∧ r < H 40 1 then f (zRW H r) else (2, -1)) else (1, -1)
theorem zAr_con {g : Bool} {r : Int} {f : List Int × Int × Int → Int × Int} : zcon (fun H => zAr H g r f) := fun H H1 h => by
  show zAr H1 g r f = zAr H g r f
  unfold zAr
  rw [h 40 1 rfl, zRW_eq h]
