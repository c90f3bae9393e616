/-! the class's sums, kinds, primes -/
theorem zw64_w (a : Int) : w64 (w64 a) = w64 a := w64_id (w64_r a)
theorem zss1 : ∀ (l : List (Nat × Nat)) (s b : Int), (l.foldl (zsst 1) (s, b)).1 = l.foldl (fun s q => w64 (s * w64 (zpw q.1 q.2 + 1))) s
  | [], _, _ => rfl
  | q :: l, s, b => by
    rw [List.foldl_cons, List.foldl_cons]
    have e : zsst 1 (s, b) q = (w64 (s * w64 (zpw q.1 q.2 + 1)), if b = 0 then 0 else if (q.2 : Int) = 1 then 1 else 0) := by
      unfold zsst
      rw [if_pos rfl, Int.add_comm 1]
    rw [e]
    exact zss1 l _ _
theorem zss3 {law : Int} (hl : law ≠ 1) : ∀ (l : List (Nat × Nat)) (s b : Int), (∀ q ∈ l, q.1 ≤ 999999999) → (l.foldl (zsst law) (s, b)).1 = l.foldl (fun s q => w64 (s * ((q.1 : Int) + 1))) s
  | [], _, _, _ => rfl
  | q :: l, s, b, h => by
    rw [List.foldl_cons, List.foldl_cons]
    have hq := h q List.mem_cons_self
    have e : zsst law (s, b) q = (w64 (s * ((q.1 : Int) + 1)), if b = 0 then 0 else if (q.2 : Int) = 1 then 1 else 0) := by
      unfold zsst
      rw [if_neg hl, show w64 (1 + (q.1 : Int)) = (q.1 : Int) + 1 by rw [Int.add_comm]; exact w64_id (by omega)]
    rw [e]
    exact zss3 hl l _ _ (fun r hr => h r (List.mem_cons_of_mem _ hr))
theorem zssb {law : Int} : ∀ (l : List (Nat × Nat)) (s b : Int), (∀ q ∈ l, 1 ≤ q.2) → ((l.foldl (zsst law) (s, b)).2 = 0 ↔ (b = 0 ∨ ¬ ∀ q ∈ l, q.2 ≤ 1))
  | [], s, b, _ => by simp
  | q :: l, s, b, h => by
    rw [List.foldl_cons]
    have hq := h q List.mem_cons_self
    have ih := zssb (law := law) l (zsst law (s, b) q).1 (zsst law (s, b) q).2 (fun r hr => h r (List.mem_cons_of_mem _ hr))
    rw [ih]
    have e : (zsst law (s, b) q).2 = if b = 0 then 0 else if (q.2 : Int) = 1 then 1 else 0 := rfl
    rw [e]
    rw [List.forall_mem_cons]
    by_cases hb : b = 0
    · simp [hb]
    · by_cases h1 : (q.2 : Int) = 1
      · have : q.2 ≤ 1 := by omega
        simp [hb, h1, this]
      · have : ¬ q.2 ≤ 1 := by omega
        simp [hb, h1, this]
theorem zbare_r : ∀ (l : List (Nat × Nat)) (s : Int), r64 s → r64 (l.foldl (fun s q => w64 (s * ((q.1 : Int) + 1))) s)
  | [], _, h => h
  | q :: l, s, _ => zbare_r l _ (w64_r _)
section M29
variable {w : zWt} {d : Nat} {H : zHt} {n : Nat}
theorem c53 {law : Int} (hMR : zMR) (h1 : 1 ≤ n) (hn : n ≤ 999999999) (hl : 0 ≤ law ∧ law ≤ 3) : ∃ H', zfc H H' ∧ ∀ K : Int → zHt → Prop, zclL w (d + 3) 53 [zR 36, zI law, zI n] H K = K (zsum law n) H' := by
  by_cases hn1 : n = 1
  · refine ⟨H, zfc_rfl, fun K => zclL_eq fun K h => x53_0 ⟨fun q => by omega, fun _ => ?_⟩⟩
    simpa [zsum, hn1] using h
  · obtain ⟨H', hF, e⟩ := c45 (w := w) (H := H) (d := d) hMR h1 hn
    obtain ⟨f1, hG, hL⟩ := hF
    refine ⟨H', f1, fun K => zclL_eq fun K h => x53_0 ⟨fun _ => ?_, fun q => by omega⟩⟩
    rw [e]
    unfold zsum at h
    rw [if_neg hn1] at h
    have hq1 : ∀ q ∈ zfac n, q.1 ≤ 999999999 := fun q hq => by have := (zGood_bd hG hq).2.2.1; omega
    have hq2 : ∀ q ∈ zfac n, 1 ≤ q.2 := fun q hq => (zGood_bd hG hq).2.1
    refine ⟨fun q1 => ⟨fun q3 => ?_, fun q3 => ?_⟩, fun q1 => ?_⟩
    · rw [c58 hn hG hL]
      refine ⟨fun q2 => ?_, fun q2 => ?_⟩
      · rw [if_pos (by omega)] at h
        rw [Int.sub_zero, zw64_w]; exact h
      · rw [if_neg (by omega), if_pos q2] at h
        exact h
    · rw [if_neg (by omega), if_neg (by omega)] at h
      rw [c56 hn hG hL, c57 hn hG hL]
      unfold zsre at h
      rw [if_neg q1, zss3 q1 _ _ _ hq1] at h
      have hb := zssb (law := law) (zfac n) 1 1 hq2
      refine ⟨fun q => ?_, fun q => ?_⟩
      · rw [if_pos (hb.mpr (Or.inr (fun z => by rw [if_pos z] at q; exact absurd q (by decide))))] at h
        rw [Int.sub_zero, w64_id (zbare_r _ _ ⟨by decide, by decide⟩)]
        exact h
      · rw [if_neg (fun z => by
          rcases hb.mp z with y | y
          · exact absurd y (by decide)
          · rw [if_neg y] at q; exact q rfl)] at h
        exact h
    · rw [if_neg (by omega), if_neg (by omega)] at h
      rw [c54 hn hG hL]
      unfold zsre at h
      rw [if_pos q1] at h
      subst q1
      rw [zss1] at h
      exact h
theorem c62 {law : Int} (hMR : zMR) (h1 : 1 ≤ n) (hn : n ≤ 999999999) (hl : 0 ≤ law ∧ law ≤ 3) : ∃ H', zfc H H' ∧ ∀ K : Int → zHt → Prop, zclI w (d + 4) 62 [zR 32, zI law, zI n] H K = K (zkind2 law n) H' := by
  obtain ⟨H', hF, e⟩ := c53 (w := w) (H := H) (d := d) hMR h1 hn hl
  refine ⟨H', hF, fun K => zclI_eq fun K h => x62_0 ?_⟩
  rw [e]
  unfold zkind2 at h
  exact ⟨fun q => ⟨fun q2 => by rwa [if_neg (by omega), if_neg q] at h, fun q2 => by rwa [if_pos q2] at h⟩, fun q => by rwa [if_neg (by omega), if_pos q] at h⟩
theorem c52 (hMR : zMR) (h1 : 1 ≤ n) (hn : n ≤ 999999999) (hl : 0 ≤ H 40 4 ∧ H 40 4 ≤ 3) : ∃ H', zfc H H' ∧ ∀ K : Int → zHt → Prop, zclL w (d + 4) 52 [zR 32, zI n] H K = K (zsum (H 40 4) n) H' := by
  obtain ⟨H', hF, e⟩ := c53 (w := w) (H := H) (d := d) hMR h1 hn hl
  exact ⟨H', hF, fun K => zclL_eq fun K h => x52_0 (by rw [e]; exact h)⟩
theorem c69 (hMR : zMR) (h1 : 1 ≤ n) (hn : n ≤ 999999999) : ∃ H', zfc H H' ∧ ∀ K : Int → zHt → Prop, zclL w (d + 3) 69 [zR 36, zI n] H K = K (zall (zfac n)) H' := by
  obtain ⟨H', hF, e⟩ := c45 (w := w) (H := H) (d := d) hMR h1 hn
  refine ⟨H', hF.1, fun K => zclL_eq fun K h => x69_0 ?_⟩
  rw [e, c58 hn hF.2.1 hF.2.2]
  exact h
theorem c71 (hMR : zMR) (h1 : 1 ≤ n) (hn : n ≤ 999999999) : ∃ H', zfc H H' ∧ ∀ K : Int → zHt → Prop, zclI w (d + 3) 71 [zR 36, zI n] H K = K (zcnt (zfac n)) H' := by
  obtain ⟨H', hF, e⟩ := c45 (w := w) (H := H) (d := d) hMR h1 hn
  refine ⟨H', hF.1, fun K => zclI_eq fun K h => x71_0 ?_⟩
  rw [e]
  exact c71l hn hF.2.1 hF.2.2 (zfac n) [] 1 K rfl h
theorem c103 (hMR : zMR) (h1 : 1 ≤ n) (hn : n ≤ 999999999) : ∃ H', zfc H H' ∧ ∀ K : Int → zHt → Prop, zclI w (d + 3) 103 [zR 36, zI n] H K = K (zisp n) H' := by
  obtain ⟨H', hF, e⟩ := c45 (w := w) (H := H) (d := d) hMR h1 hn
  refine ⟨H', hF.1, fun K => zclI_eq fun K h => x103_0 ?_⟩
  rw [e]
  obtain ⟨f1, hG, hL⟩ := hF
  have hs : zisp n = zispl (zfac n) := by
    unfold zisp
    by_cases h2 : 2 ≤ n
    · rw [if_pos h2]
    · rw [if_neg h2]
      have hg1 : zGood n [] := ⟨List.Pairwise.nil, (fun q hq => nomatch hq), by show 1 = n; omega⟩
      rw [zfac_eq hg1]; rfl
  rw [hs] at h
  rcases hfa : zfac n with _ | ⟨⟨p, e⟩, _ | ⟨r, t⟩⟩
  · rw [hfa] at hL h
    have := hL.1
    simp at this
    refine ⟨fun _ => by simpa [zispl] using h, fun q => by omega⟩
  · rw [hfa] at hL h
    have a1 := hL.1
    have a2 := (hL.2 0 (p, e) rfl).2
    simp at a1 a2
    refine ⟨fun q => absurd a1 q, fun _ => ⟨fun q => ?_, fun q => ?_⟩⟩
    · have : e ≠ 1 := fun z => q (by rw [a2, z]; rfl)
      simpa [zispl, this] using h
    · have : e = 1 := by omega
      subst this
      simpa [zispl] using h
  · rw [hfa] at hL h
    have := hL.1
    simp at this
    refine ⟨fun _ => by simpa [zispl] using h, fun q => by omega⟩
end M29
