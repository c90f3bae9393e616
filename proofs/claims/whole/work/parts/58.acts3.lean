/-! the cases put, retell, drop, follow, trade, rule, undo -/
section Z58
variable {w : zWt} {d : Nat} {H : zHt}
theorem zact_d {H1 H2 : zHt} {D D' : List Int × Int × Int × Int} {L1 : List (List Int × Int × Int × Int)} (s1 : zCS H1 D L1) (f1 : ∀ a j : Int, a ≠ 44 → ¬ (a = 32 ∧ j = 11) → ¬ (53 ≤ a ∧ a ≤ 68) → H1 a j = H a j) (f2 : ∀ a j : Int, a ≠ 40 → a ≠ 41 → H2 a j = H1 a j) (hd : zDeC H2 40 D') : ∃ H3, (∀ a j : Int, ¬ ((69 ≤ a ∧ a ≤ 79) ∧ j = 4) → H3 a j = H2 a j) ∧ (∀ K : zHt → Prop, zclV w d 38 [zR 32] H2 K = K H3) ∧ (∀ r : Nat, r ≤ 5 → H3 (69 + 2 * r) 4 = 0) ∧ ∀ x : Int, zQC H (0, x) D' L1 x (zup H3 32 14 0) := by
  obtain ⟨H3, ⟨f3, t3⟩, e⟩ := c38 (w := w) (d := d) (H := H2)
  refine ⟨H3, f3, e, t3, fun x => ⟨rfl, zq_eq, zcA_aw (fun a j h1 h2 h3 h4 h5 => ?_), zWlk_0 (fun r hr => ?_), zCS_k (H := H1) (zDeC_k (H := H2) (fun j => ?_) (fun j => ?_) hd) (fun a j h => ?_) s1⟩⟩
  · rw [zq_ne (by omega), f3 a j (by omega), f2 a j h1 h2, f1 a j h3 (by omega) (by omega)]
  · rw [zq_ne (by omega)]; exact t3 r hr
  · rw [zq_ne (by omega), f3 40 j (by omega)]
  · rw [zq_ne (by omega), f3 _ j (by omega)]
  · rw [zq_ne (by omega), f3 a j (by omega), f2 a j (by omega) (by omega)]
theorem zmA_up {H0 H1 : zHt} {o i x : Int} (hr : zrelB o i = false) (h : zmA H0 H1) : zmA H0 (zup H1 o i x) := fun a j q => by
  rw [zq_ne (fun z => by rw [z.1, z.2, hr] at q; cases q)]; exact h a j q
theorem zmA_rfl : zmA H H := fun _ _ _ => rfl
theorem zmA_82 {H0 H1 : zHt} {i x : Int} (h : zmA H0 H1) : zmA H0 (zup H1 82 i x) := fun a j q => by
  rw [zq_ne (fun z => by obtain ⟨rfl, -⟩ := z; cases q)]; exact h a j q
theorem zmA_262 {H1 : zHt} (h : ∀ a j : Int, a ≠ 84 → ¬ (a = 81 ∧ j = 5) → H1 a j = H a j) : zmA H H1 := fun a j q => h a j (fun z => by subst z; cases q) (fun z => by obtain ⟨rfl, rfl⟩ := z; cases q)
theorem zMS_82 {H1 H2 : zHt} {D D' : List Int × Int × Int × Int} {L1 : List (List Int × Int × Int × Int)} (m : zMS H1 D L1) (f : ∀ a j : Int, a ≠ 82 → H2 a j = H1 a j) (hd : zDeM H2 82 0 D') : zMS H2 D' L1 := by
  obtain ⟨m1, m2, m3⟩ := m
  refine ⟨hd, by rw [f 81 5 (by omega)]; exact m2, fun i E hE => ?_⟩
  have e4 : ∀ j, H2 84 j = H1 84 j := fun j => f 84 j (by omega)
  have := m3 i E hE
  unfold zDeM at this ⊢
  simp only [e4]
  exact this
theorem zMS_st {s : Int} {D : List Int × Int × Int × Int} {L : List (List Int × Int × Int × Int)} (m : zMS H D L) : zMS (zst H s) D L := zMS_mf (zst_f zmf_rfl) m
/-- the model keeps an act: behind its status -/
theorem c262s {D : List Int × Int × Int × Int} {L : List (List Int × Int × Int × Int)} (hv : zOkA D L) (h8 : L.length ≤ 8) (m : zMS H D L) : ∃ H', (zMS H' D (zkpt D L) ∧ zmA H H' ∧ H' 81 0 = 0) ∧ ∀ K : zHt → Prop, zclV w d 262 [zR 81] (zst H 0) K = K H' := by
  obtain ⟨H1, ⟨m1, f1⟩, e⟩ := c262 (w := w) (d := d) (H := zst H 0) hv h8 (zMS_st m)
  exact ⟨H1, ⟨m1, zmA_tr (zmA_mf (zst_f zmf_rfl)) (zmA_262 f1), by rw [f1 81 0 (by omega) (by omega)]; rfl⟩, e⟩
theorem zDeC_add {H1 : zHt} {n : Int} {D : List Int × Int × Int × Int} (hc : zDeC H1 40 D) : zDeC (zup (zup H1 41 D.1.length n) 40 1 ((D.1.length + 1 : Nat) : Int)) 40 (D.1 ++ [n], D.2) := by
  obtain ⟨c1, c2, c3, c4, c5⟩ := hc
  refine ⟨?_, ?_, ?_, ?_, ?_⟩
  · rw [zq_eq]; show _ = ((D.1 ++ [n]).length : Int); rw [List.length_append]; rfl
  · rw [zq_ne (by omega), zq_ne (by omega)]; exact c2
  · rw [zq_ne (by omega), zq_ne (by omega)]; exact c3
  · rw [zq_ne (by omega), zq_ne (by omega)]; exact c4
  · exact zArr_eq (H := zup H1 (40 + 1) D.1.length n) (fun k _ => by rw [zq_ne (by omega)]; rfl) (zArr_app c5)
theorem zOkD_add {n : Int} {D : List Int × Int × Int × Int} (h : zOkD D) (hn : 1 ≤ n ∧ n ≤ 999999999) (h6 : D.1.length < 6) : zOkD (D.1 ++ [n], D.2) := by
  obtain ⟨v1, v2, v3⟩ := h
  refine ⟨by show (D.1 ++ [n]).length ≤ 6; rw [List.length_append]; show D.1.length + 1 ≤ 6; omega, fun k hk => ?_, v3⟩
  have hk : k < (D.1 ++ [n]).length := hk
  rw [List.length_append] at hk
  have hk : k < D.1.length + 1 := hk
  show 1 ≤ (D.1 ++ [n]).getD k 0 ∧ (D.1 ++ [n]).getD k 0 ≤ 999999999
  by_cases z : k = D.1.length
  · subst z; rw [zget_app]; exact hn
  · rw [zget_app2 (by omega)]; exact v2 k (by omega)
theorem zDeM_add {H1 : zHt} {n : Int} {D : List Int × Int × Int × Int} (h6 : D.1.length < 6) (hm : zDeM H1 82 0 D) : zDeM (zup (zup H1 82 D.1.length n) 82 6 ((D.1.length + 1 : Nat) : Int)) 82 0 (D.1 ++ [n], D.2) := by
  obtain ⟨c1, c2, c3, c4, c5⟩ := hm
  simp only [Int.zero_add] at c1 c2 c3 c4 c5
  refine ⟨?_, ?_, ?_, ?_, fun k hk => ?_⟩
  · rw [Int.zero_add, zq_eq]; show _ = ((D.1 ++ [n]).length : Int); rw [List.length_append]; rfl
  · rw [Int.zero_add, zq_ne (by omega), zq_ne (by omega)]; exact c2
  · rw [Int.zero_add, zq_ne (by omega), zq_ne (by omega)]; exact c3
  · rw [Int.zero_add, zq_ne (by omega), zq_ne (by omega)]; exact c4
  · have hk : k < (D.1 ++ [n]).length := hk
    rw [List.length_append] at hk
    have hk : k < D.1.length + 1 := hk
    rw [Int.zero_add, zq_ne (by omega)]
    show _ = (D.1 ++ [n]).getD k 0
    by_cases z : k = D.1.length
    · subst z; rw [zq_eq, zget_app]
    · rw [zq_ne (by omega), zget_app2 (by omega)]; exact c5 k (by omega)
-- put
theorem p152 {n : Int} {D : List Int × Int × Int × Int} {L : List (List Int × Int × Int × Int)} (hW : zWlk H) (hv : zOkA D L) (s : zCS H D L) (hn : 1 ≤ n ∧ n ≤ 999999999) (h6 : D.1.length < 6) : zclI w (d + 2) 152 [zR 32, zI n] H (zQC H (0, (D.1.length : Int)) (D.1 ++ [n], D.2) (zkpt D L)) := by
  obtain ⟨H1, ⟨s1, f1⟩, e1⟩ := c153 (w := w) (d := d) hv s
  have c1 := s1.1.1
  obtain ⟨H3, f3, e3, -, fin⟩ := zact_d (w := w) (d := d + 1) (H2 := zup (zup H1 41 D.1.length n) 40 1 ((D.1.length + 1 : Nat) : Int)) s1 f1 (fun a j h1 h2 => by rw [zq_ne (by omega), zq_ne (by omega)]) (zDeC_add s1.1)
  refine x152_0 ?_
  simp only [c43, c44, c81, zit0, Classical.not_not]
  refine ⟨fun _ => ⟨fun _ => ?_, fun q => by rw [s.1.1] at q; omega⟩, fun q => absurd hn q⟩
  rw [e1]
  refine x34_0 (Or.inl rfl) ⟨fun q => by omega, fun _ => ⟨by omega, ?_⟩⟩
  rw [show (40 : Int) + 1 = 41 from rfl, c1, show zup H1 41 (D.1.length : Int) n 40 1 = D.1.length by rw [zq_ne (by omega)]; exact c1, zi1 (by omega), e3, c39, f3 40 1 (by omega), zq_eq, show w32 (((D.1.length + 1 : Nat) : Int) - 1) = (D.1.length : Int) by rw [w32_id (by omega)]; omega]
  exact fin _
theorem p261 {n : Int} {D : List Int × Int × Int × Int} {L : List (List Int × Int × Int × Int)} (hv : zOkA D L) (h8 : L.length ≤ 8) (m : zMS H D L) (hn : 1 ≤ n ∧ n ≤ 999999999) (h6 : D.1.length < 6) : zclI w (d + 2) 261 [zR 81, zI n] H (zQM H (0, (D.1.length : Int)) (D.1 ++ [n], D.2) (zkpt D L)) := by
  obtain ⟨H1, ⟨m1, f1, t1⟩, e1⟩ := c262s (w := w) (d := d + 1) hv h8 m
  have c6 : H1 82 6 = D.1.length := by have := m1.1.1; rw [Int.zero_add] at this; exact this
  have c60 : H 82 6 = D.1.length := by have := m.1.1; rw [Int.zero_add] at this; exact this
  refine x261_0 ?_
  rw [c176, if_pos hn]
  refine ⟨fun _ => ⟨fun _ => x261_29 ?_, fun q => by rw [c60] at q; omega⟩, fun q => absurd q (by decide)⟩
  rw [c174_0]
  refine ⟨fun _ => ?_, fun q => absurd q (by decide)⟩
  rw [e1, c6, show zup H1 82 (D.1.length : Int) n 82 6 = D.1.length by rw [zq_ne (by omega)]; exact c6, zi1 (by omega), show w32 (((D.1.length + 1 : Nat) : Int) - 1) = (D.1.length : Int) by rw [w32_id (by omega)]; omega]
  refine ⟨by omega, rfl, ?_, zmA_82 (zmA_82 f1), zMS_82 m1 (fun a j h => by rw [zq_ne (by omega), zq_ne (by omega)]) (zDeM_add h6 m1.1)⟩
  rw [zq_ne (by omega), zq_ne (by omega)]; exact t1
theorem l2018 (hw : w.1 ≤ 3072) : zLaw w (zKept zAllR) 2018 := fun H i hi hR K nx => x0_2018 (d := 1999) (by
  refine ⟨zidx hw hi (by decide) (by decide), ?_⟩
  generalize zH0 w.2 0 (w32 ((i : Int) + 1)) = v
  refine zcaseA hR (fun D L hv s m => ?_) (fun x y H' hk e => nx H' hk)
  have h8 := s.2.2.1
  by_cases hn : 1 ≤ v ∧ v ≤ 999999999
  · by_cases h6 : D.1.length < 6
    · exact ⟨(0, (D.1.length : Int)), (D.1 ++ [v], D.2), zkpt D L, zkpt_ok hv (zOkD_add hv.1 hn h6), p152 (d := 1997) hR.2.2.2.2.2.2 hv s hn h6, fun H1 c1 m1 => p261 (d := 1997) hv h8 m1 hn h6⟩
    · have hl := hv.1.1
      refine ⟨(3, -1), D, L, hv, ?_, fun H1 c1 m1 => ?_⟩
      · refine zclI_mono (K := zPC H (3, -1)) (x152_0 (d := 1998) ?_) (fun x H1 p => zQC_of hR.2.2.2.2.2.2 s p)
        simp only [c43, c44, c81, zit0, Classical.not_not]
        exact ⟨fun _ => ⟨fun q => by rw [s.1.1] at q; omega, fun _ => zPC_r zcf_rfl rfl⟩, fun q => absurd hn q⟩
      · have c60 : H1 82 6 = D.1.length := by have := m1.1.1; rw [Int.zero_add] at this; exact this
        refine zclI_mono (K := zPM H1 (3, -1)) (x261_0 (d := 1998) ?_) (fun x H2 p => zQM_of m1 p)
        rw [c176, if_pos hn]
        refine ⟨fun _ => ⟨fun q => by rw [c60] at q; omega, fun _ => x261_29 ?_⟩, fun q => absurd q (by decide)⟩
        rw [c174_3]
        exact ⟨fun q => absurd rfl q, fun _ => zPM_n zmf_rfl rfl⟩
  · refine ⟨(1, -1), D, L, hv, ?_, fun H1 c1 m1 => ?_⟩
    · refine zclI_mono (K := zPC H (1, -1)) (x152_0 (d := 1998) ?_) (fun x H1 p => zQC_of hR.2.2.2.2.2.2 s p)
      simp only [c43, c44, c81, zit0, Classical.not_not]
      exact ⟨fun q => absurd q hn, fun _ => zPC_r zcf_rfl rfl⟩
    · refine zclI_mono (K := zPM H1 (1, -1)) (x261_0 (d := 1998) ?_) (fun x H2 p => zQM_of m1 p)
      rw [c176, if_neg hn]
      refine ⟨fun q => absurd rfl q, fun _ => x261_29 ?_⟩
      rw [c174_1]
      exact ⟨fun q => absurd rfl q, fun _ => zPM_n zmf_rfl rfl⟩)
end Z58
