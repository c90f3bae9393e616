/-! what is kept between the calls; first cases of the law -/
/-- the places that later calls show -/
def zrel (a j : Int) : Bool := a == 34 || (decide (40 ≤ a) && decide (a ≤ 41)) || a == 44 || a == 49 || (decide (53 ≤ a) && decide (a ≤ 80)) || a == 82 || a == 84 || a == 93 || a == 101 || a == 98 || a == 99 || (a == 32 && decide (11 ≤ j) && decide (j ≤ 13)) || (a == 33 && j == 8) || (a == 48 && j == 1) || (a == 81 && (j == 5 || j == 29 || j == 31 || j == 32 || j == 33))
def zkeep (H H' : zHt) : Prop := ∀ a j : Int, zrel a j = true → H' a j = H a j
theorem zkeep_rfl {H : zHt} : zkeep H H := fun _ _ _ => rfl
theorem zkeep_tr {H H1 H2 : zHt} (h1 : zkeep H H1) (h2 : zkeep H1 H2) : zkeep H H2 := fun a j h => (h2 a j h).trans (h1 a j h)
theorem zkeep_up {H0 H : zHt} {o i x : Int} (hr : zrel o i = false) (h : zkeep H0 H) : zkeep H0 (zup H o i x) := fun a j q => by
  rw [zq_ne (fun z => by rw [z.1, z.2, hr] at q; cases q)]; exact h a j q
theorem zfm_keep {H H' : zHt} (h : zfm H H') : zkeep H H' := fun a j q => h a j (fun z => by subst z; cases q) (fun z => by subst z; cases q) (fun z => by obtain ⟨rfl, rfl⟩ := z; cases q)
theorem zfc_keep {H H' : zHt} (h : zfc H H') : zkeep H H' := fun a j q => h a j (fun z => by subst z; cases q) (fun z => by subst z; cases q) (fun z => by obtain ⟨rfl, rfl⟩ := z; cases q)
/-- the desk, by both -/
def zDk (H : zHt) : Prop := (0 ≤ H 40 4 ∧ H 40 4 ≤ 3) ∧ H 82 9 = H 40 4 ∧ H 82 6 = H 40 1 ∧ H 82 7 = H 40 2 ∧ H 82 8 = H 40 3 ∧ (0 ≤ H 40 1 ∧ H 40 1 ≤ 6) ∧ (1 ≤ H 40 2 ∧ H 40 2 ≤ 999999999) ∧ (1 ≤ H 40 3 ∧ H 40 3 ≤ 100) ∧ ∀ k : Nat, (k : Int) < H 40 1 → H 41 k = H 82 k ∧ 1 ≤ H 41 k ∧ H 41 k ≤ 999999999
/-- the invariant: the status, and what R0 says of the places that are shown -/
def zKept (R0 : zHt → Prop) (H : zHt) : Prop := H 32 14 = H 81 0 ∧ R0 H
theorem zv_r {xs : Nat → Int32} {j : Int} : r32 (zH0 xs 0 j) := by
  unfold zH0
  rw [if_pos rfl]; exact r32_i _
section Z31
variable {w : zWt} {R0 : zHt → Prop}
theorem l280 (hk : ∀ H H', zkeep H H' → R0 H → R0 H') : zLaw w (zKept R0) 280 := fun H i hi hR K nx => x0_280 (d := 1999) (by
  rw [c9, c171]
  refine ⟨fun _ => nx _ ⟨?_, hk _ _ (zkeep_up rfl zkeep_rfl) hR.2⟩, fun q => absurd hR.1 q⟩
  rw [zq_ne (by decide), zq_ne (by decide)]; exact hR.1)
theorem zidx {i L : Nat} {k : Int} (hL : L ≤ 3072) (hi : i + 6 ≤ L) (h0 : 0 ≤ k) (h5 : k ≤ 5) : 0 ≤ w32 ((i : Int) + k) ∧ w32 ((i : Int) + k) < (L : Int) := by
  rw [w32_id (by omega)]; omega
/-- sum, by the class and by the model -/
theorem a51 {d : Nat} {v : Int} {H : zHt} (hMR : zMR) (hd : zDk H) : ∃ H', zkeep H H' ∧ H' 81 0 = H 81 0 ∧ H' 32 14 = (if 1 ≤ v ∧ v ≤ 999999999 then 0 else 1) ∧ ∀ K : Int → zHt → Prop, zclL w (d + 5) 51 [zR 32, zI v] H K = K (if 1 ≤ v ∧ v ≤ 999999999 then zsum (H 40 4) v.toNat else -1) H' := by
  by_cases hv : 1 ≤ v ∧ v ≤ 999999999
  · obtain ⟨n, rfl⟩ : ∃ n : Nat, v = n := ⟨v.toNat, by omega⟩
    obtain ⟨H', hf, e⟩ := c52 (w := w) (H := H) (d := d) (n := n) hMR (by omega) (by omega) hd.1
    refine ⟨zup H' 32 14 0, zkeep_up rfl (zfc_keep hf), ?_, ?_, fun K => zclL_eq fun K h => x51_0 ?_⟩
    · rw [zq_ne (by decide)]; exact hf 81 0 (by decide) (by decide) (by decide)
    · rw [zq_eq, if_pos hv]
    · rw [if_pos hv, Int.toNat_natCast] at h
      rw [c43, if_pos hv]
      refine ⟨fun _ => ?_, fun q => absurd q (by decide)⟩
      rw [e, c60]; exact h
  · refine ⟨zup H 32 14 1, zkeep_up rfl zkeep_rfl, ?_, ?_, fun K => zclL_eq fun K h => x51_0 ?_⟩
    · rw [zq_ne (by decide)]
    · rw [zq_eq, if_neg hv]
    · rw [if_neg hv] at h
      rw [c43, if_neg hv]
      refine ⟨fun q => absurd rfl q, fun _ => ?_⟩
      rw [c13]; exact h
theorem a179 {d : Nat} {v : Int} {H : zHt} : ∃ H', zkeep H H' ∧ H' 32 14 = H 32 14 ∧ H' 81 0 = (if 1 ≤ v ∧ v ≤ 999999999 then 0 else 1) ∧ ∀ K : Int → zHt → Prop, zclL w (d + 4) 179 [zR 81, zI v] H K = K (if 1 ≤ v ∧ v ≤ 999999999 then zsum (H 82 9) v.toNat else -1) H' := by
  by_cases hv : 1 ≤ v ∧ v ≤ 999999999
  · obtain ⟨n, rfl⟩ : ∃ n : Nat, v = n := ⟨v.toNat, by omega⟩
    obtain ⟨H', hf, e⟩ := c180 (w := w) (H := zup (zup H 81 1 0) 81 0 0) (d := d) (n := n) (by omega) (by omega)
    refine ⟨H', zkeep_tr (zkeep_up rfl (zkeep_up rfl zkeep_rfl)) (zfm_keep hf), ?_, ?_, fun K => zclL_eq fun K h => x179_0 ?_⟩
    · rw [hf 32 14 (by decide) (by decide) (by decide), zq_ne (by decide), zq_ne (by decide)]
    · rw [hf 81 0 (by decide) (by decide) (by decide), zq_eq, if_pos hv]
    · rw [if_pos hv, Int.toNat_natCast] at h
      rw [c176, if_pos hv]
      refine ⟨fun q => absurd q (by decide), fun _ => ?_⟩
      rw [c174, if_pos rfl]
      refine ⟨fun q => absurd q (by decide), fun _ => ?_⟩
      rw [e, zq_ne (by decide), zq_ne (by decide)]; exact h
  · refine ⟨zup (zup H 81 1 0) 81 0 1, zkeep_up rfl (zkeep_up rfl zkeep_rfl), ?_, ?_, fun K => zclL_eq fun K h => x179_0 ?_⟩
    · rw [zq_ne (by decide), zq_ne (by decide)]
    · rw [zq_eq, if_neg hv]
    · rw [if_neg hv] at h
      rw [c176, if_neg hv]
      refine ⟨fun _ => ?_, fun q => absurd rfl q⟩
      rw [c174, if_neg (by decide)]
      exact ⟨fun _ => h, fun q => absurd rfl q⟩
/-- case 6: sum -/
theorem l468 (hw : w.1 ≤ 3072) (hMR : zMR) (hk : ∀ H H', zkeep H H' → R0 H → R0 H') (hd : ∀ H, R0 H → zDk H) : zLaw w (zKept R0) 468 := fun H i hi hR K nx => x0_468 (d := 1999) (by
  refine ⟨zidx hw hi (by decide) (by decide), ?_⟩
  have hD := hd H hR.2
  obtain ⟨H1, a1, a2, a3, e1⟩ := a51 (w := w) (d := 1994) (v := zH0 w.2 0 (w32 ((i : Int) + 1))) (H := H) hMR hD
  obtain ⟨H2, b1, b2, b3, e2⟩ := a179 (w := w) (d := 1995) (v := zH0 w.2 0 (w32 ((i : Int) + 1))) (H := H1)
  rw [e1, e2]
  have hl : H1 82 9 = H 40 4 := (a1 82 9 rfl).trans hD.2.1
  rw [hl]
  refine ⟨fun _ => nx _ ⟨by rw [b2, a3, b3], hk _ _ (zkeep_tr a1 b1) hR.2⟩, fun q => absurd rfl q⟩)
/-- case 3: fault -/
theorem l379 (hw : w.1 ≤ 3072) (hk : ∀ H H', zkeep H H' → R0 H → R0 H') (hf : ∀ H, R0 H → H 32 12 = H 81 32 ∧ H 32 13 = H 81 33) : zLaw w (zKept R0) 379 := fun H i hi hR K nx => x0_379 (d := 1999) (by
  refine ⟨zidx hw hi (by decide) (by decide), ?_⟩
  obtain ⟨f1, f2⟩ := hf H hR.2
  rw [c40, c289, f1, f2]
  refine ⟨fun _ => nx _ ⟨?_, hk _ _ (zkeep_up rfl zkeep_rfl) hR.2⟩, fun q => absurd rfl q⟩
  rw [zq_ne (by decide), zq_ne (by decide)]; exact hR.1)
/-- kind -/
theorem a61 {d : Nat} {v : Int} {H : zHt} (hMR : zMR) (hd : zDk H) : ∃ H', zkeep H H' ∧ H' 81 0 = H 81 0 ∧ H' 32 14 = (if 1 ≤ v ∧ v ≤ 999999999 then 0 else 1) ∧ ∀ K : Int → zHt → Prop, zclI w (d + 5) 61 [zR 32, zI v] H K = K (if 1 ≤ v ∧ v ≤ 999999999 then zkind2 (H 40 4) v.toNat else -1) H' := by
  by_cases hv : 1 ≤ v ∧ v ≤ 999999999
  · obtain ⟨n, rfl⟩ : ∃ n : Nat, v = n := ⟨v.toNat, by omega⟩
    obtain ⟨H', hf, e⟩ := c62 (w := w) (H := H) (d := d) (n := n) hMR (by omega) (by omega) hd.1
    refine ⟨zup H' 32 14 0, zkeep_up rfl (zfc_keep hf), ?_, ?_, fun K => zclI_eq fun K h => x61_0 ?_⟩
    · rw [zq_ne (by decide)]; exact hf 81 0 (by decide) (by decide) (by decide)
    · rw [zq_eq, if_pos hv]
    · rw [if_pos hv, Int.toNat_natCast] at h
      rw [c43, if_pos hv]
      refine ⟨fun _ => ?_, fun q => absurd q (by decide)⟩
      rw [e, c39]; exact h
  · refine ⟨zup H 32 14 1, zkeep_up rfl zkeep_rfl, ?_, ?_, fun K => zclI_eq fun K h => x61_0 ?_⟩
    · rw [zq_ne (by decide)]
    · rw [zq_eq, if_neg hv]
    · rw [if_neg hv] at h
      rw [c43, if_neg hv]
      refine ⟨fun q => absurd rfl q, fun _ => ?_⟩
      rw [c13]; exact h
theorem a185 {d : Nat} {v : Int} {H : zHt} : ∃ H', zkeep H H' ∧ H' 32 14 = H 32 14 ∧ H' 81 0 = (if 1 ≤ v ∧ v ≤ 999999999 then 0 else 1) ∧ ∀ K : Int → zHt → Prop, zclI w (d + 4) 185 [zR 81, zI v] H K = K (if 1 ≤ v ∧ v ≤ 999999999 then zkind2 (H 82 9) v.toNat else -1) H' := by
  by_cases hv : 1 ≤ v ∧ v ≤ 999999999
  · obtain ⟨n, rfl⟩ : ∃ n : Nat, v = n := ⟨v.toNat, by omega⟩
    obtain ⟨H', hf, e⟩ := c186 (w := w) (H := zup (zup H 81 1 0) 81 0 0) (d := d) (n := n) (law := H 82 9) (by omega) (by omega)
    refine ⟨H', zkeep_tr (zkeep_up rfl (zkeep_up rfl zkeep_rfl)) (zfm_keep hf), ?_, ?_, fun K => zclI_eq fun K h => x185_0 ?_⟩
    · rw [hf 32 14 (by decide) (by decide) (by decide), zq_ne (by decide), zq_ne (by decide)]
    · rw [hf 81 0 (by decide) (by decide) (by decide), zq_eq, if_pos hv]
    · rw [if_pos hv, Int.toNat_natCast] at h
      rw [c176, if_pos hv]
      refine ⟨fun q => absurd q (by decide), fun _ => ?_⟩
      rw [c174, if_pos rfl]
      refine ⟨fun q => absurd q (by decide), fun _ => ?_⟩
      rw [zq_ne (by decide), zq_ne (by decide), e]; exact h
  · refine ⟨zup (zup H 81 1 0) 81 0 1, zkeep_up rfl (zkeep_up rfl zkeep_rfl), ?_, ?_, fun K => zclI_eq fun K h => x185_0 ?_⟩
    · rw [zq_ne (by decide), zq_ne (by decide)]
    · rw [zq_eq, if_neg hv]
    · rw [if_neg hv] at h
      rw [c176, if_neg hv]
      refine ⟨fun _ => ?_, fun q => absurd rfl q⟩
      rw [c174, if_neg (by decide)]
      exact ⟨fun _ => h, fun q => absurd rfl q⟩
/-- case 7: kind -/
theorem l492 (hw : w.1 ≤ 3072) (hMR : zMR) (hk : ∀ H H', zkeep H H' → R0 H → R0 H') (hd : ∀ H, R0 H → zDk H) : zLaw w (zKept R0) 492 := fun H i hi hR K nx => x0_492 (d := 1999) (by
  refine ⟨zidx hw hi (by decide) (by decide), ?_⟩
  have hD := hd H hR.2
  obtain ⟨H1, a1, a2, a3, e1⟩ := a61 (w := w) (d := 1994) (v := zH0 w.2 0 (w32 ((i : Int) + 1))) (H := H) hMR hD
  obtain ⟨H2, b1, b2, b3, e2⟩ := a185 (w := w) (d := 1995) (v := zH0 w.2 0 (w32 ((i : Int) + 1))) (H := H1)
  rw [e1, e2]
  have hl : H1 82 9 = H 40 4 := (a1 82 9 rfl).trans hD.2.1
  rw [hl]
  refine ⟨fun _ => nx _ ⟨by rw [b2, a3, b3], hk _ _ (zkeep_tr a1 b1) hR.2⟩, fun q => absurd rfl q⟩)
end Z31
