/-! the law's case row -/
section Z34
variable {w : zWt} {R0 : zHt → Prop}
theorem c106 {d : Nat} {v : Int} {H : zHt} {K : Int → zHt → Prop} (h6 : H 40 1 ≤ 6) : zclI w d 106 [zR 32, zI v] H K = K (if 0 ≤ v ∧ v < H 40 1 then 1 else 0) H :=
  zclI_eq fun K h => x106_0 ⟨fun q => by rwa [if_neg (by omega)] at h, fun q => ⟨fun q2 => by rwa [if_neg (by omega)] at h, fun q2 => ⟨fun q3 => by omega, fun q3 => by rwa [if_pos ⟨q, q2⟩] at h⟩⟩⟩
theorem c223 {d : Nat} {v : Int} {H : zHt} {K : Int → zHt → Prop} (h6 : 0 ≤ H 82 6 ∧ H 82 6 ≤ 6) : zclI w (d + 1) 223 [zR 81, zI v] H K = K (if 0 ≤ v ∧ v < H 82 6 then 1 else 0) H :=
  zclI_eq fun K h => x223_0 (by
    rw [w32_id (by omega), c173]
    by_cases hv : 0 ≤ v ∧ v < H 82 6
    · rw [if_pos hv] at h
      rw [if_pos (by omega)]
      exact ⟨Or.inr rfl, h⟩
    · rw [if_neg hv] at h
      rw [if_neg (by omega)]
      exact ⟨Or.inl rfl, h⟩)
theorem c222 {d : Nat} {g v : Int} {H : zHt} {K : Int → zHt → Prop} (h6 : 0 ≤ H 82 6 ∧ H 82 6 ≤ 6) : zclI w (d + 2) 222 [zR 81, zI g, zI v] H K = K (if g = 0 then 1 else if 0 ≤ v ∧ v < H 82 6 then 0 else 2) H :=
  zclI_eq fun K h => x222_0 ⟨fun q => by
    rw [if_neg q] at h
    rw [c223 h6]
    by_cases hv : 0 ≤ v ∧ v < H 82 6
    · rw [if_pos hv] at h
      rw [if_pos hv]
      exact ⟨fun z => absurd z (by decide), fun _ => h⟩
    · rw [if_neg hv] at h
      rw [if_neg hv]
      exact ⟨fun _ => h, fun z => absurd rfl z⟩, fun q => by rwa [if_pos q] at h⟩
theorem a105 {d : Nat} {v : Int} {H : zHt} (hd : zDk H) : ∃ H', zkeep H H' ∧ H' 81 0 = H 81 0 ∧ H' 32 14 = (if 0 ≤ v ∧ v < H 40 1 then 0 else 2) ∧ ∀ K : Int → zHt → Prop, zclI w (d + 1) 105 [zR 32, zI v] H K = K (if 0 ≤ v ∧ v < H 40 1 then H 41 v else -1) H' := by
  have h6 := hd.2.2.2.2.2.1
  by_cases hv : 0 ≤ v ∧ v < H 40 1
  · refine ⟨zup H 32 14 0, zkeep_up rfl zkeep_rfl, by rw [zq_ne (by decide)], by rw [zq_eq, if_pos hv], fun K => zclI_eq fun K h => x105_0 ?_⟩
    rw [if_pos hv] at h
    rw [c106 h6.2, if_pos hv]
    refine ⟨fun _ => ⟨by omega, ?_⟩, fun q => absurd q (by decide)⟩
    rw [c39]; exact h
  · refine ⟨zup H 32 14 2, zkeep_up rfl zkeep_rfl, by rw [zq_ne (by decide)], by rw [zq_eq, if_neg hv], fun K => zclI_eq fun K h => x105_0 ?_⟩
    rw [if_neg hv] at h
    rw [c106 h6.2, if_neg hv]
    refine ⟨fun q => absurd rfl q, fun _ => ?_⟩
    rw [c13]; exact h
theorem a221 {d : Nat} {v : Int} {H : zHt} (h6 : 0 ≤ H 82 6 ∧ H 82 6 ≤ 6) : ∃ H', zkeep H H' ∧ H' 32 14 = H 32 14 ∧ H' 81 0 = (if 0 ≤ v ∧ v < H 82 6 then 0 else 2) ∧ ∀ K : Int → zHt → Prop, zclI w (d + 3) 221 [zR 81, zI v] H K = K (if 0 ≤ v ∧ v < H 82 6 then H 82 v else -1) H' := by
  by_cases hv : 0 ≤ v ∧ v < H 82 6
  · refine ⟨zup (zup H 81 1 0) 81 0 0, zkeep_up rfl (zkeep_up rfl zkeep_rfl), by rw [zq_ne (by decide), zq_ne (by decide)], by rw [zq_eq, if_pos hv], fun K => zclI_eq fun K h => x221_0 ?_⟩
    rw [if_pos hv] at h
    rw [c222 h6, if_neg (by decide), if_pos hv, c174, if_pos rfl]
    refine ⟨fun q => absurd q (by decide), fun _ => ⟨by omega, ?_⟩⟩
    rw [zq_ne (fun z => absurd z.1 (by decide)), zq_ne (fun z => absurd z.1 (by decide))]; exact h
  · refine ⟨zup (zup H 81 1 0) 81 0 2, zkeep_up rfl (zkeep_up rfl zkeep_rfl), by rw [zq_ne (by decide), zq_ne (by decide)], by rw [zq_eq, if_neg hv], fun K => zclI_eq fun K h => x221_0 ?_⟩
    rw [if_neg hv] at h
    rw [c222 h6, if_neg (by decide), if_neg hv, c174, if_neg (by decide)]
    exact ⟨fun _ => h, fun q => absurd rfl q⟩
/-- case row -/
theorem l1167 (hw : w.1 ≤ 3072) (hk : ∀ H H', zkeep H H' → R0 H → R0 H') (hd : ∀ H, R0 H → zDk H) : zLaw w (zKept R0) 1167 := fun H i hi hR K nx => x0_1167 (d := 1999) (by
  refine ⟨zidx hw hi (by decide) (by decide), ?_⟩
  have hD := hd H hR.2
  generalize zH0 w.2 0 (w32 ((i : Int) + 1)) = v
  obtain ⟨H1, a1, a2, a3, e1⟩ := a105 (w := w) (d := 1998) (v := v) (H := H) hD
  have e6 : H1 82 6 = H 40 1 := (a1 82 6 rfl).trans hD.2.2.1
  obtain ⟨H2, b1, b2, b3, e2⟩ := a221 (w := w) (d := 1996) (v := v) (H := H1) (by rw [e6]; exact hD.2.2.2.2.2.1)
  rw [e1, e2]
  have ev : (if 0 ≤ v ∧ v < H 40 1 then H 41 v else -1) = (if 0 ≤ v ∧ v < H1 82 6 then H1 82 v else -1) := by
    rw [e6]
    by_cases hv : 0 ≤ v ∧ v < H 40 1
    · rw [if_pos hv, if_pos hv, a1 82 v rfl]
      have := (hD.2.2.2.2.2.2.2.2 v.toNat (by omega)).1
      rwa [Int.toNat_of_nonneg hv.1] at this
    · rw [if_neg hv, if_neg hv]
  rw [ev]
  refine ⟨fun _ => nx _ ⟨by rw [b2, a3, b3, e6], hk _ _ (zkeep_tr a1 b1) hR.2⟩, fun q => absurd rfl q⟩)
end Z34
