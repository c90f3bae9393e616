/-! the law's case many -/
section Z32
variable {w : zWt} {R0 : zHt → Prop}
theorem a41 {d : Nat} {v : Int} {H : zHt} : ∃ H', zkeep H H' ∧ H' 81 0 = H 81 0 ∧ H' 32 14 = (if 0 ≤ v ∧ v ≤ 4 then 0 else 1) ∧ ∀ K : Int → zHt → Prop, zclI w (d + 1) 41 [zR 32, zI v] H K = K (if v = 0 then H 40 1 else if v = 1 then H 40 2 else if v = 2 then H 40 3 else if v = 3 then H 40 4 else if v = 4 then H 32 11 else -1) H' := by
  by_cases hv : 0 ≤ v ∧ v ≤ 4
  · refine ⟨zup H 32 14 0, zkeep_up rfl zkeep_rfl, by rw [zq_ne (by decide)], by rw [zq_eq, if_pos hv], fun K => zclI_eq fun K h => x41_0 ⟨fun q => by omega, fun q => ?_, fun q => ?_, fun q => ?_, fun q => ?_, fun q => ?_⟩⟩
    · subst q; rw [c39]; simpa using h
    · subst q; rw [c39]; simpa using h
    · subst q; rw [c39]; simpa using h
    · subst q; rw [c39]; simpa using h
    · subst q; rw [c39]; simpa using h
  · refine ⟨zup H 32 14 1, zkeep_up rfl zkeep_rfl, by rw [zq_ne (by decide)], by rw [zq_eq, if_neg hv], fun K => zclI_eq fun K h => x41_0 ⟨fun q => ?_, fun q => by omega, fun q => by omega, fun q => by omega, fun q => by omega, fun q => by omega⟩⟩
    rw [if_neg (by omega), if_neg (by omega), if_neg (by omega), if_neg (by omega), if_neg (by omega)] at h
    rw [c13]; exact h
theorem a172 {d : Nat} {v : Int} {H : zHt} : ∃ H', zkeep H H' ∧ H' 32 14 = H 32 14 ∧ H' 81 0 = (if 0 ≤ v ∧ v ≤ 4 then 0 else 1) ∧ ∀ K : Int → zHt → Prop, zclI w (d + 1) 172 [zR 81, zI v] H K = K (if v = 0 then H 82 6 else if v = 1 then H 82 7 else if v = 2 then H 82 8 else if v = 3 then H 82 9 else if v = 4 then H 81 5 else -1) H' := by
  by_cases hv : 0 ≤ v ∧ v ≤ 4
  · refine ⟨zup (zup H 81 1 0) 81 0 0, zkeep_up rfl (zkeep_up rfl zkeep_rfl), by rw [zq_ne (by decide), zq_ne (by decide)], by rw [zq_eq, if_pos hv], fun K => zclI_eq fun K h => x172_0 ?_⟩
    rw [c173, if_pos hv]
    refine ⟨fun q => absurd q (by decide), fun _ => ?_⟩
    rw [c174, if_pos rfl]
    refine ⟨fun q => absurd q (by decide), fun _ => ⟨fun q => ?_, fun q => ?_⟩⟩
    · have e : w32 (6 + v) = 6 + v := w32_id (by omega)
      rw [e]
      refine ⟨by omega, ?_⟩
      rw [zq_ne (fun z => absurd z.1 (by decide)), zq_ne (fun z => absurd z.1 (by decide))]
      rcases (by omega : v = 0 ∨ v = 1 ∨ v = 2 ∨ v = 3) with rfl | rfl | rfl | rfl
      · simpa using h
      · simpa using h
      · simpa using h
      · simpa using h
    · subst q
      rw [zq_ne (by decide), zq_ne (by decide)]
      simpa using h
  · refine ⟨zup (zup H 81 1 0) 81 0 1, zkeep_up rfl (zkeep_up rfl zkeep_rfl), by rw [zq_ne (by decide), zq_ne (by decide)], by rw [zq_eq, if_neg hv], fun K => zclI_eq fun K h => x172_0 ?_⟩
    rw [if_neg (by omega), if_neg (by omega), if_neg (by omega), if_neg (by omega), if_neg (by omega)] at h
    rw [c173, if_neg hv]
    refine ⟨fun _ => ?_, fun q => absurd rfl q⟩
    rw [c174, if_neg (by decide)]
    exact ⟨fun _ => h, fun q => absurd rfl q⟩
/-- case 4: many -/
theorem l402 (hw : w.1 ≤ 3072) (hk : ∀ H H', zkeep H H' → R0 H → R0 H') (hd : ∀ H, R0 H → zDk H) (ha : ∀ H, R0 H → H 32 11 = H 81 5) : zLaw w (zKept R0) 402 := fun H i hi hR K nx => x0_402 (d := 1999) (by
  refine ⟨zidx hw hi (by decide) (by decide), ?_⟩
  have hD := hd H hR.2
  have hA := ha H hR.2
  obtain ⟨H1, a1, a2, a3, e1⟩ := a41 (w := w) (d := 1998) (v := zH0 w.2 0 (w32 ((i : Int) + 1))) (H := H)
  obtain ⟨H2, b1, b2, b3, e2⟩ := a172 (w := w) (d := 1998) (v := zH0 w.2 0 (w32 ((i : Int) + 1))) (H := H1)
  rw [e1, e2, (a1 82 6 rfl).trans hD.2.2.1, (a1 82 7 rfl).trans hD.2.2.2.1, (a1 82 8 rfl).trans hD.2.2.2.2.1, (a1 82 9 rfl).trans hD.2.1, (a1 81 5 rfl).trans hA.symm]
  refine ⟨fun _ => nx _ ⟨by rw [b2, a3, b3], hk _ _ (zkeep_tr a1 b1) hR.2⟩, fun q => absurd rfl q⟩)
end Z32
