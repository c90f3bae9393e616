/-! the law's case out -/
/-- what was printed last, by both -/
def zIk (H : zHt) : Prop := H 48 1 = H 81 29 ∧ 0 ≤ H 48 1 ∧ H 48 1 ≤ 3232 ∧ ∀ k : Int, 0 ≤ k → k < H 48 1 → H 49 k = H 98 k
section Z33
variable {w : zWt} {R0 : zHt → Prop}
theorem a168 {d : Nat} {v : Int} {H : zHt} (hI : zIk H) : ∃ H', zkeep H H' ∧ H' 81 0 = H 81 0 ∧ H' 32 14 = (if v < 0 then 1 else if H 48 1 ≤ v then 5 else 0) ∧ ∀ K : Int → zHt → Prop, zclI w (d + 1) 168 [zR 32, zI v] H K = K (if v < 0 then -1 else if H 48 1 ≤ v then -1 else H 49 v) H' := by
  by_cases h1 : v < 0
  · refine ⟨zup H 32 14 1, zkeep_up rfl zkeep_rfl, by rw [zq_ne (by decide)], by rw [zq_eq, if_pos h1], fun K => zclI_eq fun K h => x168_0 ⟨fun q => by omega, fun q => ?_⟩⟩
    rw [if_pos h1] at h
    rw [c13]; exact h
  · by_cases h2 : H 48 1 ≤ v
    · refine ⟨zup H 32 14 5, zkeep_up rfl zkeep_rfl, by rw [zq_ne (by decide)], by rw [zq_eq, if_neg h1, if_pos h2], fun K => zclI_eq fun K h => x168_0 ⟨fun q => ⟨fun q2 => ?_, fun q2 => by omega⟩, fun q => by omega⟩⟩
      rw [if_neg h1, if_pos h2] at h
      rw [c13]; exact h
    · have := hI.2.2.1
      refine ⟨zup H 32 14 0, zkeep_up rfl zkeep_rfl, by rw [zq_ne (by decide)], by rw [zq_eq, if_neg h1, if_neg h2], fun K => zclI_eq fun K h => x168_0 ⟨fun q => ⟨fun q2 => by omega, fun q2 => ⟨by omega, ?_⟩⟩, fun q => by omega⟩⟩
      rw [if_neg h1, if_neg h2] at h
      rw [c39]; exact h
theorem a274 {d : Nat} {v : Int} {H : zHt} (hI : 0 ≤ H 81 29 ∧ H 81 29 ≤ 3232) : ∃ H', zkeep H H' ∧ H' 32 14 = H 32 14 ∧ H' 81 0 = (if v < 0 then 1 else if H 81 29 ≤ v then 5 else 0) ∧ ∀ K : Int → zHt → Prop, zclI w (d + 1) 274 [zR 81, zI v] H K = K (if v < 0 then -1 else if H 81 29 ≤ v then -1 else H 98 v) H' := by
  by_cases h1 : v < 0
  · refine ⟨zup (zup H 81 1 0) 81 0 1, zkeep_up rfl (zkeep_up rfl zkeep_rfl), by rw [zq_ne (by decide), zq_ne (by decide)], by rw [zq_eq, if_pos h1], fun K => zclI_eq fun K h => x274_0 ⟨fun q => by omega, fun q => ?_⟩⟩
    rw [if_pos h1] at h
    rw [c174, if_neg (by decide)]
    exact ⟨fun _ => h, fun q => absurd rfl q⟩
  · by_cases h2 : H 81 29 ≤ v
    · refine ⟨zup (zup H 81 1 0) 81 0 5, zkeep_up rfl (zkeep_up rfl zkeep_rfl), by rw [zq_ne (by decide), zq_ne (by decide)], by rw [zq_eq, if_neg h1, if_pos h2], fun K => zclI_eq fun K h => x274_0 ⟨fun q => ⟨fun q2 => by omega, fun q2 => ?_⟩, fun q => by omega⟩⟩
      rw [if_neg h1, if_pos h2] at h
      rw [c174, if_neg (by decide)]
      exact ⟨fun _ => h, fun q => absurd rfl q⟩
    · refine ⟨zup (zup H 81 1 0) 81 0 0, zkeep_up rfl (zkeep_up rfl zkeep_rfl), by rw [zq_ne (by decide), zq_ne (by decide)], by rw [zq_eq, if_neg h1, if_neg h2], fun K => zclI_eq fun K h => x274_0 ⟨fun q => ⟨fun q2 => ?_, fun q2 => by omega⟩, fun q => by omega⟩⟩
      rw [if_neg h1, if_neg h2] at h
      rw [c174, if_pos rfl]
      refine ⟨fun q => absurd q (by decide), fun _ => ⟨by omega, ?_⟩⟩
      rw [zq_ne (fun z => absurd z.1 (by decide)), zq_ne (fun z => absurd z.1 (by decide))]; exact h
theorem l2209 (hw : w.1 ≤ 3072) (hk : ∀ H H', zkeep H H' → R0 H → R0 H') (hi : ∀ H, R0 H → zIk H) : zLaw w (zKept R0) 2209 := fun H i hi6 hR K nx => x0_2209 (d := 1999) (by
  refine ⟨zidx hw hi6 (by decide) (by decide), ?_⟩
  have hI := hi H hR.2
  generalize zH0 w.2 0 (w32 ((i : Int) + 1)) = v
  obtain ⟨H1, a1, a2, a3, e1⟩ := a168 (w := w) (d := 1998) (v := v) (H := H) hI
  have e29 : H1 81 29 = H 48 1 := (a1 81 29 rfl).trans hI.1.symm
  obtain ⟨H2, b1, b2, b3, e2⟩ := a274 (w := w) (d := 1998) (v := v) (H := H1) (by rw [e29]; exact ⟨hI.2.1, hI.2.2.1⟩)
  rw [e1, e2]
  have ev : (if v < 0 then -1 else if H 48 1 ≤ v then -1 else H 49 v) = (if v < 0 then -1 else if H1 81 29 ≤ v then -1 else H1 98 v) := by
    rw [e29]
    by_cases h1 : v < 0
    · rw [if_pos h1, if_pos h1]
    · by_cases h2 : H 48 1 ≤ v
      · rw [if_neg h1, if_neg h1, if_pos h2, if_pos h2]
      · rw [if_neg h1, if_neg h1, if_neg h2, if_neg h2, a1 98 v rfl]
        exact hI.2.2.2 v (by omega) (by omega)
  rw [ev]
  refine ⟨fun _ => nx _ ⟨by rw [b2, a3, b3, e29], hk _ _ (zkeep_tr a1 b1) hR.2⟩, fun q => absurd rfl q⟩)
end Z33
