/-! the law's case factor -/
def zfA (l : List (Nat × Nat)) (i what : Int) : Int := if i = -1 then l.length else if (l.length : Int) ≤ i then -1 else if what = 0 then (l.getD i.toNat (0, 0)).1 else (l.getD i.toNat (0, 0)).2
def zfS (l : List (Nat × Nat)) (i : Int) : Int := if i = -1 then 0 else if (l.length : Int) ≤ i then 5 else 0
theorem zLst_g {H : zHt} {c k A B i : Int} {l : List (Nat × Nat)} (h : zLst H c k A B l) (h0 : 0 ≤ i) (h1 : i < l.length) : H A i = (l.getD i.toNat (0, 0)).1 ∧ H B i = (l.getD i.toNat (0, 0)).2 := by
  have hi : i.toNat < l.length := by omega
  have := h.2 i.toNat _ (List.getElem?_eq_getElem hi)
  rw [Int.toNat_of_nonneg h0] at this
  rw [List.getD_eq_getElem?_getD, List.getElem?_eq_getElem hi]
  exact this
section Z35
variable {w : zWt} {R0 : zHt → Prop}
theorem a42 {d : Nat} {v i t : Int} {H : zHt} (hMR : zMR) : ∃ H', zkeep H H' ∧ H' 81 0 = H 81 0 ∧ H' 32 14 = (if (1 ≤ v ∧ v ≤ 999999999) ∧ -1 ≤ i ∧ 0 ≤ t ∧ t ≤ 1 then zfS (zfac v.toNat) i else 1) ∧ ∀ K : Int → zHt → Prop, zclI w (d + 3) 42 [zR 32, zI v, zI i, zI t] H K = K (if (1 ≤ v ∧ v ≤ 999999999) ∧ -1 ≤ i ∧ 0 ≤ t ∧ t ≤ 1 then zfA (zfac v.toNat) i t else -1) H' := by
  by_cases hg : (1 ≤ v ∧ v ≤ 999999999) ∧ -1 ≤ i ∧ 0 ≤ t ∧ t ≤ 1
  · obtain ⟨n, rfl⟩ : ∃ n : Nat, v = n := ⟨v.toNat, by omega⟩
    obtain ⟨H1, ⟨f1, hG, hL⟩, e⟩ := c45 (w := w) (H := H) (d := d) (n := n) hMR (by omega) (by omega)
    have h9 := zGood_nine hG (by omega)
    have hc := hL.1
    refine ⟨zup H1 32 14 (zfS (zfac n) i), zkeep_up rfl (zfc_keep f1), ?_, ?_, fun K => zclI_eq fun K h => x42_0 ?_⟩
    · rw [zq_ne (by decide)]; exact f1 81 0 (by decide) (by decide) (by decide)
    · rw [zq_eq, if_pos hg, Int.toNat_natCast]
    · rw [if_pos hg, Int.toNat_natCast] at h
      rw [c43, if_pos hg.1]
      refine ⟨fun q => absurd q (by decide), fun _ => ⟨fun q => by omega, fun _ => ?_⟩⟩
      rw [c44, if_pos hg.2.2]
      refine ⟨fun _ => ?_, fun q => absurd q (by decide)⟩
      rw [e]
      unfold zfA zfS at h
      refine ⟨fun q => ⟨fun q2 => ⟨fun q3 => ⟨by omega, ?_⟩, fun q3 => ⟨by omega, ?_⟩⟩, fun q2 => ?_⟩, fun q => ?_⟩
      · rw [if_neg q, if_neg (by omega), if_neg q3, if_neg q, if_neg (by omega)] at h
        rw [c39, (zLst_g hL (by omega) (by omega)).2]; exact h
      · rw [if_neg q, if_neg (by omega), if_pos q3, if_neg q, if_neg (by omega)] at h
        rw [c39, (zLst_g hL (by omega) (by omega)).1]; exact h
      · rw [if_neg q, if_pos (by omega), if_neg q, if_pos (by omega)] at h
        rw [c13]; exact h
      · rw [if_pos q, if_pos q] at h
        rw [c39, hc]; exact h
  · refine ⟨zup H 32 14 1, zkeep_up rfl zkeep_rfl, by rw [zq_ne (by decide)], by rw [zq_eq, if_neg hg], fun K => zclI_eq fun K h => x42_0 ?_⟩
    rw [if_neg hg] at h
    rw [c43]
    refine ⟨fun q => by rw [c13]; exact h, fun q => ⟨fun q2 => by rw [c13]; exact h, fun q2 => ?_⟩⟩
    rw [c44]
    refine ⟨fun q3 => ?_, fun q3 => by rw [c13]; exact h⟩
    exfalso
    apply hg
    refine ⟨?_, q2, ?_⟩
    · rcases Classical.em (1 ≤ v ∧ v ≤ 999999999) with z | z
      · exact z
      · rw [if_neg z] at q; exact absurd rfl q
    · rcases Classical.em (0 ≤ t ∧ t ≤ 1) with z | z
      · exact z
      · rw [if_neg z] at q3; exact absurd rfl q3
theorem a175 {d : Nat} {v i t : Int} {H : zHt} : ∃ H', zkeep H H' ∧ H' 32 14 = H 32 14 ∧ H' 81 0 = (if (1 ≤ v ∧ v ≤ 999999999) ∧ -1 ≤ i ∧ 0 ≤ t ∧ t ≤ 1 then zfS (zfac v.toNat) i else 1) ∧ ∀ K : Int → zHt → Prop, zclI w (d + 2) 175 [zR 81, zI v, zI i, zI t] H K = K (if (1 ≤ v ∧ v ≤ 999999999) ∧ -1 ≤ i ∧ 0 ≤ t ∧ t ≤ 1 then zfA (zfac v.toNat) i t else -1) H' := by
  by_cases hg : (1 ≤ v ∧ v ≤ 999999999) ∧ -1 ≤ i ∧ 0 ≤ t ∧ t ≤ 1
  · obtain ⟨n, rfl⟩ : ∃ n : Nat, v = n := ⟨v.toNat, by omega⟩
    obtain ⟨H1, ⟨f1, hG, hL⟩, e⟩ := c177 (w := w) (H := zup (zup H 81 1 0) 81 0 0) (d := d + 1) (n := n) (by omega) (by omega)
    have h9 := zGood_nine hG (by omega)
    have hc := hL.1
    have s0 : H1 81 0 = 0 := by rw [f1 81 0 (by decide) (by decide) (by decide), zq_eq]
    have k1 : zkeep H H1 := zkeep_tr (zkeep_up rfl (zkeep_up rfl zkeep_rfl)) (zfm_keep f1)
    have k2 : H1 32 14 = H 32 14 := by rw [f1 32 14 (by decide) (by decide) (by decide), zq_ne (by decide), zq_ne (by decide)]
    by_cases h5 : i ≠ -1 ∧ ((zfac n).length : Int) ≤ i
    · refine ⟨zup H1 81 0 5, zkeep_up rfl k1, by rw [zq_ne (by decide)]; exact k2, ?_, fun K => zclI_eq fun K h => x175_0 ?_⟩
      · rw [zq_eq, if_pos hg, Int.toNat_natCast]
        unfold zfS
        rw [if_neg h5.1, if_pos h5.2]
      · rw [if_pos hg, Int.toNat_natCast] at h
        unfold zfA at h
        rw [if_neg h5.1, if_pos h5.2] at h
        rw [c176, if_pos hg.1]
        refine ⟨fun q => absurd q (by decide), fun _ => ⟨fun q => by omega, fun _ => ?_⟩⟩
        rw [c173, if_pos hg.2.2]
        refine ⟨fun q => absurd q (by decide), fun _ => x175_40 ?_⟩
        rw [c174, if_pos rfl]
        refine ⟨fun _ => ?_, fun q => absurd q (by decide)⟩
        rw [e]
        refine ⟨fun q => ⟨fun q2 => by omega, fun q2 => ?_⟩, fun q => absurd q h5.1⟩
        rw [c178]; exact h
    · refine ⟨H1, k1, k2, ?_, fun K => zclI_eq fun K h => x175_0 ?_⟩
      · rw [s0, if_pos hg, Int.toNat_natCast]
        unfold zfS
        by_cases z : i = -1
        · rw [if_pos z]
        · rw [if_neg z, if_neg (fun y => h5 ⟨z, y⟩)]
      · rw [if_pos hg, Int.toNat_natCast] at h
        unfold zfA at h
        rw [c176, if_pos hg.1]
        refine ⟨fun q => absurd q (by decide), fun _ => ⟨fun q => by omega, fun _ => ?_⟩⟩
        rw [c173, if_pos hg.2.2]
        refine ⟨fun q => absurd q (by decide), fun _ => x175_40 ?_⟩
        rw [c174, if_pos rfl]
        refine ⟨fun _ => ?_, fun q => absurd q (by decide)⟩
        rw [e]
        refine ⟨fun q => ⟨fun q2 => ⟨fun q3 => ⟨by omega, ?_⟩, fun q3 => ⟨by omega, ?_⟩⟩, fun q2 => absurd ⟨q, by omega⟩ h5⟩, fun q => ?_⟩
        · rw [if_neg q, if_neg (by omega), if_neg q3] at h
          rw [(zLst_g hL (by omega) (by omega)).2]; exact h
        · rw [if_neg q, if_neg (by omega), if_pos q3] at h
          rw [(zLst_g hL (by omega) (by omega)).1]; exact h
        · rw [if_pos q] at h
          rw [hc]; exact h
  · refine ⟨zup (zup H 81 1 0) 81 0 1, zkeep_up rfl (zkeep_up rfl zkeep_rfl), by rw [zq_ne (by decide), zq_ne (by decide)], by rw [zq_eq, if_neg hg], fun K => zclI_eq fun K h => x175_0 ?_⟩
    rw [if_neg hg] at h
    have B : zgo w (d + 2) 175 40 [zR 81, zI v, zI i, zI t, zJ] [zI 1, zR 81] H (zQI K) := x175_40 (d := d + 1) (by
      rw [c174, if_neg (by decide)]
      exact ⟨fun q => absurd rfl q, fun _ => h⟩)
    rw [c176]
    refine ⟨fun _ => B, fun q => ⟨fun _ => B, fun q2 => ?_⟩⟩
    rw [c173]
    refine ⟨fun _ => B, fun q3 => ?_⟩
    exfalso
    apply hg
    refine ⟨?_, q2, ?_⟩
    · rcases Classical.em (1 ≤ v ∧ v ≤ 999999999) with z | z
      · exact z
      · rw [if_neg z] at q; exact absurd rfl q
    · rcases Classical.em (0 ≤ t ∧ t ≤ 1) with z | z
      · exact z
      · rw [if_neg z] at q3; exact absurd rfl q3
/-- case 5: factor -/
theorem l425 (hw : w.1 ≤ 3072) (hMR : zMR) (hk : ∀ H H', zkeep H H' → R0 H → R0 H') : zLaw w (zKept R0) 425 := fun H i hi6 hR K nx => x0_425 (d := 1999) (by
  refine ⟨zidx hw hi6 (by decide) (by decide), zidx hw hi6 (by decide) (by decide), zidx hw hi6 (by decide) (by decide), ?_⟩
  generalize zH0 w.2 0 (w32 ((i : Int) + 1)) = v1
  generalize zH0 w.2 0 (w32 ((i : Int) + 2)) = v2
  generalize zH0 w.2 0 (w32 ((i : Int) + 3)) = v3
  obtain ⟨H1, a1, a2, a3, e1⟩ := a42 (w := w) (d := 1996) (v := v1) (i := v2) (t := v3) (H := H) hMR
  obtain ⟨H2, b1, b2, b3, e2⟩ := a175 (w := w) (d := 1997) (v := v1) (i := v2) (t := v3) (H := H1)
  rw [e1, e2]
  refine ⟨fun _ => nx _ ⟨by rw [b2, a3, b3], hk _ _ (zkeep_tr a1 b1) hR.2⟩, fun q => absurd rfl q⟩)
end Z35
