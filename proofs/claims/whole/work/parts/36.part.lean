/-! the law's case part -/
theorem zpw_eq {p : Nat} (hp : 1 ≤ p) : ∀ e : Nat, p ^ e ≤ 999999999 → zpw p e = ((p ^ e : Nat) : Int)
  | 0, _ => rfl
  | e + 1, h => by
    have h1 : p ^ e ≤ p ^ (e + 1) := Nat.pow_le_pow_right hp (by omega)
    show w64 (zpw p e * p) = _
    rw [zpw_eq hp e (by omega), ← Int.natCast_mul, show p ^ e * p = p ^ (e + 1) from rfl]
    exact w64_id (by omega)
theorem zpw_pos {n : Nat} {l : List (Nat × Nat)} {q : Nat × Nat} (hn : n ≤ 999999999) (hG : zGood n l) (hq : q ∈ l) : 1 ≤ zpw q.1 q.2 := by
  have hb := zGood_bd hG hq
  have h1 := zprod_mem hG.2.1 hq
  rw [hG.2.2] at h1
  rw [zpw_eq (by omega) q.2 (by omega)]
  have : 0 < q.1 ^ q.2 := Nat.pow_pos (by omega)
  omega
def zth (q : Nat × Nat) : Int := w32 (w64 (Int.tdiv (w64 (1000 * zofp q.1 q.2)) (zpw q.1 q.2)))
section Z36
variable {w : zWt} {R0 : zHt → Prop}
theorem c79 {d n : Nat} {l : List (Nat × Nat)} {i : Nat} {q : Nat × Nat} {H : zHt} {K : Int → zHt → Prop} (hn : n ≤ 999999999) (hG : zGood n l) (hL : zLst H 36 3 37 38 l) (hq : l[i]? = some q) : zclI w (d + 1) 79 [zR 36, zI i] H K = K (zth q) H := by
  have h9 := zGood_nine hG (by omega)
  have hm : q ∈ l := List.mem_of_getElem? hq
  have hb := zGood_bd hG hm
  have hp := zpw_pos hn hG hm
  have hi := zget_lt hq
  obtain ⟨hA, hB⟩ := hL.2 i q hq
  refine zclI_eq fun K h => x79_0 ?_
  rw [c59 hL hq h9 (by omega), hA, hB]
  refine ⟨by omega, ?_⟩
  rw [c55w (by omega), if_neg (by omega)]
  exact ⟨by omega, h⟩
def zpA (l : List (Nat × Nat)) (i : Int) : Int := if (l.length : Int) ≤ i then -1 else zth (l.getD i.toNat (0, 0))
def zpS (l : List (Nat × Nat)) (i : Int) : Int := if (l.length : Int) ≤ i then 5 else 0
theorem a78 {d : Nat} {v i : Int} {H : zHt} (hMR : zMR) : ∃ H', zkeep H H' ∧ H' 81 0 = H 81 0 ∧ H' 32 14 = (if (1 ≤ v ∧ v ≤ 999999999) ∧ 0 ≤ i then zpS (zfac v.toNat) i else 1) ∧ ∀ K : Int → zHt → Prop, zclI w (d + 3) 78 [zR 32, zI v, zI i] H K = K (if (1 ≤ v ∧ v ≤ 999999999) ∧ 0 ≤ i then zpA (zfac v.toNat) i else -1) H' := by
  by_cases hg : (1 ≤ v ∧ v ≤ 999999999) ∧ 0 ≤ i
  · obtain ⟨n, rfl⟩ : ∃ n : Nat, v = n := ⟨v.toNat, by omega⟩
    obtain ⟨k, rfl⟩ : ∃ k : Nat, i = k := ⟨i.toNat, by omega⟩
    obtain ⟨H1, ⟨f1, hG, hL⟩, e⟩ := c45 (w := w) (H := H) (d := d) (n := n) hMR (by omega) (by omega)
    have hc := hL.1
    refine ⟨zup H1 32 14 (zpS (zfac n) k), zkeep_up rfl (zfc_keep f1), ?_, ?_, fun K => zclI_eq fun K h => x78_0 ?_⟩
    · rw [zq_ne (by decide)]; exact f1 81 0 (by decide) (by decide) (by decide)
    · rw [zq_eq, if_pos hg, Int.toNat_natCast]
    · rw [if_pos hg, Int.toNat_natCast] at h
      rw [c43, if_pos hg.1]
      refine ⟨fun q => absurd q (by decide), fun _ => ⟨fun _ => ?_, fun q => by omega⟩⟩
      rw [e]
      unfold zpA zpS at h
      refine ⟨fun q => ?_, fun q => ?_⟩
      · have hk : k < (zfac n).length := by omega
        rw [if_neg (by omega), if_neg (by omega), Int.toNat_natCast] at h
        rw [c79 (q := (zfac n).getD k (0, 0)) (by omega) hG hL (by rw [List.getD_eq_getElem?_getD, List.getElem?_eq_getElem hk]; rfl), c39]
        exact h
      · rw [if_pos (by omega), if_pos (by omega)] at h
        rw [c13]; exact h
  · refine ⟨zup H 32 14 1, zkeep_up rfl zkeep_rfl, by rw [zq_ne (by decide)], by rw [zq_eq, if_neg hg], fun K => zclI_eq fun K h => x78_0 ?_⟩
    rw [if_neg hg] at h
    rw [c43]
    refine ⟨fun q => by rw [c13]; exact h, fun q => ⟨fun q2 => ?_, fun q2 => by rw [c13]; exact h⟩⟩
    exfalso
    apply hg
    refine ⟨?_, q2⟩
    rcases Classical.em (1 ≤ v ∧ v ≤ 999999999) with z | z
    · exact z
    · rw [if_neg z] at q; exact absurd rfl q
theorem a199 {d : Nat} {v i : Int} {H : zHt} : ∃ H', zkeep H H' ∧ H' 32 14 = H 32 14 ∧ H' 81 0 = (if (1 ≤ v ∧ v ≤ 999999999) ∧ 0 ≤ i then zpS (zfac v.toNat) i else 1) ∧ ∀ K : Int → zHt → Prop, zclI w (d + 2) 199 [zR 81, zI v, zI i] H K = K (if (1 ≤ v ∧ v ≤ 999999999) ∧ 0 ≤ i then zpA (zfac v.toNat) i else -1) H' := by
  by_cases hg : (1 ≤ v ∧ v ≤ 999999999) ∧ 0 ≤ i
  · obtain ⟨n, rfl⟩ : ∃ n : Nat, v = n := ⟨v.toNat, by omega⟩
    obtain ⟨k, rfl⟩ : ∃ k : Nat, i = k := ⟨i.toNat, by omega⟩
    obtain ⟨H1, ⟨f1, hG, hL⟩, e⟩ := c177 (w := w) (H := zup (zup H 81 1 0) 81 0 0) (d := d + 1) (n := n) (by omega) (by omega)
    have h9 := zGood_nine hG (by omega)
    have hc := hL.1
    have s0 : H1 81 0 = 0 := by rw [f1 81 0 (by decide) (by decide) (by decide), zq_eq]
    have k1 : zkeep H H1 := zkeep_tr (zkeep_up rfl (zkeep_up rfl zkeep_rfl)) (zfm_keep f1)
    have k2 : H1 32 14 = H 32 14 := by rw [f1 32 14 (by decide) (by decide) (by decide), zq_ne (by decide), zq_ne (by decide)]
    by_cases h5 : ((zfac n).length : Int) ≤ k
    · refine ⟨zup H1 81 0 5, zkeep_up rfl k1, by rw [zq_ne (by decide)]; exact k2, ?_, fun K => zclI_eq fun K h => x199_0 ?_⟩
      · rw [zq_eq, if_pos hg, Int.toNat_natCast]
        unfold zpS
        rw [if_pos h5]
      · rw [if_pos hg, Int.toNat_natCast] at h
        unfold zpA at h
        rw [if_pos h5] at h
        rw [c176, if_pos hg.1]
        refine ⟨fun q => absurd q (by decide), fun _ => ⟨fun q => by omega, fun _ => x199_17 ?_⟩⟩
        rw [c174, if_pos rfl]
        refine ⟨fun _ => ?_, fun q => absurd q (by decide)⟩
        rw [e]
        refine ⟨fun q => ?_, fun q => by omega⟩
        rw [c178]; exact h
    · refine ⟨H1, k1, k2, ?_, fun K => zclI_eq fun K h => x199_0 ?_⟩
      · rw [s0, if_pos hg, Int.toNat_natCast]
        unfold zpS
        rw [if_neg h5]
      · rw [if_pos hg, Int.toNat_natCast] at h
        unfold zpA at h
        rw [if_neg h5, Int.toNat_natCast] at h
        have hk : k < (zfac n).length := by omega
        have hq : (zfac n)[k]? = some ((zfac n).getD k (0, 0)) := by rw [List.getD_eq_getElem?_getD, List.getElem?_eq_getElem hk]; rfl
        have hm := List.mem_of_getElem? hq
        have hb := zGood_bd hG hm
        have hp := zpw_pos (by omega) hG hm
        obtain ⟨hA, hB⟩ := hL.2 k _ hq
        rw [c176, if_pos hg.1]
        refine ⟨fun q => absurd q (by decide), fun _ => ⟨fun q => by omega, fun _ => x199_17 ?_⟩⟩
        rw [c174, if_pos rfl]
        refine ⟨fun _ => ?_, fun q => absurd q (by decide)⟩
        rw [e]
        refine ⟨fun q => by omega, fun q => ⟨by omega, ?_⟩⟩
        rw [hA, hB, c183 (by omega), hA, hB, c184w (by omega)]
        exact ⟨by omega, h⟩
  · refine ⟨zup (zup H 81 1 0) 81 0 1, zkeep_up rfl (zkeep_up rfl zkeep_rfl), by rw [zq_ne (by decide), zq_ne (by decide)], by rw [zq_eq, if_neg hg], fun K => zclI_eq fun K h => x199_0 ?_⟩
    rw [if_neg hg] at h
    have B : zgo w (d + 2) 199 17 [zR 81, zI v, zI i] [zI 1, zR 81] H (zQI K) := x199_17 (d := d + 1) (by
      rw [c174, if_neg (by decide)]
      exact ⟨fun q => absurd rfl q, fun _ => h⟩)
    rw [c176]
    refine ⟨fun _ => B, fun q => ⟨fun _ => B, fun q2 => ?_⟩⟩
    exfalso
    apply hg
    refine ⟨?_, q2⟩
    rcases Classical.em (1 ≤ v ∧ v ≤ 999999999) with z | z
    · exact z
    · rw [if_neg z] at q; exact absurd rfl q
/-- case part -/
theorem l638 (hw : w.1 ≤ 3072) (hMR : zMR) (hk : ∀ H H', zkeep H H' → R0 H → R0 H') : zLaw w (zKept R0) 638 := fun H i hi6 hR K nx => x0_638 (d := 1999) (by
  refine ⟨zidx hw hi6 (by decide) (by decide), zidx hw hi6 (by decide) (by decide), ?_⟩
  generalize zH0 w.2 0 (w32 ((i : Int) + 1)) = v1
  generalize zH0 w.2 0 (w32 ((i : Int) + 2)) = v2
  obtain ⟨H1, a1, a2, a3, e1⟩ := a78 (w := w) (d := 1996) (v := v1) (i := v2) (H := H) hMR
  obtain ⟨H2, b1, b2, b3, e2⟩ := a199 (w := w) (d := 1997) (v := v1) (i := v2) (H := H1)
  rw [e1, e2]
  refine ⟨fun _ => nx _ ⟨by rw [b2, a3, b3], hk _ _ (zkeep_tr a1 b1) hR.2⟩, fun q => absurd rfl q⟩)
end Z36
