/-! segments: what suffices for a run from there on (by wip/whole/gen3.py) -/
theorem zp272 : zprog.getD 272 [] = zk272 := rfl
theorem x272_0 {w : zWt} {d : Nat} {H : zHt} {K : zHt → Prop} {l1 : Int}
    (h : (2 ≤ l1 → zclV w d 177 [zR 81, zI l1] H (fun H2 => zgo w (d + 1) 272 18 [zR 81, zJ, zI 0] [] H2 (zQV K))) ∧ (l1 < 2 → zclV w d 273 [zR 81, zI l1] H (fun H4 => K H4))) :
    zclV w (d + 1) 272 [zR 81, zI l1] H K := by
  show zgo w (d + 1) 272 0 [zR 81, zI l1, zJ] [] H (zQV K)
  refine g_il zp272 rfl rfl rfl ?_
  refine g_ic zp272 rfl rfl ?_
  refine g_icmp zp272 rfl rfl zc3 (fun c1 => ?_) (fun c1 => ?_)
  · replace h := h.1 c1
    refine g_al zp272 rfl rfl rfl (by decide) ?_
    refine g_il zp272 rfl rfl rfl ?_
    refine g_callV (as := [zR 81, zI l1]) (rest := []) zp272 rfl rfl (Nat.succ_pos _) rfl rfl (Nat.le_of_ble_eq_true rfl) (Nat.le_of_ble_eq_true rfl) rfl rfl h (fun H2 h => ?_)
    refine g_ic zp272 rfl rfl ?_
    refine g_is (ls' := [zR 81, zI l1, zI 0]) zp272 rfl rfl (Nat.le_of_ble_eq_true rfl) rfl ?_
    exact g_weak (ls' := [zR 81, zJ, zI 0]) ⟨Or.inr rfl, Or.inl rfl, Or.inr rfl, trivial⟩ h
  · replace h := h.2 c1
    refine g_al zp272 rfl rfl rfl (by decide) ?_
    refine g_il zp272 rfl rfl rfl ?_
    refine g_callV (as := [zR 81, zI l1]) (rest := []) zp272 rfl rfl (Nat.succ_pos _) rfl rfl (Nat.le_of_ble_eq_true rfl) (Nat.le_of_ble_eq_true rfl) rfl rfl h (fun H4 h => ?_)
    exact g_ret zp272 rfl rfl ⟨rfl, h⟩
theorem x272_18 {w : zWt} {d : Nat} {H : zHt} {K : zHt → Prop} {l2 : Int}
    (h : ((H 81 8) ≤ l2 → K H) ∧ (l2 < (H 81 8) → (l2 ≤ 0 → zgo w (d + 1) 272 36 [zR 81, zJ, zI l2] [] H (zQV K)) ∧ (0 < l2 → zclV w d 271 [zR 81, zI 42] H (fun H3 => zgo w (d + 1) 272 36 [zR 81, zJ, zI l2] [] H3 (zQV K))))) :
    zgo w (d + 1) 272 18 [zR 81, zJ, zI l2] [] H (zQV K) := by
  refine g_il zp272 rfl rfl rfl ?_
  refine g_al zp272 rfl rfl rfl (by decide) ?_
  refine g_get (v := zI (H 81 8)) zp272 rfl rfl rfl ⟨rfl, by decide, (by decide)⟩ rfl ?_
  refine g_icmp zp272 rfl rfl zc3 (fun c1 => ?_) (fun c1 => ?_)
  · replace h := h.1 c1
    exact g_ret zp272 rfl rfl ⟨rfl, h⟩
  · replace h := h.2 c1
    refine g_il zp272 rfl rfl rfl ?_
    refine g_if zp272 rfl rfl zc5 (fun c2 => ?_) (fun c2 => ?_)
    · replace h := h.1 c2
      exact g_weak (ls' := [zR 81, zJ, zI l2]) ⟨Or.inr rfl, Or.inr rfl, Or.inr rfl, trivial⟩ h
    · replace h := h.2 c2
      refine g_al zp272 rfl rfl rfl (by decide) ?_
      refine g_ic zp272 rfl rfl ?_
      refine g_callV (as := [zR 81, zI 42]) (rest := []) zp272 rfl rfl (Nat.succ_pos _) rfl rfl (Nat.le_of_ble_eq_true rfl) (Nat.le_of_ble_eq_true rfl) rfl rfl h (fun H3 h => ?_)
      exact g_weak (ls' := [zR 81, zJ, zI l2]) ⟨Or.inr rfl, Or.inr rfl, Or.inr rfl, trivial⟩ h
theorem x272_36 {w : zWt} {d : Nat} {H : zHt} {K : zHt → Prop} {l2 : Int}
    (h : (0 ≤ l2 ∧ l2 < 10) ∧ zclV w d 273 [zR 81, zI (H 85 l2)] H (fun H2 => (¬ (H2 86 l2) = 1 → zclV w d 271 [zR 81, zI 94] H2 (fun H5 => zclV w d 273 [zR 81, zI (H5 86 l2)] H5 (fun H7 => zgo w (d + 1) 272 18 [zR 81, zJ, zI (w32 (l2 + 1))] [] H7 (zQV K)))) ∧ ((H2 86 l2) = 1 → zgo w (d + 1) 272 18 [zR 81, zJ, zI (w32 (l2 + 1))] [] H2 (zQV K)))) :
    zgo w (d + 1) 272 36 [zR 81, zJ, zI l2] [] H (zQV K) := by
  refine g_al zp272 rfl rfl rfl (by decide) ?_
  refine g_al zp272 rfl rfl rfl (by decide) ?_
  refine g_get (v := zR 85) zp272 rfl rfl rfl ⟨rfl, by decide, (by decide)⟩ rfl ?_
  refine g_il zp272 rfl rfl rfl ?_
  obtain ⟨c1, h⟩ := h
  refine g_ald (v := zI (H 85 l2)) zp272 rfl rfl rfl rfl c1 rfl ?_
  refine g_callV (as := [zR 81, zI (H 85 l2)]) (rest := []) zp272 rfl rfl (Nat.succ_pos _) rfl rfl (Nat.le_of_ble_eq_true rfl) (Nat.le_of_ble_eq_true rfl) rfl rfl h (fun H2 h => ?_)
  refine g_al zp272 rfl rfl rfl (by decide) ?_
  refine g_get (v := zR 86) zp272 rfl rfl rfl ⟨rfl, by decide, (by decide)⟩ rfl ?_
  refine g_il zp272 rfl rfl rfl ?_
  refine g_ald (v := zI (H2 86 l2)) zp272 rfl rfl rfl rfl c1 rfl ?_
  refine g_ic zp272 rfl rfl ?_
  refine g_icmp zp272 rfl rfl zc1 (fun c4 => ?_) (fun c4 => ?_)
  · replace h := h.1 c4
    refine g_al zp272 rfl rfl rfl (by decide) ?_
    refine g_ic zp272 rfl rfl ?_
    refine g_callV (as := [zR 81, zI 94]) (rest := []) zp272 rfl rfl (Nat.succ_pos _) rfl rfl (Nat.le_of_ble_eq_true rfl) (Nat.le_of_ble_eq_true rfl) rfl rfl h (fun H5 h => ?_)
    refine g_al zp272 rfl rfl rfl (by decide) ?_
    refine g_al zp272 rfl rfl rfl (by decide) ?_
    refine g_get (v := zR 86) zp272 rfl rfl rfl ⟨rfl, by decide, (by decide)⟩ rfl ?_
    refine g_il zp272 rfl rfl rfl ?_
    refine g_ald (v := zI (H5 86 l2)) zp272 rfl rfl rfl rfl c1 rfl ?_
    refine g_callV (as := [zR 81, zI (H5 86 l2)]) (rest := []) zp272 rfl rfl (Nat.succ_pos _) rfl rfl (Nat.le_of_ble_eq_true rfl) (Nat.le_of_ble_eq_true rfl) rfl rfl h (fun H7 h => ?_)
    refine g_inc (ls' := [zR 81, zJ, zI (w32 (l2 + 1))]) zp272 rfl rfl rfl rfl ?_
    refine g_goto zp272 rfl ?_
    exact g_weak (ls' := [zR 81, zJ, zI (w32 (l2 + 1))]) ⟨Or.inr rfl, Or.inr rfl, Or.inr rfl, trivial⟩ h
  · replace h := h.2 c4
    refine g_goto zp272 rfl ?_
    refine g_inc (ls' := [zR 81, zJ, zI (w32 (l2 + 1))]) zp272 rfl rfl rfl rfl ?_
    refine g_goto zp272 rfl ?_
    exact g_weak (ls' := [zR 81, zJ, zI (w32 (l2 + 1))]) ⟨Or.inr rfl, Or.inr rfl, Or.inr rfl, trivial⟩ h
theorem zp273 : zprog.getD 273 [] = zk273 := rfl
theorem x273_0 {w : zWt} {d : Nat} {H : zHt} {K : zHt → Prop} {l1 : Int}
    (h : zgo w (d + 1) 273 2 [zR 81, zI l1, zI 1] [] H (zQV K)) :
    zclV w (d + 1) 273 [zR 81, zI l1] H K := by
  show zgo w (d + 1) 273 0 [zR 81, zI l1, zJ] [] H (zQV K)
  refine g_ic zp273 rfl rfl ?_
  refine g_is (ls' := [zR 81, zI l1, zI 1]) zp273 rfl rfl (Nat.le_of_ble_eq_true rfl) rfl ?_
  exact g_weak (ls' := [zR 81, zI l1, zI 1]) ⟨Or.inr rfl, Or.inr rfl, Or.inr rfl, trivial⟩ h
theorem x273_2 {w : zWt} {d : Nat} {H : zHt} {K : zHt → Prop} {l1 : Int} {l2 : Int}
    (h : (l2 ≠ 0) ∧ ((w32 (Int.tdiv l1 l2)) < 10 → zgo w (d + 1) 273 18 [zR 81, zI l1, zI l2] [] H (zQV K)) ∧ (10 ≤ (w32 (Int.tdiv l1 l2)) → zgo w (d + 1) 273 2 [zR 81, zI l1, zI (w32 (l2 * 10))] [] H (zQV K))) :
    zgo w (d + 1) 273 2 [zR 81, zI l1, zI l2] [] H (zQV K) := by
  refine g_il zp273 rfl rfl rfl ?_
  refine g_il zp273 rfl rfl rfl ?_
  obtain ⟨c1, h⟩ := h
  refine g_ar (r := w32 (Int.tdiv l1 l2)) zp273 rfl rfl (zr_div c1) ?_
  refine g_ic zp273 rfl rfl ?_
  refine g_icmp zp273 rfl rfl zc2 (fun c2 => ?_) (fun c2 => ?_)
  · replace h := h.1 c2
    exact g_weak (ls' := [zR 81, zI l1, zI l2]) ⟨Or.inr rfl, Or.inr rfl, Or.inr rfl, trivial⟩ h
  · replace h := h.2 c2
    refine g_il zp273 rfl rfl rfl ?_
    refine g_ic zp273 rfl rfl ?_
    refine g_ar (r := w32 (l2 * 10)) zp273 rfl rfl rfl ?_
    refine g_is (ls' := [zR 81, zI l1, zI (w32 (l2 * 10))]) zp273 rfl rfl (Nat.le_of_ble_eq_true rfl) rfl ?_
    refine g_goto zp273 rfl ?_
    exact g_weak (ls' := [zR 81, zI l1, zI (w32 (l2 * 10))]) ⟨Or.inr rfl, Or.inr rfl, Or.inr rfl, trivial⟩ h
theorem x273_18 {w : zWt} {d : Nat} {H : zHt} {K : zHt → Prop} {l1 : Int} {l2 : Int}
    (h : (l2 ≤ 0 → K H) ∧ (0 < l2 → (l2 ≠ 0) ∧ zclV w d 271 [zR 81, zI (w32 (48 + (Int.tmod (w32 (Int.tdiv l1 l2)) 10)))] H (fun H3 => zgo w (d + 1) 273 18 [zR 81, zI l1, zI (w32 (Int.tdiv l2 10))] [] H3 (zQV K)))) :
    zgo w (d + 1) 273 18 [zR 81, zI l1, zI l2] [] H (zQV K) := by
  refine g_il zp273 rfl rfl rfl ?_
  refine g_if zp273 rfl rfl zc5 (fun c1 => ?_) (fun c1 => ?_)
  · replace h := h.1 c1
    exact g_ret zp273 rfl rfl ⟨rfl, h⟩
  · replace h := h.2 c1
    refine g_al zp273 rfl rfl rfl (by decide) ?_
    refine g_ic zp273 rfl rfl ?_
    refine g_il zp273 rfl rfl rfl ?_
    refine g_il zp273 rfl rfl rfl ?_
    obtain ⟨c2, h⟩ := h
    refine g_ar (r := w32 (Int.tdiv l1 l2)) zp273 rfl rfl (zr_div c2) ?_
    refine g_ic zp273 rfl rfl ?_
    refine g_ar (r := Int.tmod (w32 (Int.tdiv l1 l2)) 10) zp273 rfl rfl (zr_rem (by decide)) ?_
    refine g_ar (r := w32 (48 + (Int.tmod (w32 (Int.tdiv l1 l2)) 10))) zp273 rfl rfl rfl ?_
    refine g_callV (as := [zR 81, zI (w32 (48 + (Int.tmod (w32 (Int.tdiv l1 l2)) 10)))]) (rest := []) zp273 rfl rfl (Nat.succ_pos _) rfl rfl (Nat.le_of_ble_eq_true rfl) (Nat.le_of_ble_eq_true rfl) rfl rfl h (fun H3 h => ?_)
    refine g_il zp273 rfl rfl rfl ?_
    refine g_ic zp273 rfl rfl ?_
    refine g_ar (r := w32 (Int.tdiv l2 10)) zp273 rfl rfl (zr_div (by decide)) ?_
    refine g_is (ls' := [zR 81, zI l1, zI (w32 (Int.tdiv l2 10))]) zp273 rfl rfl (Nat.le_of_ble_eq_true rfl) rfl ?_
    refine g_goto zp273 rfl ?_
    exact g_weak (ls' := [zR 81, zI l1, zI (w32 (Int.tdiv l2 10))]) ⟨Or.inr rfl, Or.inr rfl, Or.inr rfl, trivial⟩ h
theorem zp274 : zprog.getD 274 [] = zk274 := rfl
theorem x274_0 {w : zWt} {d : Nat} {H : zHt} {K : Int → zHt → Prop} {l1 : Int}
    (h : (0 ≤ l1 → (l1 < (H 81 29) → zclI w d 174 [zR 81, zI 0] H (fun x4 H3 => (x4 = 0 → K (-1) H3) ∧ (¬ x4 = 0 → (0 ≤ l1 ∧ l1 < 6000) ∧ K (H3 98 l1) H3))) ∧ ((H 81 29) ≤ l1 → zclI w d 174 [zR 81, zI 5] H (fun x8 H7 => (x8 = 0 → K (-1) H7) ∧ (¬ x8 = 0 → (0 ≤ l1 ∧ l1 < 6000) ∧ K (H7 98 l1) H7)))) ∧ (l1 < 0 → zclI w d 174 [zR 81, zI 1] H (fun x12 H11 => (x12 = 0 → K (-1) H11) ∧ (¬ x12 = 0 → (0 ≤ l1 ∧ l1 < 6000) ∧ K (H11 98 l1) H11)))) :
    zclI w (d + 1) 274 [zR 81, zI l1] H K := by
  show zgo w (d + 1) 274 0 [zR 81, zI l1] [] H (zQI K)
  refine g_al zp274 rfl rfl rfl (by decide) ?_
  refine g_il zp274 rfl rfl rfl ?_
  refine g_if zp274 rfl rfl zc3 (fun c1 => ?_) (fun c1 => ?_)
  · replace h := h.1 c1
    refine g_il zp274 rfl rfl rfl ?_
    refine g_al zp274 rfl rfl rfl (by decide) ?_
    refine g_get (v := zI (H 81 29)) zp274 rfl rfl rfl ⟨rfl, by decide, (by decide)⟩ rfl ?_
    refine g_icmp zp274 rfl rfl zc2 (fun c2 => ?_) (fun c2 => ?_)
    · replace h := h.1 c2
      refine g_ic zp274 rfl rfl ?_
      refine g_callI (as := [zR 81, zI 0]) (rest := []) zp274 rfl rfl (Nat.succ_pos _) rfl rfl (Nat.le_of_ble_eq_true rfl) (Nat.le_of_ble_eq_true rfl) rfl rfl h (fun x4 H3 h => ?_)
      refine g_if zp274 rfl rfl zc0 (fun c5 => ?_) (fun c5 => ?_)
      · replace h := h.1 c5
        refine g_ic zp274 rfl rfl ?_
        exact g_ret zp274 rfl rfl ⟨_, rfl, h⟩
      · replace h := h.2 c5
        refine g_al zp274 rfl rfl rfl (by decide) ?_
        refine g_get (v := zR 98) zp274 rfl rfl rfl ⟨rfl, by decide, (by decide)⟩ rfl ?_
        refine g_il zp274 rfl rfl rfl ?_
        obtain ⟨c6, h⟩ := h
        refine g_ald (v := zI (H3 98 l1)) zp274 rfl rfl rfl rfl c6 rfl ?_
        refine g_goto zp274 rfl ?_
        exact g_ret zp274 rfl rfl ⟨_, rfl, h⟩
    · replace h := h.2 c2
      refine g_ic zp274 rfl rfl ?_
      refine g_goto zp274 rfl ?_
      refine g_callI (as := [zR 81, zI 5]) (rest := []) zp274 rfl rfl (Nat.succ_pos _) rfl rfl (Nat.le_of_ble_eq_true rfl) (Nat.le_of_ble_eq_true rfl) rfl rfl h (fun x8 H7 h => ?_)
      refine g_if zp274 rfl rfl zc0 (fun c9 => ?_) (fun c9 => ?_)
      · replace h := h.1 c9
        refine g_ic zp274 rfl rfl ?_
        exact g_ret zp274 rfl rfl ⟨_, rfl, h⟩
      · replace h := h.2 c9
        refine g_al zp274 rfl rfl rfl (by decide) ?_
        refine g_get (v := zR 98) zp274 rfl rfl rfl ⟨rfl, by decide, (by decide)⟩ rfl ?_
        refine g_il zp274 rfl rfl rfl ?_
        obtain ⟨c10, h⟩ := h
        refine g_ald (v := zI (H7 98 l1)) zp274 rfl rfl rfl rfl c10 rfl ?_
        refine g_goto zp274 rfl ?_
        exact g_ret zp274 rfl rfl ⟨_, rfl, h⟩
  · replace h := h.2 c1
    refine g_ic zp274 rfl rfl ?_
    refine g_goto zp274 rfl ?_
    refine g_callI (as := [zR 81, zI 1]) (rest := []) zp274 rfl rfl (Nat.succ_pos _) rfl rfl (Nat.le_of_ble_eq_true rfl) (Nat.le_of_ble_eq_true rfl) rfl rfl h (fun x12 H11 h => ?_)
    refine g_if zp274 rfl rfl zc0 (fun c13 => ?_) (fun c13 => ?_)
    · replace h := h.1 c13
      refine g_ic zp274 rfl rfl ?_
      exact g_ret zp274 rfl rfl ⟨_, rfl, h⟩
    · replace h := h.2 c13
      refine g_al zp274 rfl rfl rfl (by decide) ?_
      refine g_get (v := zR 98) zp274 rfl rfl rfl ⟨rfl, by decide, (by decide)⟩ rfl ?_
      refine g_il zp274 rfl rfl rfl ?_
      obtain ⟨c14, h⟩ := h
      refine g_ald (v := zI (H11 98 l1)) zp274 rfl rfl rfl rfl c14 rfl ?_
      refine g_goto zp274 rfl ?_
      exact g_ret zp274 rfl rfl ⟨_, rfl, h⟩
theorem zp275 : zprog.getD 275 [] = zk275 := rfl
theorem x275_0 {w : zWt} {d : Nat} {H : zHt} {K : Int → zHt → Prop} {l1 : Int} {l2 : Int} {l3 : Int} {l4 : Int} {l5 : Int}
    (h : ((w32 ((H 81 31) + 20)) ≤ 400 → zclV w d 276 [zR 81, zI l1] (zup H 81 1 0) (fun H2 => zclV w d 276 [zR 81, zI l2] H2 (fun H4 => zclV w d 276 [zR 81, zI l3] H4 (fun H6 => zclV w d 276 [zR 81, zI l4] H6 (fun H8 => zclV w d 276 [zR 81, zI l5] H8 (fun H10 => K (H10 81 31) H10)))))) ∧ (400 < (w32 ((H 81 31) + 20)) → K (-1) (zup H 81 1 0))) :
    zclI w (d + 1) 275 [zR 81, zI l1, zI l2, zI l3, zI l4, zI l5] H K := by
  show zgo w (d + 1) 275 0 [zR 81, zI l1, zI l2, zI l3, zI l4, zI l5] [] H (zQI K)
  refine g_al zp275 rfl rfl rfl (by decide) ?_
  refine g_ic zp275 rfl rfl ?_
  refine g_putI zp275 rfl rfl rfl ⟨rfl, by decide, (by decide)⟩ rfl rfl ?_
  refine g_al zp275 rfl rfl rfl (by decide) ?_
  refine g_get (v := zI (H 81 31)) zp275 rfl rfl rfl ⟨rfl, by decide, (by decide)⟩ rfl ?_
  refine g_ic zp275 rfl rfl ?_
  refine g_ar (r := w32 ((H 81 31) + 20)) zp275 rfl rfl rfl ?_
  refine g_ic zp275 rfl rfl ?_
  refine g_icmp zp275 rfl rfl zc5 (fun c1 => ?_) (fun c1 => ?_)
  · replace h := h.1 c1
    refine g_al zp275 rfl rfl rfl (by decide) ?_
    refine g_il zp275 rfl rfl rfl ?_
    refine g_callV (as := [zR 81, zI l1]) (rest := []) zp275 rfl rfl (Nat.succ_pos _) rfl rfl (Nat.le_of_ble_eq_true rfl) (Nat.le_of_ble_eq_true rfl) rfl rfl h (fun H2 h => ?_)
    refine g_al zp275 rfl rfl rfl (by decide) ?_
    refine g_il zp275 rfl rfl rfl ?_
    refine g_callV (as := [zR 81, zI l2]) (rest := []) zp275 rfl rfl (Nat.succ_pos _) rfl rfl (Nat.le_of_ble_eq_true rfl) (Nat.le_of_ble_eq_true rfl) rfl rfl h (fun H4 h => ?_)
    refine g_al zp275 rfl rfl rfl (by decide) ?_
    refine g_il zp275 rfl rfl rfl ?_
    refine g_callV (as := [zR 81, zI l3]) (rest := []) zp275 rfl rfl (Nat.succ_pos _) rfl rfl (Nat.le_of_ble_eq_true rfl) (Nat.le_of_ble_eq_true rfl) rfl rfl h (fun H6 h => ?_)
    refine g_al zp275 rfl rfl rfl (by decide) ?_
    refine g_il zp275 rfl rfl rfl ?_
    refine g_callV (as := [zR 81, zI l4]) (rest := []) zp275 rfl rfl (Nat.succ_pos _) rfl rfl (Nat.le_of_ble_eq_true rfl) (Nat.le_of_ble_eq_true rfl) rfl rfl h (fun H8 h => ?_)
    refine g_al zp275 rfl rfl rfl (by decide) ?_
    refine g_il zp275 rfl rfl rfl ?_
    refine g_callV (as := [zR 81, zI l5]) (rest := []) zp275 rfl rfl (Nat.succ_pos _) rfl rfl (Nat.le_of_ble_eq_true rfl) (Nat.le_of_ble_eq_true rfl) rfl rfl h (fun H10 h => ?_)
    refine g_al zp275 rfl rfl rfl (by decide) ?_
    refine g_get (v := zI (H10 81 31)) zp275 rfl rfl rfl ⟨rfl, by decide, (by decide)⟩ rfl ?_
    exact g_ret zp275 rfl rfl ⟨_, rfl, h⟩
  · replace h := h.2 c1
    refine g_ic zp275 rfl rfl ?_
    exact g_ret zp275 rfl rfl ⟨_, rfl, h⟩
theorem zp276 : zprog.getD 276 [] = zk276 := rfl
theorem x276_0 {w : zWt} {d : Nat} {H : zHt} {K : zHt → Prop} {l1 : Int}
    (h : zgo w d 276 3 [zR 81, zI l1, zI 24] [] H (zQV K)) :
    zclV w d 276 [zR 81, zI l1] H K := by
  show zgo w d 276 0 [zR 81, zI l1, zJ] [] H (zQV K)
  refine g_ic zp276 rfl rfl ?_
  refine g_is (ls' := [zR 81, zI l1, zI 24]) zp276 rfl rfl (Nat.le_of_ble_eq_true rfl) rfl ?_
  exact g_weak (ls' := [zR 81, zI l1, zI 24]) ⟨Or.inr rfl, Or.inr rfl, Or.inr rfl, trivial⟩ h
theorem x276_3 {w : zWt} {d : Nat} {H : zHt} {K : zHt → Prop} {l1 : Int} {l2 : Int}
    (h : (l2 < 0 → K H) ∧ (0 ≤ l2 → (0 ≤ (H 81 31) ∧ (H 81 31) < 400) ∧ zgo w d 276 3 [zR 81, zI l1, zI (w32 (l2 + (-8)))] [] (zup (zup H 99 (H 81 31) (zi8 (zi8 (zshr l1 l2)))) 81 31 (w32 ((H 81 31) + 1))) (zQV K))) :
    zgo w d 276 3 [zR 81, zI l1, zI l2] [] H (zQV K) := by
  refine g_il zp276 rfl rfl rfl ?_
  refine g_if zp276 rfl rfl zc2 (fun c1 => ?_) (fun c1 => ?_)
  · replace h := h.1 c1
    exact g_ret zp276 rfl rfl ⟨rfl, h⟩
  · replace h := h.2 c1
    refine g_al zp276 rfl rfl rfl (by decide) ?_
    refine g_get (v := zR 99) zp276 rfl rfl rfl ⟨rfl, by decide, (by decide)⟩ rfl ?_
    refine g_al zp276 rfl rfl rfl (by decide) ?_
    refine g_get (v := zI (H 81 31)) zp276 rfl rfl rfl ⟨rfl, by decide, (by decide)⟩ rfl ?_
    refine g_il zp276 rfl rfl rfl ?_
    refine g_il zp276 rfl rfl rfl ?_
    refine g_ar (r := zshr l1 l2) zp276 rfl rfl rfl ?_
    refine g_i2b zp276 rfl rfl ?_
    obtain ⟨c2, h⟩ := h
    refine g_bast zp276 rfl rfl rfl (by decide) rfl c2 ?_
    refine g_al zp276 rfl rfl rfl (by decide) ?_
    refine g_dup zp276 rfl rfl rfl ?_
    refine g_get (v := zI (H 81 31)) zp276 rfl rfl rfl ⟨rfl, by decide, (by decide)⟩ rfl ?_
    refine g_ic zp276 rfl rfl ?_
    refine g_ar (r := w32 ((H 81 31) + 1)) zp276 rfl rfl rfl ?_
    refine g_putI zp276 rfl rfl rfl ⟨rfl, by decide, (by decide)⟩ rfl rfl ?_
    refine g_inc (ls' := [zR 81, zI l1, zI (w32 (l2 + (-8)))]) zp276 rfl rfl rfl rfl ?_
    refine g_goto zp276 rfl ?_
    exact g_weak (ls' := [zR 81, zI l1, zI (w32 (l2 + (-8)))]) ⟨Or.inr rfl, Or.inr rfl, Or.inr rfl, trivial⟩ h
theorem zp277 : zprog.getD 277 [] = zk277 := rfl
theorem x277_0 {w : zWt} {d : Nat} {H : zHt} {K : Int → zHt → Prop} {l1 : Int}
    (h : zclI w d 173 [zL l1, zL 0, zL (H 81 31)] H (fun x2 H1 => (x2 = 0 → zclI w d 174 [zR 81, zI 1] H1 (fun x5 H4 => (¬ x5 = 0 → zgo w (d + 1) 277 45 [zR 81, zJ, zI 0] [] (zup (zup (zup H4 81 40 l1) 81 37 0) 81 34 0) (zQI K)) ∧ (x5 = 0 → K (-1) H4))) ∧ (¬ x2 = 0 → zclI w d 174 [zR 81, zI 0] H1 (fun x8 H7 => (¬ x8 = 0 → zgo w (d + 1) 277 45 [zR 81, zJ, zI 0] [] (zup (zup (zup H7 81 40 l1) 81 37 0) 81 34 0) (zQI K)) ∧ (x8 = 0 → K (-1) H7))))) :
    zclI w (d + 1) 277 [zR 81, zI l1] H K := by
  show zgo w (d + 1) 277 0 [zR 81, zI l1, zJ] [] H (zQI K)
  refine g_al zp277 rfl rfl rfl (by decide) ?_
  refine g_il zp277 rfl rfl rfl ?_
  refine g_i2l zp277 rfl rfl ?_
  refine g_lc zp277 rfl rfl ?_
  refine g_al zp277 rfl rfl rfl (by decide) ?_
  refine g_get (v := zI (H 81 31)) zp277 rfl rfl rfl ⟨rfl, by decide, (by decide)⟩ rfl ?_
  refine g_i2l zp277 rfl rfl ?_
  refine g_callI (as := [zL l1, zL 0, zL (H 81 31)]) (rest := [zR 81]) zp277 rfl rfl (Nat.succ_pos _) rfl rfl (Nat.le_of_ble_eq_true rfl) (Nat.le_of_ble_eq_true rfl) rfl rfl h (fun x2 H1 h => ?_)
  refine g_if zp277 rfl rfl zc0 (fun c3 => ?_) (fun c3 => ?_)
  · replace h := h.1 c3
    refine g_ic zp277 rfl rfl ?_
    refine g_callI (as := [zR 81, zI 1]) (rest := []) zp277 rfl rfl (Nat.succ_pos _) rfl rfl (Nat.le_of_ble_eq_true rfl) (Nat.le_of_ble_eq_true rfl) rfl rfl h (fun x5 H4 h => ?_)
    refine g_if zp277 rfl rfl zc1 (fun c6 => ?_) (fun c6 => ?_)
    · replace h := h.1 c6
      refine g_al zp277 rfl rfl rfl (by decide) ?_
      refine g_il zp277 rfl rfl rfl ?_
      refine g_putI zp277 rfl rfl rfl ⟨rfl, by decide, (by decide)⟩ rfl rfl ?_
      refine g_al zp277 rfl rfl rfl (by decide) ?_
      refine g_ic zp277 rfl rfl ?_
      refine g_putI zp277 rfl rfl rfl ⟨rfl, by decide, (by decide)⟩ rfl rfl ?_
      refine g_al zp277 rfl rfl rfl (by decide) ?_
      refine g_ic zp277 rfl rfl ?_
      refine g_putI zp277 rfl rfl rfl ⟨rfl, by decide, (by decide)⟩ rfl rfl ?_
      refine g_ic zp277 rfl rfl ?_
      refine g_is (ls' := [zR 81, zI l1, zI 0]) zp277 rfl rfl (Nat.le_of_ble_eq_true rfl) rfl ?_
      exact g_weak (ls' := [zR 81, zJ, zI 0]) ⟨Or.inr rfl, Or.inl rfl, Or.inr rfl, trivial⟩ h
    · replace h := h.2 c6
      refine g_ic zp277 rfl rfl ?_
      exact g_ret zp277 rfl rfl ⟨_, rfl, h⟩
  · replace h := h.2 c3
    refine g_ic zp277 rfl rfl ?_
    refine g_goto zp277 rfl ?_
    refine g_callI (as := [zR 81, zI 0]) (rest := []) zp277 rfl rfl (Nat.succ_pos _) rfl rfl (Nat.le_of_ble_eq_true rfl) (Nat.le_of_ble_eq_true rfl) rfl rfl h (fun x8 H7 h => ?_)
    refine g_if zp277 rfl rfl zc1 (fun c9 => ?_) (fun c9 => ?_)
    · replace h := h.1 c9
      refine g_al zp277 rfl rfl rfl (by decide) ?_
      refine g_il zp277 rfl rfl rfl ?_
      refine g_putI zp277 rfl rfl rfl ⟨rfl, by decide, (by decide)⟩ rfl rfl ?_
      refine g_al zp277 rfl rfl rfl (by decide) ?_
      refine g_ic zp277 rfl rfl ?_
      refine g_putI zp277 rfl rfl rfl ⟨rfl, by decide, (by decide)⟩ rfl rfl ?_
      refine g_al zp277 rfl rfl rfl (by decide) ?_
      refine g_ic zp277 rfl rfl ?_
      refine g_putI zp277 rfl rfl rfl ⟨rfl, by decide, (by decide)⟩ rfl rfl ?_
      refine g_ic zp277 rfl rfl ?_
      refine g_is (ls' := [zR 81, zI l1, zI 0]) zp277 rfl rfl (Nat.le_of_ble_eq_true rfl) rfl ?_
      exact g_weak (ls' := [zR 81, zJ, zI 0]) ⟨Or.inr rfl, Or.inl rfl, Or.inr rfl, trivial⟩ h
    · replace h := h.2 c9
      refine g_ic zp277 rfl rfl ?_
      exact g_ret zp277 rfl rfl ⟨_, rfl, h⟩
theorem x277_45 {w : zWt} {d : Nat} {H : zHt} {K : Int → zHt → Prop} {l2 : Int}
    (h : (10 ≤ l2 → zclV w d 278 [zR 81] (zup (zup H 83 7 100000) 83 8 30) (fun H2 => zgo w (d + 1) 277 86 [zR 81, zJ, zJ] [] H2 (zQI K))) ∧ (l2 < 10 → (0 ≤ l2 ∧ l2 < 10) ∧ zgo w (d + 1) 277 45 [zR 81, zJ, zI (w32 (l2 + 1))] [] (zup H 83 l2 0) (zQI K))) :
    zgo w (d + 1) 277 45 [zR 81, zJ, zI l2] [] H (zQI K) := by
  refine g_il zp277 rfl rfl rfl ?_
  refine g_ic zp277 rfl rfl ?_
  refine g_icmp zp277 rfl rfl zc3 (fun c1 => ?_) (fun c1 => ?_)
  · replace h := h.1 c1
    refine g_al zp277 rfl rfl rfl (by decide) ?_
    refine g_get (v := zR 83) zp277 rfl rfl rfl ⟨rfl, by decide, (by decide)⟩ rfl ?_
    refine g_ic zp277 rfl rfl ?_
    refine g_ic zp277 rfl rfl ?_
    refine g_iast zp277 rfl rfl rfl (by decide) rfl (by decide) ?_
    refine g_al zp277 rfl rfl rfl (by decide) ?_
    refine g_get (v := zR 83) zp277 rfl rfl rfl ⟨rfl, by decide, (by decide)⟩ rfl ?_
    refine g_ic zp277 rfl rfl ?_
    refine g_ic zp277 rfl rfl ?_
    refine g_iast zp277 rfl rfl rfl (by decide) rfl (by decide) ?_
    refine g_al zp277 rfl rfl rfl (by decide) ?_
    refine g_callV (as := [zR 81]) (rest := []) zp277 rfl rfl (Nat.succ_pos _) rfl rfl (Nat.le_of_ble_eq_true rfl) (Nat.le_of_ble_eq_true rfl) rfl rfl h (fun H2 h => ?_)
    exact g_weak (ls' := [zR 81, zJ, zJ]) ⟨Or.inr rfl, Or.inr rfl, Or.inl rfl, trivial⟩ h
  · replace h := h.2 c1
    refine g_al zp277 rfl rfl rfl (by decide) ?_
    refine g_get (v := zR 83) zp277 rfl rfl rfl ⟨rfl, by decide, (by decide)⟩ rfl ?_
    refine g_il zp277 rfl rfl rfl ?_
    refine g_ic zp277 rfl rfl ?_
    obtain ⟨c4, h⟩ := h
    refine g_iast zp277 rfl rfl rfl (by decide) rfl c4 ?_
    refine g_inc (ls' := [zR 81, zJ, zI (w32 (l2 + 1))]) zp277 rfl rfl rfl rfl ?_
    refine g_goto zp277 rfl ?_
    exact g_weak (ls' := [zR 81, zJ, zI (w32 (l2 + 1))]) ⟨Or.inr rfl, Or.inr rfl, Or.inr rfl, trivial⟩ h
theorem x277_86 {w : zWt} {d : Nat} {H : zHt} {K : Int → zHt → Prop} 
    (h : zclI w d 280 [zR 81] H (fun x2 H1 => (x2 = 0 → zgo w (d + 1) 277 107 [zR 81, zJ, zJ] [] H1 (zQI K)) ∧ (¬ x2 = 0 → ((H1 81 38) = 0 → zgo w (d + 1) 277 107 [zR 81, zJ, zJ] [] H1 (zQI K)) ∧ (¬ (H1 81 38) = 0 → zclV w d 281 [zR 81] H1 (fun H5 => zgo w (d + 1) 277 86 [zR 81, zJ, zJ] [] H5 (zQI K)))))) :
    zgo w (d + 1) 277 86 [zR 81, zJ, zJ] [] H (zQI K) := by
  refine g_al zp277 rfl rfl rfl (by decide) ?_
  refine g_callI (as := [zR 81]) (rest := []) zp277 rfl rfl (Nat.succ_pos _) rfl rfl (Nat.le_of_ble_eq_true rfl) (Nat.le_of_ble_eq_true rfl) rfl rfl h (fun x2 H1 h => ?_)
  refine g_if zp277 rfl rfl zc0 (fun c3 => ?_) (fun c3 => ?_)
  · replace h := h.1 c3
    exact g_weak (ls' := [zR 81, zJ, zJ]) ⟨Or.inr rfl, Or.inr rfl, Or.inr rfl, trivial⟩ h
  · replace h := h.2 c3
    refine g_al zp277 rfl rfl rfl (by decide) ?_
    refine g_get (v := zI (H1 81 38)) zp277 rfl rfl rfl ⟨rfl, by decide, (by decide)⟩ rfl ?_
    refine g_if zp277 rfl rfl zc0 (fun c4 => ?_) (fun c4 => ?_)
    · replace h := h.1 c4
      exact g_weak (ls' := [zR 81, zJ, zJ]) ⟨Or.inr rfl, Or.inr rfl, Or.inr rfl, trivial⟩ h
    · replace h := h.2 c4
      refine g_al zp277 rfl rfl rfl (by decide) ?_
      refine g_callV (as := [zR 81]) (rest := []) zp277 rfl rfl (Nat.succ_pos _) rfl rfl (Nat.le_of_ble_eq_true rfl) (Nat.le_of_ble_eq_true rfl) rfl rfl h (fun H5 h => ?_)
      refine g_goto zp277 rfl ?_
      exact g_weak (ls' := [zR 81, zJ, zJ]) ⟨Or.inr rfl, Or.inr rfl, Or.inr rfl, trivial⟩ h
theorem x277_107 {w : zWt} {d : Nat} {H : zHt} {K : Int → zHt → Prop} 
    (h : ((H 81 34) ≤ 0 → ((H 81 34) ≤ 0 → zgo w (d + 1) 277 155 [zR 81, zJ, zI 0] [] (zup (zup (zup H 81 31 0) 81 32 (H 81 34)) 81 33 (-1)) (zQI K)) ∧ (0 < (H 81 34) → zclI w d 178 [zR 81, zI 9] (zup (zup (zup H 81 31 0) 81 32 (H 81 34)) 81 33 (-1)) (fun x4 H3 => K x4 H3))) ∧ (0 < (H 81 34) → ((H 81 34) ≤ 0 → zgo w (d + 1) 277 155 [zR 81, zJ, zI 0] [] (zup (zup (zup H 81 31 0) 81 32 (H 81 34)) 81 33 (H 81 35)) (zQI K)) ∧ (0 < (H 81 34) → zclI w d 178 [zR 81, zI 9] (zup (zup (zup H 81 31 0) 81 32 (H 81 34)) 81 33 (H 81 35)) (fun x7 H6 => K x7 H6)))) :
    zgo w (d + 1) 277 107 [zR 81, zJ, zJ] [] H (zQI K) := by
  refine g_al zp277 rfl rfl rfl (by decide) ?_
  refine g_ic zp277 rfl rfl ?_
  refine g_putI zp277 rfl rfl rfl ⟨rfl, by decide, (by decide)⟩ rfl rfl ?_
  refine g_al zp277 rfl rfl rfl (by decide) ?_
  refine g_al zp277 rfl rfl rfl (by decide) ?_
  refine g_get (v := zI (H 81 34)) zp277 rfl rfl rfl ⟨rfl, by decide, (by decide)⟩ rfl ?_
  refine g_putI zp277 rfl rfl rfl ⟨rfl, by decide, (by decide)⟩ rfl rfl ?_
  refine g_al zp277 rfl rfl rfl (by decide) ?_
  refine g_al zp277 rfl rfl rfl (by decide) ?_
  refine g_get (v := zI (H 81 34)) zp277 rfl rfl rfl ⟨rfl, by decide, (by decide)⟩ rfl ?_
  refine g_if zp277 rfl rfl zc5 (fun c1 => ?_) (fun c1 => ?_)
  · replace h := h.1 c1
    refine g_ic zp277 rfl rfl ?_
    refine g_putI zp277 rfl rfl rfl ⟨rfl, by decide, (by decide)⟩ rfl rfl ?_
    refine g_al zp277 rfl rfl rfl (by decide) ?_
    refine g_get (v := zI (H 81 34)) zp277 rfl rfl rfl ⟨rfl, by decide, (by decide)⟩ rfl ?_
    refine g_if zp277 rfl rfl zc5 (fun c2 => ?_) (fun c2 => ?_)
    · replace h := h.1 c2
      refine g_ic zp277 rfl rfl ?_
      refine g_is (ls' := [zR 81, zJ, zI 0]) zp277 rfl rfl (Nat.le_of_ble_eq_true rfl) rfl ?_
      exact g_weak (ls' := [zR 81, zJ, zI 0]) ⟨Or.inr rfl, Or.inr rfl, Or.inr rfl, trivial⟩ h
    · replace h := h.2 c2
      refine g_al zp277 rfl rfl rfl (by decide) ?_
      refine g_ic zp277 rfl rfl ?_
      refine g_callI (as := [zR 81, zI 9]) (rest := []) zp277 rfl rfl (Nat.succ_pos _) rfl rfl (Nat.le_of_ble_eq_true rfl) (Nat.le_of_ble_eq_true rfl) rfl rfl h (fun x4 H3 h => ?_)
      exact g_ret zp277 rfl rfl ⟨_, rfl, h⟩
  · replace h := h.2 c1
    refine g_al zp277 rfl rfl rfl (by decide) ?_
    refine g_get (v := zI (H 81 35)) zp277 rfl rfl rfl ⟨rfl, by decide, (by decide)⟩ rfl ?_
    refine g_goto zp277 rfl ?_
    refine g_putI zp277 rfl rfl rfl ⟨rfl, by decide, (by decide)⟩ rfl rfl ?_
    refine g_al zp277 rfl rfl rfl (by decide) ?_
    refine g_get (v := zI (H 81 34)) zp277 rfl rfl rfl ⟨rfl, by decide, (by decide)⟩ rfl ?_
    refine g_if zp277 rfl rfl zc5 (fun c5 => ?_) (fun c5 => ?_)
    · replace h := h.1 c5
      refine g_ic zp277 rfl rfl ?_
      refine g_is (ls' := [zR 81, zJ, zI 0]) zp277 rfl rfl (Nat.le_of_ble_eq_true rfl) rfl ?_
      exact g_weak (ls' := [zR 81, zJ, zI 0]) ⟨Or.inr rfl, Or.inr rfl, Or.inr rfl, trivial⟩ h
    · replace h := h.2 c5
      refine g_al zp277 rfl rfl rfl (by decide) ?_
      refine g_ic zp277 rfl rfl ?_
      refine g_callI (as := [zR 81, zI 9]) (rest := []) zp277 rfl rfl (Nat.succ_pos _) rfl rfl (Nat.le_of_ble_eq_true rfl) (Nat.le_of_ble_eq_true rfl) rfl rfl h (fun x7 H6 h => ?_)
      exact g_ret zp277 rfl rfl ⟨_, rfl, h⟩
theorem x277_155 {w : zWt} {d : Nat} {H : zHt} {K : Int → zHt → Prop} {l2 : Int}
    (h : (10 ≤ l2 → K (H 82 6) (zup H 81 5 0)) ∧ (l2 < 10 → (0 ≤ l2 ∧ l2 < 10) ∧ zgo w (d + 1) 277 155 [zR 81, zJ, zI (w32 (l2 + 1))] [] (zup H 82 l2 (H 83 l2)) (zQI K))) :
    zgo w (d + 1) 277 155 [zR 81, zJ, zI l2] [] H (zQI K) := by
  refine g_il zp277 rfl rfl rfl ?_
  refine g_ic zp277 rfl rfl ?_
  refine g_icmp zp277 rfl rfl zc3 (fun c1 => ?_) (fun c1 => ?_)
  · replace h := h.1 c1
    refine g_al zp277 rfl rfl rfl (by decide) ?_
    refine g_ic zp277 rfl rfl ?_
    refine g_putI zp277 rfl rfl rfl ⟨rfl, by decide, (by decide)⟩ rfl rfl ?_
    refine g_al zp277 rfl rfl rfl (by decide) ?_
    refine g_get (v := zR 82) zp277 rfl rfl rfl ⟨rfl, by decide, (by decide)⟩ rfl ?_
    refine g_ic zp277 rfl rfl ?_
    refine g_ald (v := zI (H 82 6)) zp277 rfl rfl rfl rfl (by decide) rfl ?_
    exact g_ret zp277 rfl rfl ⟨_, rfl, h⟩
  · replace h := h.2 c1
    refine g_al zp277 rfl rfl rfl (by decide) ?_
    refine g_get (v := zR 82) zp277 rfl rfl rfl ⟨rfl, by decide, (by decide)⟩ rfl ?_
    refine g_il zp277 rfl rfl rfl ?_
    refine g_al zp277 rfl rfl rfl (by decide) ?_
    refine g_get (v := zR 83) zp277 rfl rfl rfl ⟨rfl, by decide, (by decide)⟩ rfl ?_
    refine g_il zp277 rfl rfl rfl ?_
    obtain ⟨c2, h⟩ := h
    refine g_ald (v := zI (H 83 l2)) zp277 rfl rfl rfl rfl c2 rfl ?_
    refine g_iast zp277 rfl rfl rfl (by decide) rfl c2 ?_
    refine g_inc (ls' := [zR 81, zJ, zI (w32 (l2 + 1))]) zp277 rfl rfl rfl rfl ?_
    refine g_goto zp277 rfl ?_
    exact g_weak (ls' := [zR 81, zJ, zI (w32 (l2 + 1))]) ⟨Or.inr rfl, Or.inr rfl, Or.inr rfl, trivial⟩ h
theorem zp278 : zprog.getD 278 [] = zk278 := rfl
theorem x278_0 {w : zWt} {d : Nat} {H : zHt} {K : zHt → Prop} 
    (h : zgo w (d + 1) 278 8 [zR 81] [] (zup H 81 36 (H 81 37)) (zQV K)) :
    zclV w (d + 1) 278 [zR 81] H K := by
  show zgo w (d + 1) 278 0 [zR 81] [] H (zQV K)
  refine g_al zp278 rfl rfl rfl (by decide) ?_
  refine g_al zp278 rfl rfl rfl (by decide) ?_
  refine g_get (v := zI (H 81 37)) zp278 rfl rfl rfl ⟨rfl, by decide, (by decide)⟩ rfl ?_
  refine g_putI zp278 rfl rfl rfl ⟨rfl, by decide, (by decide)⟩ rfl rfl ?_
  exact g_weak (ls' := [zR 81]) ⟨Or.inr rfl, trivial⟩ h
theorem x278_8 {w : zWt} {d : Nat} {H : zHt} {K : zHt → Prop} 
    (h : zclI w d 279 [zR 81, zI (H 81 36), zI 32, zI 32] H (fun x2 H1 => (¬ x2 = 0 → zgo w (d + 1) 278 8 [zR 81] [] (zup H1 81 36 (w32 ((H1 81 36) + 1))) (zQV K)) ∧ (x2 = 0 → zclI w d 279 [zR 81, zI (H1 81 36), zI 10, zI 10] H1 (fun x5 H4 => (x5 = 0 → ((H4 81 36) < (H4 81 40) → (0 ≤ (H4 81 36) ∧ (H4 81 36) < 400) ∧ (¬ (H4 99 (H4 81 36)) = 59 → zgo w (d + 1) 278 96 [zR 81] [zI 4, zR 81] (zup H4 81 37 (w32 ((H4 81 36) + 1))) (zQV K)) ∧ ((H4 99 (H4 81 36)) = 59 → zgo w (d + 1) 278 96 [zR 81] [zI 3, zR 81] (zup H4 81 37 (w32 ((H4 81 36) + 1))) (zQV K))) ∧ ((H4 81 40) ≤ (H4 81 36) → zgo w (d + 1) 278 96 [zR 81] [zI 0, zR 81] (zup H4 81 37 (w32 ((H4 81 36) + 1))) (zQV K))) ∧ (¬ x5 = 0 → zgo w (d + 1) 278 8 [zR 81] [] (zup H4 81 36 (w32 ((H4 81 36) + 1))) (zQV K)))))) :
    zgo w (d + 1) 278 8 [zR 81] [] H (zQV K) := by
  refine g_al zp278 rfl rfl rfl (by decide) ?_
  refine g_al zp278 rfl rfl rfl (by decide) ?_
  refine g_get (v := zI (H 81 36)) zp278 rfl rfl rfl ⟨rfl, by decide, (by decide)⟩ rfl ?_
  refine g_ic zp278 rfl rfl ?_
  refine g_ic zp278 rfl rfl ?_
  refine g_callI (as := [zR 81, zI (H 81 36), zI 32, zI 32]) (rest := []) zp278 rfl rfl (Nat.succ_pos _) rfl rfl (Nat.le_of_ble_eq_true rfl) (Nat.le_of_ble_eq_true rfl) rfl rfl h (fun x2 H1 h => ?_)
  refine g_if zp278 rfl rfl zc1 (fun c3 => ?_) (fun c3 => ?_)
  · replace h := h.1 c3
    refine g_al zp278 rfl rfl rfl (by decide) ?_
    refine g_dup zp278 rfl rfl rfl ?_
    refine g_get (v := zI (H1 81 36)) zp278 rfl rfl rfl ⟨rfl, by decide, (by decide)⟩ rfl ?_
    refine g_ic zp278 rfl rfl ?_
    refine g_ar (r := w32 ((H1 81 36) + 1)) zp278 rfl rfl rfl ?_
    refine g_putI zp278 rfl rfl rfl ⟨rfl, by decide, (by decide)⟩ rfl rfl ?_
    refine g_goto zp278 rfl ?_
    exact g_weak (ls' := [zR 81]) ⟨Or.inr rfl, trivial⟩ h
  · replace h := h.2 c3
    refine g_al zp278 rfl rfl rfl (by decide) ?_
    refine g_al zp278 rfl rfl rfl (by decide) ?_
    refine g_get (v := zI (H1 81 36)) zp278 rfl rfl rfl ⟨rfl, by decide, (by decide)⟩ rfl ?_
    refine g_ic zp278 rfl rfl ?_
    refine g_ic zp278 rfl rfl ?_
    refine g_callI (as := [zR 81, zI (H1 81 36), zI 10, zI 10]) (rest := []) zp278 rfl rfl (Nat.succ_pos _) rfl rfl (Nat.le_of_ble_eq_true rfl) (Nat.le_of_ble_eq_true rfl) rfl rfl h (fun x5 H4 h => ?_)
    refine g_if zp278 rfl rfl zc0 (fun c6 => ?_) (fun c6 => ?_)
    · replace h := h.1 c6
      refine g_al zp278 rfl rfl rfl (by decide) ?_
      refine g_al zp278 rfl rfl rfl (by decide) ?_
      refine g_get (v := zI (H4 81 36)) zp278 rfl rfl rfl ⟨rfl, by decide, (by decide)⟩ rfl ?_
      refine g_ic zp278 rfl rfl ?_
      refine g_ar (r := w32 ((H4 81 36) + 1)) zp278 rfl rfl rfl ?_
      refine g_putI zp278 rfl rfl rfl ⟨rfl, by decide, (by decide)⟩ rfl rfl ?_
      refine g_al zp278 rfl rfl rfl (by decide) ?_
      refine g_al zp278 rfl rfl rfl (by decide) ?_
      refine g_get (v := zI (H4 81 36)) zp278 rfl rfl rfl ⟨rfl, by decide, (by decide)⟩ rfl ?_
      refine g_al zp278 rfl rfl rfl (by decide) ?_
      refine g_get (v := zI (H4 81 40)) zp278 rfl rfl rfl ⟨rfl, by decide, (by decide)⟩ rfl ?_
      refine g_icmp zp278 rfl rfl zc2 (fun c7 => ?_) (fun c7 => ?_)
      · replace h := h.1 c7
        refine g_al zp278 rfl rfl rfl (by decide) ?_
        refine g_get (v := zR 99) zp278 rfl rfl rfl ⟨rfl, by decide, (by decide)⟩ rfl ?_
        refine g_al zp278 rfl rfl rfl (by decide) ?_
        refine g_get (v := zI (H4 81 36)) zp278 rfl rfl rfl ⟨rfl, by decide, (by decide)⟩ rfl ?_
        obtain ⟨c8, h⟩ := h
        refine g_ald (v := zI (H4 99 (H4 81 36))) zp278 rfl rfl rfl rfl c8 rfl ?_
        refine g_ic zp278 rfl rfl ?_
        refine g_icmp zp278 rfl rfl zc1 (fun c9 => ?_) (fun c9 => ?_)
        · replace h := h.1 c9
          refine g_ic zp278 rfl rfl ?_
          exact g_weak (ls' := [zR 81]) ⟨Or.inr rfl, trivial⟩ h
        · replace h := h.2 c9
          refine g_ic zp278 rfl rfl ?_
          refine g_goto zp278 rfl ?_
          exact g_weak (ls' := [zR 81]) ⟨Or.inr rfl, trivial⟩ h
      · replace h := h.2 c7
        refine g_ic zp278 rfl rfl ?_
        refine g_goto zp278 rfl ?_
        exact g_weak (ls' := [zR 81]) ⟨Or.inr rfl, trivial⟩ h
    · replace h := h.2 c6
      refine g_al zp278 rfl rfl rfl (by decide) ?_
      refine g_dup zp278 rfl rfl rfl ?_
      refine g_get (v := zI (H4 81 36)) zp278 rfl rfl rfl ⟨rfl, by decide, (by decide)⟩ rfl ?_
      refine g_ic zp278 rfl rfl ?_
      refine g_ar (r := w32 ((H4 81 36) + 1)) zp278 rfl rfl rfl ?_
      refine g_putI zp278 rfl rfl rfl ⟨rfl, by decide, (by decide)⟩ rfl rfl ?_
      refine g_goto zp278 rfl ?_
      exact g_weak (ls' := [zR 81]) ⟨Or.inr rfl, trivial⟩ h
theorem x278_96 {w : zWt} {d : Nat} {H : zHt} {K : zHt → Prop} {s1 : Int}
    (h : zclI w d 279 [zR 81, zI (H 81 36), zI 97, zI 122] (zup H 81 38 s1) (fun x2 H1 => (x2 = 0 → zclI w d 279 [zR 81, zI (H1 81 36), zI 48, zI 57] H1 (fun x5 H4 => (x5 = 0 → K H4) ∧ (¬ x5 = 0 → zgo w (d + 1) 278 254 [zR 81] [] (zup (zup H4 81 39 0) 81 37 (H4 81 36)) (zQV K)))) ∧ (¬ x2 = 0 → zgo w (d + 1) 278 127 [zR 81] [] (zup (zup H1 81 41 0) 81 37 (H1 81 36)) (zQV K)))) :
    zgo w (d + 1) 278 96 [zR 81] [zI s1, zR 81] H (zQV K) := by
  refine g_putI zp278 rfl rfl rfl ⟨rfl, by decide, (by decide)⟩ rfl rfl ?_
  refine g_al zp278 rfl rfl rfl (by decide) ?_
  refine g_al zp278 rfl rfl rfl (by decide) ?_
  refine g_get (v := zI (H 81 36)) zp278 rfl rfl rfl ⟨rfl, by decide, (by decide)⟩ rfl ?_
  refine g_ic zp278 rfl rfl ?_
  refine g_ic zp278 rfl rfl ?_
  refine g_callI (as := [zR 81, zI (H 81 36), zI 97, zI 122]) (rest := []) zp278 rfl rfl (Nat.succ_pos _) rfl rfl (Nat.le_of_ble_eq_true rfl) (Nat.le_of_ble_eq_true rfl) rfl rfl h (fun x2 H1 h => ?_)
  refine g_if zp278 rfl rfl zc0 (fun c3 => ?_) (fun c3 => ?_)
  · replace h := h.1 c3
    refine g_al zp278 rfl rfl rfl (by decide) ?_
    refine g_al zp278 rfl rfl rfl (by decide) ?_
    refine g_get (v := zI (H1 81 36)) zp278 rfl rfl rfl ⟨rfl, by decide, (by decide)⟩ rfl ?_
    refine g_ic zp278 rfl rfl ?_
    refine g_ic zp278 rfl rfl ?_
    refine g_callI (as := [zR 81, zI (H1 81 36), zI 48, zI 57]) (rest := []) zp278 rfl rfl (Nat.succ_pos _) rfl rfl (Nat.le_of_ble_eq_true rfl) (Nat.le_of_ble_eq_true rfl) rfl rfl h (fun x5 H4 h => ?_)
    refine g_if zp278 rfl rfl zc0 (fun c6 => ?_) (fun c6 => ?_)
    · replace h := h.1 c6
      exact g_ret zp278 rfl rfl ⟨rfl, h⟩
    · replace h := h.2 c6
      refine g_al zp278 rfl rfl rfl (by decide) ?_
      refine g_ic zp278 rfl rfl ?_
      refine g_putI zp278 rfl rfl rfl ⟨rfl, by decide, (by decide)⟩ rfl rfl ?_
      refine g_al zp278 rfl rfl rfl (by decide) ?_
      refine g_al zp278 rfl rfl rfl (by decide) ?_
      refine g_get (v := zI (H4 81 36)) zp278 rfl rfl rfl ⟨rfl, by decide, (by decide)⟩ rfl ?_
      refine g_putI zp278 rfl rfl rfl ⟨rfl, by decide, (by decide)⟩ rfl rfl ?_
      exact g_weak (ls' := [zR 81]) ⟨Or.inr rfl, trivial⟩ h
  · replace h := h.2 c3
    refine g_al zp278 rfl rfl rfl (by decide) ?_
    refine g_lc zp278 rfl rfl ?_
    refine g_putL zp278 rfl rfl rfl ⟨rfl, by decide, (by decide)⟩ rfl rfl ?_
    refine g_al zp278 rfl rfl rfl (by decide) ?_
    refine g_al zp278 rfl rfl rfl (by decide) ?_
    refine g_get (v := zI (H1 81 36)) zp278 rfl rfl rfl ⟨rfl, by decide, (by decide)⟩ rfl ?_
    refine g_putI zp278 rfl rfl rfl ⟨rfl, by decide, (by decide)⟩ rfl rfl ?_
    exact g_weak (ls' := [zR 81]) ⟨Or.inr rfl, trivial⟩ h
theorem x278_127 {w : zWt} {d : Nat} {H : zHt} {K : zHt → Prop} 
    (h : zclI w d 279 [zR 81, zI (H 81 37), zI 97, zI 122] H (fun x2 H1 => (x2 = 0 → ((w32 ((H1 81 37) - (H1 81 36))) ≤ 8 → K (zup H1 81 38 1)) ∧ (8 < (w32 ((H1 81 37) - (H1 81 36))) → K (zup H1 81 38 4))) ∧ (¬ x2 = 0 → (8 ≤ (w32 ((H1 81 37) - (H1 81 36))) → zgo w (d + 1) 278 127 [zR 81] [] (zup (zup H1 81 41 0) 81 37 (w32 ((H1 81 37) + 1))) (zQV K)) ∧ ((w32 ((H1 81 37) - (H1 81 36))) < 8 → (0 ≤ (H1 81 37) ∧ (H1 81 37) < 400) ∧ zgo w (d + 1) 278 127 [zR 81] [] (zup (zup H1 81 41 (w64 ((w64 ((w64 (27 * (H1 81 41))) + (H1 99 (H1 81 37)))) - 96))) 81 37 (w32 ((H1 81 37) + 1))) (zQV K))))) :
    zgo w (d + 1) 278 127 [zR 81] [] H (zQV K) := by
  refine g_al zp278 rfl rfl rfl (by decide) ?_
  refine g_al zp278 rfl rfl rfl (by decide) ?_
  refine g_get (v := zI (H 81 37)) zp278 rfl rfl rfl ⟨rfl, by decide, (by decide)⟩ rfl ?_
  refine g_ic zp278 rfl rfl ?_
  refine g_ic zp278 rfl rfl ?_
  refine g_callI (as := [zR 81, zI (H 81 37), zI 97, zI 122]) (rest := []) zp278 rfl rfl (Nat.succ_pos _) rfl rfl (Nat.le_of_ble_eq_true rfl) (Nat.le_of_ble_eq_true rfl) rfl rfl h (fun x2 H1 h => ?_)
  refine g_if zp278 rfl rfl zc0 (fun c3 => ?_) (fun c3 => ?_)
  · replace h := h.1 c3
    refine g_al zp278 rfl rfl rfl (by decide) ?_
    refine g_al zp278 rfl rfl rfl (by decide) ?_
    refine g_get (v := zI (H1 81 37)) zp278 rfl rfl rfl ⟨rfl, by decide, (by decide)⟩ rfl ?_
    refine g_al zp278 rfl rfl rfl (by decide) ?_
    refine g_get (v := zI (H1 81 36)) zp278 rfl rfl rfl ⟨rfl, by decide, (by decide)⟩ rfl ?_
    refine g_ar (r := w32 ((H1 81 37) - (H1 81 36))) zp278 rfl rfl rfl ?_
    refine g_ic zp278 rfl rfl ?_
    refine g_icmp zp278 rfl rfl zc5 (fun c4 => ?_) (fun c4 => ?_)
    · replace h := h.1 c4
      refine g_ic zp278 rfl rfl ?_
      refine g_putI zp278 rfl rfl rfl ⟨rfl, by decide, (by decide)⟩ rfl rfl ?_
      refine g_goto zp278 rfl ?_
      exact g_ret zp278 rfl rfl ⟨rfl, h⟩
    · replace h := h.2 c4
      refine g_ic zp278 rfl rfl ?_
      refine g_goto zp278 rfl ?_
      refine g_putI zp278 rfl rfl rfl ⟨rfl, by decide, (by decide)⟩ rfl rfl ?_
      refine g_goto zp278 rfl ?_
      exact g_ret zp278 rfl rfl ⟨rfl, h⟩
  · replace h := h.2 c3
    refine g_al zp278 rfl rfl rfl (by decide) ?_
    refine g_al zp278 rfl rfl rfl (by decide) ?_
    refine g_get (v := zI (H1 81 37)) zp278 rfl rfl rfl ⟨rfl, by decide, (by decide)⟩ rfl ?_
    refine g_al zp278 rfl rfl rfl (by decide) ?_
    refine g_get (v := zI (H1 81 36)) zp278 rfl rfl rfl ⟨rfl, by decide, (by decide)⟩ rfl ?_
    refine g_ar (r := w32 ((H1 81 37) - (H1 81 36))) zp278 rfl rfl rfl ?_
    refine g_ic zp278 rfl rfl ?_
    refine g_icmp zp278 rfl rfl zc3 (fun c5 => ?_) (fun c5 => ?_)
    · replace h := h.1 c5
      refine g_lc zp278 rfl rfl ?_
      refine g_putL zp278 rfl rfl rfl ⟨rfl, by decide, (by decide)⟩ rfl rfl ?_
      refine g_al zp278 rfl rfl rfl (by decide) ?_
      refine g_dup zp278 rfl rfl rfl ?_
      refine g_get (v := zI (H1 81 37)) zp278 rfl rfl rfl ⟨rfl, by decide, (by decide)⟩ rfl ?_
      refine g_ic zp278 rfl rfl ?_
      refine g_ar (r := w32 ((H1 81 37) + 1)) zp278 rfl rfl rfl ?_
      refine g_putI zp278 rfl rfl rfl ⟨rfl, by decide, (by decide)⟩ rfl rfl ?_
      refine g_goto zp278 rfl ?_
      exact g_weak (ls' := [zR 81]) ⟨Or.inr rfl, trivial⟩ h
    · replace h := h.2 c5
      refine g_lc zp278 rfl rfl ?_
      refine g_al zp278 rfl rfl rfl (by decide) ?_
      refine g_get (v := zL (H1 81 41)) zp278 rfl rfl rfl ⟨rfl, by decide, (by decide)⟩ rfl ?_
      refine g_lar (r := w64 (27 * (H1 81 41))) zp278 rfl rfl rfl ?_
      refine g_al zp278 rfl rfl rfl (by decide) ?_
      refine g_get (v := zR 99) zp278 rfl rfl rfl ⟨rfl, by decide, (by decide)⟩ rfl ?_
      refine g_al zp278 rfl rfl rfl (by decide) ?_
      refine g_get (v := zI (H1 81 37)) zp278 rfl rfl rfl ⟨rfl, by decide, (by decide)⟩ rfl ?_
      obtain ⟨c6, h⟩ := h
      refine g_ald (v := zI (H1 99 (H1 81 37))) zp278 rfl rfl rfl rfl c6 rfl ?_
      refine g_i2l zp278 rfl rfl ?_
      refine g_lar (r := w64 ((w64 (27 * (H1 81 41))) + (H1 99 (H1 81 37)))) zp278 rfl rfl rfl ?_
      refine g_lc zp278 rfl rfl ?_
      refine g_lar (r := w64 ((w64 ((w64 (27 * (H1 81 41))) + (H1 99 (H1 81 37)))) - 96)) zp278 rfl rfl rfl ?_
      refine g_goto zp278 rfl ?_
      refine g_putL zp278 rfl rfl rfl ⟨rfl, by decide, (by decide)⟩ rfl rfl ?_
      refine g_al zp278 rfl rfl rfl (by decide) ?_
      refine g_dup zp278 rfl rfl rfl ?_
      refine g_get (v := zI (H1 81 37)) zp278 rfl rfl rfl ⟨rfl, by decide, (by decide)⟩ rfl ?_
      refine g_ic zp278 rfl rfl ?_
      refine g_ar (r := w32 ((H1 81 37) + 1)) zp278 rfl rfl rfl ?_
      refine g_putI zp278 rfl rfl rfl ⟨rfl, by decide, (by decide)⟩ rfl rfl ?_
      refine g_goto zp278 rfl ?_
      exact g_weak (ls' := [zR 81]) ⟨Or.inr rfl, trivial⟩ h
theorem x278_254 {w : zWt} {d : Nat} {H : zHt} {K : zHt → Prop} 
    (h : zclI w d 279 [zR 81, zI (H 81 37), zI 48, zI 57] H (fun x2 H1 => (x2 = 0 → ((w32 ((H1 81 37) - (H1 81 36))) ≤ 9 → K (zup H1 81 38 2)) ∧ (9 < (w32 ((H1 81 37) - (H1 81 36))) → K (zup H1 81 38 4))) ∧ (¬ x2 = 0 → (9 ≤ (w32 ((H1 81 37) - (H1 81 36))) → zgo w (d + 1) 278 254 [zR 81] [] (zup (zup H1 81 39 (H1 81 39)) 81 37 (w32 ((H1 81 37) + 1))) (zQV K)) ∧ ((w32 ((H1 81 37) - (H1 81 36))) < 9 → (0 ≤ (H1 81 37) ∧ (H1 81 37) < 400) ∧ zgo w (d + 1) 278 254 [zR 81] [] (zup (zup H1 81 39 (w32 ((w32 ((w32 (10 * (H1 81 39))) + (H1 99 (H1 81 37)))) - 48))) 81 37 (w32 ((H1 81 37) + 1))) (zQV K))))) :
    zgo w (d + 1) 278 254 [zR 81] [] H (zQV K) := by
  refine g_al zp278 rfl rfl rfl (by decide) ?_
  refine g_al zp278 rfl rfl rfl (by decide) ?_
  refine g_get (v := zI (H 81 37)) zp278 rfl rfl rfl ⟨rfl, by decide, (by decide)⟩ rfl ?_
  refine g_ic zp278 rfl rfl ?_
  refine g_ic zp278 rfl rfl ?_
  refine g_callI (as := [zR 81, zI (H 81 37), zI 48, zI 57]) (rest := []) zp278 rfl rfl (Nat.succ_pos _) rfl rfl (Nat.le_of_ble_eq_true rfl) (Nat.le_of_ble_eq_true rfl) rfl rfl h (fun x2 H1 h => ?_)
  refine g_if zp278 rfl rfl zc0 (fun c3 => ?_) (fun c3 => ?_)
  · replace h := h.1 c3
    refine g_al zp278 rfl rfl rfl (by decide) ?_
    refine g_al zp278 rfl rfl rfl (by decide) ?_
    refine g_get (v := zI (H1 81 37)) zp278 rfl rfl rfl ⟨rfl, by decide, (by decide)⟩ rfl ?_
    refine g_al zp278 rfl rfl rfl (by decide) ?_
    refine g_get (v := zI (H1 81 36)) zp278 rfl rfl rfl ⟨rfl, by decide, (by decide)⟩ rfl ?_
    refine g_ar (r := w32 ((H1 81 37) - (H1 81 36))) zp278 rfl rfl rfl ?_
    refine g_ic zp278 rfl rfl ?_
    refine g_icmp zp278 rfl rfl zc5 (fun c4 => ?_) (fun c4 => ?_)
    · replace h := h.1 c4
      refine g_ic zp278 rfl rfl ?_
      refine g_putI zp278 rfl rfl rfl ⟨rfl, by decide, (by decide)⟩ rfl rfl ?_
      exact g_ret zp278 rfl rfl ⟨rfl, h⟩
    · replace h := h.2 c4
      refine g_ic zp278 rfl rfl ?_
      refine g_goto zp278 rfl ?_
      refine g_putI zp278 rfl rfl rfl ⟨rfl, by decide, (by decide)⟩ rfl rfl ?_
      exact g_ret zp278 rfl rfl ⟨rfl, h⟩
  · replace h := h.2 c3
    refine g_al zp278 rfl rfl rfl (by decide) ?_
    refine g_al zp278 rfl rfl rfl (by decide) ?_
    refine g_get (v := zI (H1 81 37)) zp278 rfl rfl rfl ⟨rfl, by decide, (by decide)⟩ rfl ?_
    refine g_al zp278 rfl rfl rfl (by decide) ?_
    refine g_get (v := zI (H1 81 36)) zp278 rfl rfl rfl ⟨rfl, by decide, (by decide)⟩ rfl ?_
    refine g_ar (r := w32 ((H1 81 37) - (H1 81 36))) zp278 rfl rfl rfl ?_
    refine g_ic zp278 rfl rfl ?_
    refine g_icmp zp278 rfl rfl zc3 (fun c5 => ?_) (fun c5 => ?_)
    · replace h := h.1 c5
      refine g_al zp278 rfl rfl rfl (by decide) ?_
      refine g_get (v := zI (H1 81 39)) zp278 rfl rfl rfl ⟨rfl, by decide, (by decide)⟩ rfl ?_
      refine g_putI zp278 rfl rfl rfl ⟨rfl, by decide, (by decide)⟩ rfl rfl ?_
      refine g_al zp278 rfl rfl rfl (by decide) ?_
      refine g_dup zp278 rfl rfl rfl ?_
      refine g_get (v := zI (H1 81 37)) zp278 rfl rfl rfl ⟨rfl, by decide, (by decide)⟩ rfl ?_
      refine g_ic zp278 rfl rfl ?_
      refine g_ar (r := w32 ((H1 81 37) + 1)) zp278 rfl rfl rfl ?_
      refine g_putI zp278 rfl rfl rfl ⟨rfl, by decide, (by decide)⟩ rfl rfl ?_
      refine g_goto zp278 rfl ?_
      exact g_weak (ls' := [zR 81]) ⟨Or.inr rfl, trivial⟩ h
    · replace h := h.2 c5
      refine g_ic zp278 rfl rfl ?_
      refine g_al zp278 rfl rfl rfl (by decide) ?_
      refine g_get (v := zI (H1 81 39)) zp278 rfl rfl rfl ⟨rfl, by decide, (by decide)⟩ rfl ?_
      refine g_ar (r := w32 (10 * (H1 81 39))) zp278 rfl rfl rfl ?_
      refine g_al zp278 rfl rfl rfl (by decide) ?_
      refine g_get (v := zR 99) zp278 rfl rfl rfl ⟨rfl, by decide, (by decide)⟩ rfl ?_
      refine g_al zp278 rfl rfl rfl (by decide) ?_
      refine g_get (v := zI (H1 81 37)) zp278 rfl rfl rfl ⟨rfl, by decide, (by decide)⟩ rfl ?_
      obtain ⟨c6, h⟩ := h
      refine g_ald (v := zI (H1 99 (H1 81 37))) zp278 rfl rfl rfl rfl c6 rfl ?_
      refine g_ar (r := w32 ((w32 (10 * (H1 81 39))) + (H1 99 (H1 81 37)))) zp278 rfl rfl rfl ?_
      refine g_ic zp278 rfl rfl ?_
      refine g_ar (r := w32 ((w32 ((w32 (10 * (H1 81 39))) + (H1 99 (H1 81 37)))) - 48)) zp278 rfl rfl rfl ?_
      refine g_goto zp278 rfl ?_
      refine g_putI zp278 rfl rfl rfl ⟨rfl, by decide, (by decide)⟩ rfl rfl ?_
      refine g_al zp278 rfl rfl rfl (by decide) ?_
      refine g_dup zp278 rfl rfl rfl ?_
      refine g_get (v := zI (H1 81 37)) zp278 rfl rfl rfl ⟨rfl, by decide, (by decide)⟩ rfl ?_
      refine g_ic zp278 rfl rfl ?_
      refine g_ar (r := w32 ((H1 81 37) + 1)) zp278 rfl rfl rfl ?_
      refine g_putI zp278 rfl rfl rfl ⟨rfl, by decide, (by decide)⟩ rfl rfl ?_
      refine g_goto zp278 rfl ?_
      exact g_weak (ls' := [zR 81]) ⟨Or.inr rfl, trivial⟩ h
theorem zp279 : zprog.getD 279 [] = zk279 := rfl
theorem x279_0 {w : zWt} {d : Nat} {H : zHt} {K : Int → zHt → Prop} {l1 : Int} {l2 : Int} {l3 : Int}
    (h : ((H 81 40) ≤ l1 → K 0 H) ∧ (l1 < (H 81 40) → (0 ≤ l1 ∧ l1 < 400) ∧ zclI w d 173 [zL (H 99 l1), zL l2, zL l3] H (fun x4 H3 => (x4 = 0 → K 0 H3) ∧ (¬ x4 = 0 → K 1 H3)))) :
    zclI w (d + 1) 279 [zR 81, zI l1, zI l2, zI l3] H K := by
  show zgo w (d + 1) 279 0 [zR 81, zI l1, zI l2, zI l3] [] H (zQI K)
  refine g_il zp279 rfl rfl rfl ?_
  refine g_al zp279 rfl rfl rfl (by decide) ?_
  refine g_get (v := zI (H 81 40)) zp279 rfl rfl rfl ⟨rfl, by decide, (by decide)⟩ rfl ?_
  refine g_icmp zp279 rfl rfl zc3 (fun c1 => ?_) (fun c1 => ?_)
  · replace h := h.1 c1
    refine g_ic zp279 rfl rfl ?_
    exact g_ret zp279 rfl (zret_b (by decide)) ⟨_, rfl, h⟩
  · replace h := h.2 c1
    refine g_al zp279 rfl rfl rfl (by decide) ?_
    refine g_get (v := zR 99) zp279 rfl rfl rfl ⟨rfl, by decide, (by decide)⟩ rfl ?_
    refine g_il zp279 rfl rfl rfl ?_
    obtain ⟨c2, h⟩ := h
    refine g_ald (v := zI (H 99 l1)) zp279 rfl rfl rfl rfl c2 rfl ?_
    refine g_i2l zp279 rfl rfl ?_
    refine g_il zp279 rfl rfl rfl ?_
    refine g_i2l zp279 rfl rfl ?_
    refine g_il zp279 rfl rfl rfl ?_
    refine g_i2l zp279 rfl rfl ?_
    refine g_callI (as := [zL (H 99 l1), zL l2, zL l3]) (rest := []) zp279 rfl rfl (Nat.succ_pos _) rfl rfl (Nat.le_of_ble_eq_true rfl) (Nat.le_of_ble_eq_true rfl) rfl rfl h (fun x4 H3 h => ?_)
    refine g_if zp279 rfl rfl zc0 (fun c5 => ?_) (fun c5 => ?_)
    · replace h := h.1 c5
      refine g_ic zp279 rfl rfl ?_
      exact g_ret zp279 rfl (zret_b (by decide)) ⟨_, rfl, h⟩
    · replace h := h.2 c5
      refine g_ic zp279 rfl rfl ?_
      refine g_goto zp279 rfl ?_
      exact g_ret zp279 rfl (zret_b (by decide)) ⟨_, rfl, h⟩
theorem zp280 : zprog.getD 280 [] = zk280 := rfl
theorem x280_0 {w : zWt} {d : Nat} {H : zHt} {K : Int → zHt → Prop} 
    (h : (¬ (H 81 34) = 0 → K 0 H) ∧ ((H 81 34) = 0 → K 1 H)) :
    zclI w d 280 [zR 81] H K := by
  show zgo w d 280 0 [zR 81] [] H (zQI K)
  refine g_al zp280 rfl rfl rfl (by decide) ?_
  refine g_get (v := zI (H 81 34)) zp280 rfl rfl rfl ⟨rfl, by decide, (by decide)⟩ rfl ?_
  refine g_if zp280 rfl rfl zc1 (fun c1 => ?_) (fun c1 => ?_)
  · replace h := h.1 c1
    refine g_ic zp280 rfl rfl ?_
    exact g_ret zp280 rfl (zret_b (by decide)) ⟨_, rfl, h⟩
  · replace h := h.2 c1
    refine g_ic zp280 rfl rfl ?_
    refine g_goto zp280 rfl ?_
    exact g_ret zp280 rfl (zret_b (by decide)) ⟨_, rfl, h⟩
theorem zp281 : zprog.getD 281 [] = zk281 := rfl
theorem x281_0 {w : zWt} {d : Nat} {H : zHt} {K : zHt → Prop} 
    (h : zclI w d 282 [zR 81, zI 0] H (fun x2 H1 => (x2 = 0 → zclI w d 282 [zR 81, zI 1] H1 (fun x5 H4 => (¬ x5 = 0 → zclI w d 282 [zR 81, zI 1] H4 (fun x8 H7 => (x8 = 0 → zgo w (d + 1) 281 44 [zR 81, zJ] [zI 1] H7 (zQV K)) ∧ (¬ x8 = 0 → zgo w (d + 1) 281 44 [zR 81, zJ] [zI 0] H7 (zQV K)))) ∧ (x5 = 0 → zclI w d 282 [zR 81, zI 2] H4 (fun x11 H10 => (x11 = 0 → zclI w d 282 [zR 81, zI 3] H10 (fun x14 H13 => zclV w d 284 [zR 81, zI x14, zI 2] H13 (fun H15 => zclV w d 285 [zR 81] H15 (fun H17 => zclV w d 288 [zR 81] H17 (fun H19 => (¬ (H19 81 38) = 3 → zclV w d 284 [zR 81, zI 0, zI 2] H19 (fun H22 => zclV w d 285 [zR 81] H22 (fun H24 => K H24))) ∧ ((H19 81 38) = 3 → zclV w d 284 [zR 81, zI 1, zI 2] H19 (fun H26 => zclV w d 285 [zR 81] H26 (fun H28 => K H28)))))))) ∧ (¬ x11 = 0 → zclI w d 282 [zR 81, zI 1] H10 (fun x31 H30 => (x31 = 0 → zgo w (d + 1) 281 44 [zR 81, zJ] [zI 1] H30 (zQV K)) ∧ (¬ x31 = 0 → zgo w (d + 1) 281 44 [zR 81, zJ] [zI 0] H30 (zQV K)))))))) ∧ (¬ x2 = 0 → zclV w d 283 [zR 81] H1 (fun H33 => (¬ (H33 81 38) = 3 → zclV w d 284 [zR 81, zI 0, zI 2] H33 (fun H36 => zclV w d 285 [zR 81] H36 (fun H38 => K H38))) ∧ ((H33 81 38) = 3 → zclV w d 284 [zR 81, zI 1, zI 2] H33 (fun H40 => zclV w d 285 [zR 81] H40 (fun H42 => K H42))))))) :
    zclV w (d + 1) 281 [zR 81] H K := by
  show zgo w (d + 1) 281 0 [zR 81, zJ] [] H (zQV K)
  refine g_al zp281 rfl rfl rfl (by decide) ?_
  refine g_ic zp281 rfl rfl ?_
  refine g_callI (as := [zR 81, zI 0]) (rest := []) zp281 rfl rfl (Nat.succ_pos _) rfl rfl (Nat.le_of_ble_eq_true rfl) (Nat.le_of_ble_eq_true rfl) rfl rfl h (fun x2 H1 h => ?_)
  refine g_if zp281 rfl rfl zc0 (fun c3 => ?_) (fun c3 => ?_)
  · replace h := h.1 c3
    refine g_al zp281 rfl rfl rfl (by decide) ?_
    refine g_ic zp281 rfl rfl ?_
    refine g_callI (as := [zR 81, zI 1]) (rest := []) zp281 rfl rfl (Nat.succ_pos _) rfl rfl (Nat.le_of_ble_eq_true rfl) (Nat.le_of_ble_eq_true rfl) rfl rfl h (fun x5 H4 h => ?_)
    refine g_if zp281 rfl rfl zc1 (fun c6 => ?_) (fun c6 => ?_)
    · replace h := h.1 c6
      refine g_al zp281 rfl rfl rfl (by decide) ?_
      refine g_ic zp281 rfl rfl ?_
      refine g_callI (as := [zR 81, zI 1]) (rest := []) zp281 rfl rfl (Nat.succ_pos _) rfl rfl (Nat.le_of_ble_eq_true rfl) (Nat.le_of_ble_eq_true rfl) rfl rfl h (fun x8 H7 h => ?_)
      refine g_if zp281 rfl rfl zc0 (fun c9 => ?_) (fun c9 => ?_)
      · replace h := h.1 c9
        refine g_ic zp281 rfl rfl ?_
        exact g_weak (ls' := [zR 81, zJ]) ⟨Or.inr rfl, Or.inr rfl, trivial⟩ h
      · replace h := h.2 c9
        refine g_ic zp281 rfl rfl ?_
        refine g_goto zp281 rfl ?_
        exact g_weak (ls' := [zR 81, zJ]) ⟨Or.inr rfl, Or.inr rfl, trivial⟩ h
    · replace h := h.2 c6
      refine g_al zp281 rfl rfl rfl (by decide) ?_
      refine g_ic zp281 rfl rfl ?_
      refine g_callI (as := [zR 81, zI 2]) (rest := []) zp281 rfl rfl (Nat.succ_pos _) rfl rfl (Nat.le_of_ble_eq_true rfl) (Nat.le_of_ble_eq_true rfl) rfl rfl h (fun x11 H10 h => ?_)
      refine g_if zp281 rfl rfl zc0 (fun c12 => ?_) (fun c12 => ?_)
      · replace h := h.1 c12
        refine g_al zp281 rfl rfl rfl (by decide) ?_
        refine g_al zp281 rfl rfl rfl (by decide) ?_
        refine g_ic zp281 rfl rfl ?_
        refine g_callI (as := [zR 81, zI 3]) (rest := [zR 81]) zp281 rfl rfl (Nat.succ_pos _) rfl rfl (Nat.le_of_ble_eq_true rfl) (Nat.le_of_ble_eq_true rfl) rfl rfl h (fun x14 H13 h => ?_)
        refine g_ic zp281 rfl rfl ?_
        refine g_callV (as := [zR 81, zI x14, zI 2]) (rest := []) zp281 rfl rfl (Nat.succ_pos _) rfl rfl (Nat.le_of_ble_eq_true rfl) (Nat.le_of_ble_eq_true rfl) rfl rfl h (fun H15 h => ?_)
        refine g_al zp281 rfl rfl rfl (by decide) ?_
        refine g_callV (as := [zR 81]) (rest := []) zp281 rfl rfl (Nat.succ_pos _) rfl rfl (Nat.le_of_ble_eq_true rfl) (Nat.le_of_ble_eq_true rfl) rfl rfl h (fun H17 h => ?_)
        refine g_al zp281 rfl rfl rfl (by decide) ?_
        refine g_callV (as := [zR 81]) (rest := []) zp281 rfl rfl (Nat.succ_pos _) rfl rfl (Nat.le_of_ble_eq_true rfl) (Nat.le_of_ble_eq_true rfl) rfl rfl h (fun H19 h => ?_)
        refine g_al zp281 rfl rfl rfl (by decide) ?_
        refine g_al zp281 rfl rfl rfl (by decide) ?_
        refine g_get (v := zI (H19 81 38)) zp281 rfl rfl rfl ⟨rfl, by decide, (by decide)⟩ rfl ?_
        refine g_ic zp281 rfl rfl ?_
        refine g_icmp zp281 rfl rfl zc1 (fun c21 => ?_) (fun c21 => ?_)
        · replace h := h.1 c21
          refine g_ic zp281 rfl rfl ?_
          refine g_ic zp281 rfl rfl ?_
          refine g_callV (as := [zR 81, zI 0, zI 2]) (rest := []) zp281 rfl rfl (Nat.succ_pos _) rfl rfl (Nat.le_of_ble_eq_true rfl) (Nat.le_of_ble_eq_true rfl) rfl rfl h (fun H22 h => ?_)
          refine g_al zp281 rfl rfl rfl (by decide) ?_
          refine g_callV (as := [zR 81]) (rest := []) zp281 rfl rfl (Nat.succ_pos _) rfl rfl (Nat.le_of_ble_eq_true rfl) (Nat.le_of_ble_eq_true rfl) rfl rfl h (fun H24 h => ?_)
          exact g_ret zp281 rfl rfl ⟨rfl, h⟩
        · replace h := h.2 c21
          refine g_ic zp281 rfl rfl ?_
          refine g_goto zp281 rfl ?_
          refine g_ic zp281 rfl rfl ?_
          refine g_callV (as := [zR 81, zI 1, zI 2]) (rest := []) zp281 rfl rfl (Nat.succ_pos _) rfl rfl (Nat.le_of_ble_eq_true rfl) (Nat.le_of_ble_eq_true rfl) rfl rfl h (fun H26 h => ?_)
          refine g_al zp281 rfl rfl rfl (by decide) ?_
          refine g_callV (as := [zR 81]) (rest := []) zp281 rfl rfl (Nat.succ_pos _) rfl rfl (Nat.le_of_ble_eq_true rfl) (Nat.le_of_ble_eq_true rfl) rfl rfl h (fun H28 h => ?_)
          exact g_ret zp281 rfl rfl ⟨rfl, h⟩
      · replace h := h.2 c12
        refine g_al zp281 rfl rfl rfl (by decide) ?_
        refine g_ic zp281 rfl rfl ?_
        refine g_callI (as := [zR 81, zI 1]) (rest := []) zp281 rfl rfl (Nat.succ_pos _) rfl rfl (Nat.le_of_ble_eq_true rfl) (Nat.le_of_ble_eq_true rfl) rfl rfl h (fun x31 H30 h => ?_)
        refine g_if zp281 rfl rfl zc0 (fun c32 => ?_) (fun c32 => ?_)
        · replace h := h.1 c32
          refine g_ic zp281 rfl rfl ?_
          exact g_weak (ls' := [zR 81, zJ]) ⟨Or.inr rfl, Or.inr rfl, trivial⟩ h
        · replace h := h.2 c32
          refine g_ic zp281 rfl rfl ?_
          refine g_goto zp281 rfl ?_
          exact g_weak (ls' := [zR 81, zJ]) ⟨Or.inr rfl, Or.inr rfl, trivial⟩ h
  · replace h := h.2 c3
    refine g_al zp281 rfl rfl rfl (by decide) ?_
    refine g_callV (as := [zR 81]) (rest := []) zp281 rfl rfl (Nat.succ_pos _) rfl rfl (Nat.le_of_ble_eq_true rfl) (Nat.le_of_ble_eq_true rfl) rfl rfl h (fun H33 h => ?_)
    refine g_goto zp281 rfl ?_
    refine g_al zp281 rfl rfl rfl (by decide) ?_
    refine g_al zp281 rfl rfl rfl (by decide) ?_
    refine g_get (v := zI (H33 81 38)) zp281 rfl rfl rfl ⟨rfl, by decide, (by decide)⟩ rfl ?_
    refine g_ic zp281 rfl rfl ?_
    refine g_icmp zp281 rfl rfl zc1 (fun c35 => ?_) (fun c35 => ?_)
    · replace h := h.1 c35
      refine g_ic zp281 rfl rfl ?_
      refine g_ic zp281 rfl rfl ?_
      refine g_callV (as := [zR 81, zI 0, zI 2]) (rest := []) zp281 rfl rfl (Nat.succ_pos _) rfl rfl (Nat.le_of_ble_eq_true rfl) (Nat.le_of_ble_eq_true rfl) rfl rfl h (fun H36 h => ?_)
      refine g_al zp281 rfl rfl rfl (by decide) ?_
      refine g_callV (as := [zR 81]) (rest := []) zp281 rfl rfl (Nat.succ_pos _) rfl rfl (Nat.le_of_ble_eq_true rfl) (Nat.le_of_ble_eq_true rfl) rfl rfl h (fun H38 h => ?_)
      exact g_ret zp281 rfl rfl ⟨rfl, h⟩
    · replace h := h.2 c35
      refine g_ic zp281 rfl rfl ?_
      refine g_goto zp281 rfl ?_
      refine g_ic zp281 rfl rfl ?_
      refine g_callV (as := [zR 81, zI 1, zI 2]) (rest := []) zp281 rfl rfl (Nat.succ_pos _) rfl rfl (Nat.le_of_ble_eq_true rfl) (Nat.le_of_ble_eq_true rfl) rfl rfl h (fun H40 h => ?_)
      refine g_al zp281 rfl rfl rfl (by decide) ?_
      refine g_callV (as := [zR 81]) (rest := []) zp281 rfl rfl (Nat.succ_pos _) rfl rfl (Nat.le_of_ble_eq_true rfl) (Nat.le_of_ble_eq_true rfl) rfl rfl h (fun H42 h => ?_)
      exact g_ret zp281 rfl rfl ⟨rfl, h⟩
theorem x281_44 {w : zWt} {d : Nat} {H : zHt} {K : zHt → Prop} {s0 : Int}
    (h : zclV w d 285 [zR 81] H (fun H1 => zclI w d 268 [zI s0] H1 (fun x4 H3 => zclI w d 287 [zR 81, zI x4] H3 (fun x6 H5 => (0 ≤ (w32 (7 + s0)) ∧ (w32 (7 + s0)) < 10) ∧ (¬ (H5 81 38) = 3 → zclV w d 284 [zR 81, zI 0, zI 2] (zup H5 83 (w32 (7 + s0)) x6) (fun H9 => zclV w d 285 [zR 81] H9 (fun H11 => K H11))) ∧ ((H5 81 38) = 3 → zclV w d 284 [zR 81, zI 1, zI 2] (zup H5 83 (w32 (7 + s0)) x6) (fun H13 => zclV w d 285 [zR 81] H13 (fun H15 => K H15))))))) :
    zgo w (d + 1) 281 44 [zR 81, zJ] [zI s0] H (zQV K) := by
  refine g_is (ls' := [zR 81, zI s0]) zp281 rfl rfl (Nat.le_of_ble_eq_true rfl) rfl ?_
  refine g_al zp281 rfl rfl rfl (by decide) ?_
  refine g_callV (as := [zR 81]) (rest := []) zp281 rfl rfl (Nat.succ_pos _) rfl rfl (Nat.le_of_ble_eq_true rfl) (Nat.le_of_ble_eq_true rfl) rfl rfl h (fun H1 h => ?_)
  refine g_al zp281 rfl rfl rfl (by decide) ?_
  refine g_get (v := zR 83) zp281 rfl rfl rfl ⟨rfl, by decide, (by decide)⟩ rfl ?_
  refine g_ic zp281 rfl rfl ?_
  refine g_il zp281 rfl rfl rfl ?_
  refine g_ar (r := w32 (7 + s0)) zp281 rfl rfl rfl ?_
  refine g_al zp281 rfl rfl rfl (by decide) ?_
  refine g_il zp281 rfl rfl rfl ?_
  refine g_callI (as := [zI s0]) (rest := [zR 81, zI (w32 (7 + s0)), zR 83]) zp281 rfl rfl (Nat.succ_pos _) rfl rfl (Nat.le_of_ble_eq_true rfl) (Nat.le_of_ble_eq_true rfl) rfl rfl h (fun x4 H3 h => ?_)
  refine g_callI (as := [zR 81, zI x4]) (rest := [zI (w32 (7 + s0)), zR 83]) zp281 rfl rfl (Nat.succ_pos _) rfl rfl (Nat.le_of_ble_eq_true rfl) (Nat.le_of_ble_eq_true rfl) rfl rfl h (fun x6 H5 h => ?_)
  obtain ⟨c7, h⟩ := h
  refine g_iast zp281 rfl rfl rfl (by decide) rfl c7 ?_
  refine g_goto zp281 rfl ?_
  refine g_al zp281 rfl rfl rfl (by decide) ?_
  refine g_al zp281 rfl rfl rfl (by decide) ?_
  refine g_get (v := zI (H5 81 38)) zp281 rfl rfl rfl ⟨rfl, by decide, (by decide)⟩ rfl ?_
  refine g_ic zp281 rfl rfl ?_
  refine g_icmp zp281 rfl rfl zc1 (fun c8 => ?_) (fun c8 => ?_)
  · replace h := h.1 c8
    refine g_ic zp281 rfl rfl ?_
    refine g_ic zp281 rfl rfl ?_
    refine g_callV (as := [zR 81, zI 0, zI 2]) (rest := []) zp281 rfl rfl (Nat.succ_pos _) rfl rfl (Nat.le_of_ble_eq_true rfl) (Nat.le_of_ble_eq_true rfl) rfl rfl h (fun H9 h => ?_)
    refine g_al zp281 rfl rfl rfl (by decide) ?_
    refine g_callV (as := [zR 81]) (rest := []) zp281 rfl rfl (Nat.succ_pos _) rfl rfl (Nat.le_of_ble_eq_true rfl) (Nat.le_of_ble_eq_true rfl) rfl rfl h (fun H11 h => ?_)
    exact g_ret zp281 rfl rfl ⟨rfl, h⟩
  · replace h := h.2 c8
    refine g_ic zp281 rfl rfl ?_
    refine g_goto zp281 rfl ?_
    refine g_ic zp281 rfl rfl ?_
    refine g_callV (as := [zR 81, zI 1, zI 2]) (rest := []) zp281 rfl rfl (Nat.succ_pos _) rfl rfl (Nat.le_of_ble_eq_true rfl) (Nat.le_of_ble_eq_true rfl) rfl rfl h (fun H13 h => ?_)
    refine g_al zp281 rfl rfl rfl (by decide) ?_
    refine g_callV (as := [zR 81]) (rest := []) zp281 rfl rfl (Nat.succ_pos _) rfl rfl (Nat.le_of_ble_eq_true rfl) (Nat.le_of_ble_eq_true rfl) rfl rfl h (fun H15 h => ?_)
    exact g_ret zp281 rfl rfl ⟨rfl, h⟩
theorem zp282 : zprog.getD 282 [] = zk282 := rfl
theorem x282_0 {w : zWt} {d : Nat} {H : zHt} {K : Int → zHt → Prop} {l1 : Int}
    (h : zclI w d 280 [zR 81] H (fun x2 H1 => (x2 = 0 → K 0 H1) ∧ (¬ x2 = 0 → (¬ (H1 81 38) = 1 → K 0 H1) ∧ ((H1 81 38) = 1 → (0 ≤ l1 ∧ l1 < 8) ∧ (¬ (H1 81 41) = (H1 101 l1) → K 0 H1) ∧ ((H1 81 41) = (H1 101 l1) → K 1 H1))))) :
    zclI w (d + 1) 282 [zR 81, zI l1] H K := by
  show zgo w (d + 1) 282 0 [zR 81, zI l1] [] H (zQI K)
  refine g_al zp282 rfl rfl rfl (by decide) ?_
  refine g_callI (as := [zR 81]) (rest := []) zp282 rfl rfl (Nat.succ_pos _) rfl rfl (Nat.le_of_ble_eq_true rfl) (Nat.le_of_ble_eq_true rfl) rfl rfl h (fun x2 H1 h => ?_)
  refine g_if zp282 rfl rfl zc0 (fun c3 => ?_) (fun c3 => ?_)
  · replace h := h.1 c3
    refine g_ic zp282 rfl rfl ?_
    exact g_ret zp282 rfl (zret_b (by decide)) ⟨_, rfl, h⟩
  · replace h := h.2 c3
    refine g_al zp282 rfl rfl rfl (by decide) ?_
    refine g_get (v := zI (H1 81 38)) zp282 rfl rfl rfl ⟨rfl, by decide, (by decide)⟩ rfl ?_
    refine g_ic zp282 rfl rfl ?_
    refine g_icmp zp282 rfl rfl zc1 (fun c4 => ?_) (fun c4 => ?_)
    · replace h := h.1 c4
      refine g_ic zp282 rfl rfl ?_
      exact g_ret zp282 rfl (zret_b (by decide)) ⟨_, rfl, h⟩
    · replace h := h.2 c4
      refine g_al zp282 rfl rfl rfl (by decide) ?_
      refine g_get (v := zL (H1 81 41)) zp282 rfl rfl rfl ⟨rfl, by decide, (by decide)⟩ rfl ?_
      refine g_al zp282 rfl rfl rfl (by decide) ?_
      refine g_get (v := zR 101) zp282 rfl rfl rfl ⟨rfl, by decide, (by decide)⟩ rfl ?_
      refine g_il zp282 rfl rfl rfl ?_
      obtain ⟨c5, h⟩ := h
      refine g_ald (v := zL (H1 101 l1)) zp282 rfl rfl rfl rfl c5 rfl ?_
      refine g_lcmp zp282 rfl rfl rfl rfl zc1 (fun c6 => ?_) (fun c6 => ?_)
      · replace h := h.1 c6
        refine g_ic zp282 rfl rfl ?_
        exact g_ret zp282 rfl (zret_b (by decide)) ⟨_, rfl, h⟩
      · replace h := h.2 c6
        refine g_ic zp282 rfl rfl ?_
        refine g_goto zp282 rfl ?_
        exact g_ret zp282 rfl (zret_b (by decide)) ⟨_, rfl, h⟩
theorem zp283 : zprog.getD 283 [] = zk283 := rfl
theorem x283_0 {w : zWt} {d : Nat} {H : zHt} {K : zHt → Prop} 
    (h : (6 ≤ (H 83 6) → zclV w d 284 [zR 81, zI 0, zI 5] H (fun H2 => zclV w d 285 [zR 81] H2 (fun H4 => zclI w d 286 [zR 81] H4 (fun x7 H6 => zclV w d 284 [zR 81, zI x7, zI 2] H6 (fun H8 => zgo w (d + 1) 283 39 [zR 81, zI (H 83 6), zI 0] [] H8 (zQV K)))))) ∧ ((H 83 6) < 6 → zclV w d 284 [zR 81, zI 1, zI 5] H (fun H10 => zclV w d 285 [zR 81] H10 (fun H12 => zclI w d 286 [zR 81] H12 (fun x15 H14 => zclV w d 284 [zR 81, zI x15, zI 2] H14 (fun H16 => zgo w (d + 1) 283 39 [zR 81, zI (H 83 6), zI 0] [] H16 (zQV K))))))) :
    zclV w (d + 1) 283 [zR 81] H K := by
  show zgo w (d + 1) 283 0 [zR 81, zJ, zJ] [] H (zQV K)
  refine g_al zp283 rfl rfl rfl (by decide) ?_
  refine g_get (v := zR 83) zp283 rfl rfl rfl ⟨rfl, by decide, (by decide)⟩ rfl ?_
  refine g_ic zp283 rfl rfl ?_
  refine g_ald (v := zI (H 83 6)) zp283 rfl rfl rfl rfl (by decide) rfl ?_
  refine g_is (ls' := [zR 81, zI (H 83 6), zJ]) zp283 rfl rfl (Nat.le_of_ble_eq_true rfl) rfl ?_
  refine g_al zp283 rfl rfl rfl (by decide) ?_
  refine g_il zp283 rfl rfl rfl ?_
  refine g_ic zp283 rfl rfl ?_
  refine g_icmp zp283 rfl rfl zc3 (fun c1 => ?_) (fun c1 => ?_)
  · replace h := h.1 c1
    refine g_ic zp283 rfl rfl ?_
    refine g_ic zp283 rfl rfl ?_
    refine g_callV (as := [zR 81, zI 0, zI 5]) (rest := []) zp283 rfl rfl (Nat.succ_pos _) rfl rfl (Nat.le_of_ble_eq_true rfl) (Nat.le_of_ble_eq_true rfl) rfl rfl h (fun H2 h => ?_)
    refine g_al zp283 rfl rfl rfl (by decide) ?_
    refine g_callV (as := [zR 81]) (rest := []) zp283 rfl rfl (Nat.succ_pos _) rfl rfl (Nat.le_of_ble_eq_true rfl) (Nat.le_of_ble_eq_true rfl) rfl rfl h (fun H4 h => ?_)
    refine g_al zp283 rfl rfl rfl (by decide) ?_
    refine g_al zp283 rfl rfl rfl (by decide) ?_
    refine g_callI (as := [zR 81]) (rest := [zR 81]) zp283 rfl rfl (Nat.succ_pos _) rfl rfl (Nat.le_of_ble_eq_true rfl) (Nat.le_of_ble_eq_true rfl) rfl rfl h (fun x7 H6 h => ?_)
    refine g_ic zp283 rfl rfl ?_
    refine g_callV (as := [zR 81, zI x7, zI 2]) (rest := []) zp283 rfl rfl (Nat.succ_pos _) rfl rfl (Nat.le_of_ble_eq_true rfl) (Nat.le_of_ble_eq_true rfl) rfl rfl h (fun H8 h => ?_)
    refine g_ic zp283 rfl rfl ?_
    refine g_is (ls' := [zR 81, zI (H 83 6), zI 0]) zp283 rfl rfl (Nat.le_of_ble_eq_true rfl) rfl ?_
    exact g_weak (ls' := [zR 81, zI (H 83 6), zI 0]) ⟨Or.inr rfl, Or.inr rfl, Or.inr rfl, trivial⟩ h
  · replace h := h.2 c1
    refine g_ic zp283 rfl rfl ?_
    refine g_goto zp283 rfl ?_
    refine g_ic zp283 rfl rfl ?_
    refine g_callV (as := [zR 81, zI 1, zI 5]) (rest := []) zp283 rfl rfl (Nat.succ_pos _) rfl rfl (Nat.le_of_ble_eq_true rfl) (Nat.le_of_ble_eq_true rfl) rfl rfl h (fun H10 h => ?_)
    refine g_al zp283 rfl rfl rfl (by decide) ?_
    refine g_callV (as := [zR 81]) (rest := []) zp283 rfl rfl (Nat.succ_pos _) rfl rfl (Nat.le_of_ble_eq_true rfl) (Nat.le_of_ble_eq_true rfl) rfl rfl h (fun H12 h => ?_)
    refine g_al zp283 rfl rfl rfl (by decide) ?_
    refine g_al zp283 rfl rfl rfl (by decide) ?_
    refine g_callI (as := [zR 81]) (rest := [zR 81]) zp283 rfl rfl (Nat.succ_pos _) rfl rfl (Nat.le_of_ble_eq_true rfl) (Nat.le_of_ble_eq_true rfl) rfl rfl h (fun x15 H14 h => ?_)
    refine g_ic zp283 rfl rfl ?_
    refine g_callV (as := [zR 81, zI x15, zI 2]) (rest := []) zp283 rfl rfl (Nat.succ_pos _) rfl rfl (Nat.le_of_ble_eq_true rfl) (Nat.le_of_ble_eq_true rfl) rfl rfl h (fun H16 h => ?_)
    refine g_ic zp283 rfl rfl ?_
    refine g_is (ls' := [zR 81, zI (H 83 6), zI 0]) zp283 rfl rfl (Nat.le_of_ble_eq_true rfl) rfl ?_
    exact g_weak (ls' := [zR 81, zI (H 83 6), zI 0]) ⟨Or.inr rfl, Or.inr rfl, Or.inr rfl, trivial⟩ h
theorem x283_39 {w : zWt} {d : Nat} {H : zHt} {K : zHt → Prop} {l1 : Int} {l2 : Int}
    (h : (l1 ≤ l2 → zgo w (d + 1) 283 81 [zR 81, zI l1, zJ] [] H (zQV K)) ∧ (l2 < l1 → zclI w d 280 [zR 81] H (fun x3 H2 => (x3 = 0 → zgo w (d + 1) 283 81 [zR 81, zI l1, zJ] [] H2 (zQV K)) ∧ (¬ x3 = 0 → (0 ≤ l2 ∧ l2 < 6) ∧ ((H2 100 l2) = (H2 81 41) → zclV w d 284 [zR 81, zI 0, zI 4] H2 (fun H7 => zgo w (d + 1) 283 39 [zR 81, zI l1, zI (w32 (l2 + 1))] [] H7 (zQV K))) ∧ (¬ (H2 100 l2) = (H2 81 41) → zclV w d 284 [zR 81, zI 1, zI 4] H2 (fun H9 => zgo w (d + 1) 283 39 [zR 81, zI l1, zI (w32 (l2 + 1))] [] H9 (zQV K))))))) :
    zgo w (d + 1) 283 39 [zR 81, zI l1, zI l2] [] H (zQV K) := by
  refine g_il zp283 rfl rfl rfl ?_
  refine g_il zp283 rfl rfl rfl ?_
  refine g_icmp zp283 rfl rfl zc3 (fun c1 => ?_) (fun c1 => ?_)
  · replace h := h.1 c1
    exact g_weak (ls' := [zR 81, zI l1, zJ]) ⟨Or.inr rfl, Or.inr rfl, Or.inl rfl, trivial⟩ h
  · replace h := h.2 c1
    refine g_al zp283 rfl rfl rfl (by decide) ?_
    refine g_callI (as := [zR 81]) (rest := []) zp283 rfl rfl (Nat.succ_pos _) rfl rfl (Nat.le_of_ble_eq_true rfl) (Nat.le_of_ble_eq_true rfl) rfl rfl h (fun x3 H2 h => ?_)
    refine g_if zp283 rfl rfl zc0 (fun c4 => ?_) (fun c4 => ?_)
    · replace h := h.1 c4
      exact g_weak (ls' := [zR 81, zI l1, zJ]) ⟨Or.inr rfl, Or.inr rfl, Or.inl rfl, trivial⟩ h
    · replace h := h.2 c4
      refine g_al zp283 rfl rfl rfl (by decide) ?_
      refine g_al zp283 rfl rfl rfl (by decide) ?_
      refine g_get (v := zR 100) zp283 rfl rfl rfl ⟨rfl, by decide, (by decide)⟩ rfl ?_
      refine g_il zp283 rfl rfl rfl ?_
      obtain ⟨c5, h⟩ := h
      refine g_ald (v := zL (H2 100 l2)) zp283 rfl rfl rfl rfl c5 rfl ?_
      refine g_al zp283 rfl rfl rfl (by decide) ?_
      refine g_get (v := zL (H2 81 41)) zp283 rfl rfl rfl ⟨rfl, by decide, (by decide)⟩ rfl ?_
      refine g_lcmp zp283 rfl rfl rfl rfl zc0 (fun c6 => ?_) (fun c6 => ?_)
      · replace h := h.1 c6
        refine g_ic zp283 rfl rfl ?_
        refine g_ic zp283 rfl rfl ?_
        refine g_callV (as := [zR 81, zI 0, zI 4]) (rest := []) zp283 rfl rfl (Nat.succ_pos _) rfl rfl (Nat.le_of_ble_eq_true rfl) (Nat.le_of_ble_eq_true rfl) rfl rfl h (fun H7 h => ?_)
        refine g_inc (ls' := [zR 81, zI l1, zI (w32 (l2 + 1))]) zp283 rfl rfl rfl rfl ?_
        refine g_goto zp283 rfl ?_
        exact g_weak (ls' := [zR 81, zI l1, zI (w32 (l2 + 1))]) ⟨Or.inr rfl, Or.inr rfl, Or.inr rfl, trivial⟩ h
      · replace h := h.2 c6
        refine g_ic zp283 rfl rfl ?_
        refine g_goto zp283 rfl ?_
        refine g_ic zp283 rfl rfl ?_
        refine g_callV (as := [zR 81, zI 1, zI 4]) (rest := []) zp283 rfl rfl (Nat.succ_pos _) rfl rfl (Nat.le_of_ble_eq_true rfl) (Nat.le_of_ble_eq_true rfl) rfl rfl h (fun H9 h => ?_)
        refine g_inc (ls' := [zR 81, zI l1, zI (w32 (l2 + 1))]) zp283 rfl rfl rfl rfl ?_
        refine g_goto zp283 rfl ?_
        exact g_weak (ls' := [zR 81, zI l1, zI (w32 (l2 + 1))]) ⟨Or.inr rfl, Or.inr rfl, Or.inr rfl, trivial⟩ h
theorem x283_81 {w : zWt} {d : Nat} {H : zHt} {K : zHt → Prop} {l1 : Int}
    (h : zclI w d 280 [zR 81] H (fun x2 H1 => (¬ x2 = 0 → (0 ≤ l1 ∧ l1 < 6) ∧ zclV w d 278 [zR 81] (zup H1 100 l1 (H1 81 41)) (fun H5 => zclI w d 287 [zR 81, zI 999999999] H5 (fun x8 H7 => (0 ≤ l1 ∧ l1 < 10) ∧ K (zup (zup H7 83 l1 x8) 83 6 (w32 (((zup H7 83 l1 x8) 83 6) + 1)))))) ∧ (x2 = 0 → K H1))) :
    zgo w (d + 1) 283 81 [zR 81, zI l1, zJ] [] H (zQV K) := by
  refine g_al zp283 rfl rfl rfl (by decide) ?_
  refine g_callI (as := [zR 81]) (rest := []) zp283 rfl rfl (Nat.succ_pos _) rfl rfl (Nat.le_of_ble_eq_true rfl) (Nat.le_of_ble_eq_true rfl) rfl rfl h (fun x2 H1 h => ?_)
  refine g_if zp283 rfl rfl zc1 (fun c3 => ?_) (fun c3 => ?_)
  · replace h := h.1 c3
    refine g_al zp283 rfl rfl rfl (by decide) ?_
    refine g_get (v := zR 100) zp283 rfl rfl rfl ⟨rfl, by decide, (by decide)⟩ rfl ?_
    refine g_il zp283 rfl rfl rfl ?_
    refine g_al zp283 rfl rfl rfl (by decide) ?_
    refine g_get (v := zL (H1 81 41)) zp283 rfl rfl rfl ⟨rfl, by decide, (by decide)⟩ rfl ?_
    obtain ⟨c4, h⟩ := h
    refine g_last zp283 rfl rfl rfl (by decide) rfl c4 ?_
    refine g_al zp283 rfl rfl rfl (by decide) ?_
    refine g_callV (as := [zR 81]) (rest := []) zp283 rfl rfl (Nat.succ_pos _) rfl rfl (Nat.le_of_ble_eq_true rfl) (Nat.le_of_ble_eq_true rfl) rfl rfl h (fun H5 h => ?_)
    refine g_al zp283 rfl rfl rfl (by decide) ?_
    refine g_get (v := zR 83) zp283 rfl rfl rfl ⟨rfl, by decide, (by decide)⟩ rfl ?_
    refine g_il zp283 rfl rfl rfl ?_
    refine g_al zp283 rfl rfl rfl (by decide) ?_
    refine g_ic zp283 rfl rfl ?_
    refine g_callI (as := [zR 81, zI 999999999]) (rest := [zI l1, zR 83]) zp283 rfl rfl (Nat.succ_pos _) rfl rfl (Nat.le_of_ble_eq_true rfl) (Nat.le_of_ble_eq_true rfl) rfl rfl h (fun x8 H7 h => ?_)
    obtain ⟨c9, h⟩ := h
    refine g_iast zp283 rfl rfl rfl (by decide) rfl c9 ?_
    refine g_al zp283 rfl rfl rfl (by decide) ?_
    refine g_get (v := zR 83) zp283 rfl rfl rfl ⟨rfl, by decide, (by decide)⟩ rfl ?_
    refine g_ic zp283 rfl rfl ?_
    refine g_dup2 zp283 rfl rfl (fun q => by cases q) rfl ?_
    refine g_ald (v := zI ((zup H7 83 l1 x8) 83 6)) zp283 rfl rfl rfl rfl (by decide) rfl ?_
    refine g_ic zp283 rfl rfl ?_
    refine g_ar (r := w32 (((zup H7 83 l1 x8) 83 6) + 1)) zp283 rfl rfl rfl ?_
    refine g_iast zp283 rfl rfl rfl (by decide) rfl (by decide) ?_
    exact g_ret zp283 rfl rfl ⟨rfl, h⟩
  · replace h := h.2 c3
    exact g_ret zp283 rfl rfl ⟨rfl, h⟩
theorem zp284 : zprog.getD 284 [] = zk284 := rfl
theorem x284_0 {w : zWt} {d : Nat} {H : zHt} {K : zHt → Prop} {l1 : Int} {l2 : Int}
    (h : (¬ l1 = 0 → K H) ∧ (l1 = 0 → ((H 81 34) ≤ 0 → (¬ l2 = 2 → K (zup (zup H 81 34 l2) 81 35 (H 81 36))) ∧ (l2 = 2 → (¬ (H 81 38) = 4 → K (zup (zup H 81 34 l2) 81 35 (H 81 36))) ∧ ((H 81 38) = 4 → K (zup (zup H 81 34 1) 81 35 (H 81 36))))) ∧ (0 < (H 81 34) → K H))) :
    zclV w d 284 [zR 81, zI l1, zI l2] H K := by
  show zgo w d 284 0 [zR 81, zI l1, zI l2] [] H (zQV K)
  refine g_il zp284 rfl rfl rfl ?_
  refine g_if zp284 rfl rfl zc1 (fun c1 => ?_) (fun c1 => ?_)
  · replace h := h.1 c1
    exact g_ret zp284 rfl rfl ⟨rfl, h⟩
  · replace h := h.2 c1
    refine g_al zp284 rfl rfl rfl (by decide) ?_
    refine g_get (v := zI (H 81 34)) zp284 rfl rfl rfl ⟨rfl, by decide, (by decide)⟩ rfl ?_
    refine g_if zp284 rfl rfl zc5 (fun c2 => ?_) (fun c2 => ?_)
    · replace h := h.1 c2
      refine g_al zp284 rfl rfl rfl (by decide) ?_
      refine g_il zp284 rfl rfl rfl ?_
      refine g_ic zp284 rfl rfl ?_
      refine g_icmp zp284 rfl rfl zc1 (fun c3 => ?_) (fun c3 => ?_)
      · replace h := h.1 c3
        refine g_il zp284 rfl rfl rfl ?_
        refine g_putI zp284 rfl rfl rfl ⟨rfl, by decide, (by decide)⟩ rfl rfl ?_
        refine g_al zp284 rfl rfl rfl (by decide) ?_
        refine g_al zp284 rfl rfl rfl (by decide) ?_
        refine g_get (v := zI (H 81 36)) zp284 rfl rfl rfl ⟨rfl, by decide, (by decide)⟩ rfl ?_
        refine g_putI zp284 rfl rfl rfl ⟨rfl, by decide, (by decide)⟩ rfl rfl ?_
        exact g_ret zp284 rfl rfl ⟨rfl, h⟩
      · replace h := h.2 c3
        refine g_al zp284 rfl rfl rfl (by decide) ?_
        refine g_get (v := zI (H 81 38)) zp284 rfl rfl rfl ⟨rfl, by decide, (by decide)⟩ rfl ?_
        refine g_ic zp284 rfl rfl ?_
        refine g_icmp zp284 rfl rfl zc1 (fun c4 => ?_) (fun c4 => ?_)
        · replace h := h.1 c4
          refine g_il zp284 rfl rfl rfl ?_
          refine g_putI zp284 rfl rfl rfl ⟨rfl, by decide, (by decide)⟩ rfl rfl ?_
          refine g_al zp284 rfl rfl rfl (by decide) ?_
          refine g_al zp284 rfl rfl rfl (by decide) ?_
          refine g_get (v := zI (H 81 36)) zp284 rfl rfl rfl ⟨rfl, by decide, (by decide)⟩ rfl ?_
          refine g_putI zp284 rfl rfl rfl ⟨rfl, by decide, (by decide)⟩ rfl rfl ?_
          exact g_ret zp284 rfl rfl ⟨rfl, h⟩
        · replace h := h.2 c4
          refine g_ic zp284 rfl rfl ?_
          refine g_goto zp284 rfl ?_
          refine g_putI zp284 rfl rfl rfl ⟨rfl, by decide, (by decide)⟩ rfl rfl ?_
          refine g_al zp284 rfl rfl rfl (by decide) ?_
          refine g_al zp284 rfl rfl rfl (by decide) ?_
          refine g_get (v := zI (H 81 36)) zp284 rfl rfl rfl ⟨rfl, by decide, (by decide)⟩ rfl ?_
          refine g_putI zp284 rfl rfl rfl ⟨rfl, by decide, (by decide)⟩ rfl rfl ?_
          exact g_ret zp284 rfl rfl ⟨rfl, h⟩
    · replace h := h.2 c2
      exact g_ret zp284 rfl rfl ⟨rfl, h⟩
theorem zp285 : zprog.getD 285 [] = zk285 := rfl
theorem x285_0 {w : zWt} {d : Nat} {H : zHt} {K : zHt → Prop} 
    (h : zclI w d 280 [zR 81] H (fun x2 H1 => (x2 = 0 → K H1) ∧ (¬ x2 = 0 → zclV w d 278 [zR 81] H1 (fun H4 => K H4)))) :
    zclV w (d + 1) 285 [zR 81] H K := by
  show zgo w (d + 1) 285 0 [zR 81] [] H (zQV K)
  refine g_al zp285 rfl rfl rfl (by decide) ?_
  refine g_callI (as := [zR 81]) (rest := []) zp285 rfl rfl (Nat.succ_pos _) rfl rfl (Nat.le_of_ble_eq_true rfl) (Nat.le_of_ble_eq_true rfl) rfl rfl h (fun x2 H1 h => ?_)
  refine g_if zp285 rfl rfl zc0 (fun c3 => ?_) (fun c3 => ?_)
  · replace h := h.1 c3
    exact g_ret zp285 rfl rfl ⟨rfl, h⟩
  · replace h := h.2 c3
    refine g_al zp285 rfl rfl rfl (by decide) ?_
    refine g_callV (as := [zR 81]) (rest := []) zp285 rfl rfl (Nat.succ_pos _) rfl rfl (Nat.le_of_ble_eq_true rfl) (Nat.le_of_ble_eq_true rfl) rfl rfl h (fun H4 h => ?_)
    exact g_ret zp285 rfl rfl ⟨rfl, h⟩
theorem zp286 : zprog.getD 286 [] = zk286 := rfl
theorem x286_0 {w : zWt} {d : Nat} {H : zHt} {K : Int → zHt → Prop} 
    (h : zclI w d 280 [zR 81] H (fun x2 H1 => (x2 = 0 → K 0 H1) ∧ (¬ x2 = 0 → ((H1 81 38) = 1 → zgo w (d + 1) 286 19 [zR 81, zI 0] [] H1 (zQI K)) ∧ (¬ (H1 81 38) = 1 → K 0 H1)))) :
    zclI w (d + 1) 286 [zR 81] H K := by
  show zgo w (d + 1) 286 0 [zR 81, zJ] [] H (zQI K)
  refine g_al zp286 rfl rfl rfl (by decide) ?_
  refine g_callI (as := [zR 81]) (rest := []) zp286 rfl rfl (Nat.succ_pos _) rfl rfl (Nat.le_of_ble_eq_true rfl) (Nat.le_of_ble_eq_true rfl) rfl rfl h (fun x2 H1 h => ?_)
  refine g_if zp286 rfl rfl zc0 (fun c3 => ?_) (fun c3 => ?_)
  · replace h := h.1 c3
    refine g_ic zp286 rfl rfl ?_
    exact g_ret zp286 rfl (zret_b (by decide)) ⟨_, rfl, h⟩
  · replace h := h.2 c3
    refine g_al zp286 rfl rfl rfl (by decide) ?_
    refine g_get (v := zI (H1 81 38)) zp286 rfl rfl rfl ⟨rfl, by decide, (by decide)⟩ rfl ?_
    refine g_ic zp286 rfl rfl ?_
    refine g_icmp zp286 rfl rfl zc0 (fun c4 => ?_) (fun c4 => ?_)
    · replace h := h.1 c4
      refine g_ic zp286 rfl rfl ?_
      refine g_is (ls' := [zR 81, zI 0]) zp286 rfl rfl (Nat.le_of_ble_eq_true rfl) rfl ?_
      exact g_weak (ls' := [zR 81, zI 0]) ⟨Or.inr rfl, Or.inr rfl, trivial⟩ h
    · replace h := h.2 c4
      refine g_ic zp286 rfl rfl ?_
      exact g_ret zp286 rfl (zret_b (by decide)) ⟨_, rfl, h⟩
theorem x286_19 {w : zWt} {d : Nat} {H : zHt} {K : Int → zHt → Prop} {l1 : Int}
    (h : (8 ≤ l1 → K 1 H) ∧ (l1 < 8 → (0 ≤ l1 ∧ l1 < 8) ∧ (¬ (H 81 41) = (H 101 l1) → zgo w (d + 1) 286 19 [zR 81, zI (w32 (l1 + 1))] [] H (zQI K)) ∧ ((H 81 41) = (H 101 l1) → K 0 H))) :
    zgo w (d + 1) 286 19 [zR 81, zI l1] [] H (zQI K) := by
  refine g_il zp286 rfl rfl rfl ?_
  refine g_al zp286 rfl rfl rfl (by decide) ?_
  refine g_get (v := zR 101) zp286 rfl rfl rfl ⟨rfl, by decide, (by decide)⟩ rfl ?_
  refine g_len zp286 rfl rfl rfl (by decide) ?_
  refine g_icmp zp286 rfl rfl zc3 (fun c1 => ?_) (fun c1 => ?_)
  · replace h := h.1 c1
    refine g_ic zp286 rfl rfl ?_
    exact g_ret zp286 rfl (zret_b (by decide)) ⟨_, rfl, h⟩
  · replace h := h.2 c1
    refine g_al zp286 rfl rfl rfl (by decide) ?_
    refine g_get (v := zL (H 81 41)) zp286 rfl rfl rfl ⟨rfl, by decide, (by decide)⟩ rfl ?_
    refine g_al zp286 rfl rfl rfl (by decide) ?_
    refine g_get (v := zR 101) zp286 rfl rfl rfl ⟨rfl, by decide, (by decide)⟩ rfl ?_
    refine g_il zp286 rfl rfl rfl ?_
    obtain ⟨c2, h⟩ := h
    refine g_ald (v := zL (H 101 l1)) zp286 rfl rfl rfl rfl c2 rfl ?_
    refine g_lcmp zp286 rfl rfl rfl rfl zc1 (fun c3 => ?_) (fun c3 => ?_)
    · replace h := h.1 c3
      refine g_inc (ls' := [zR 81, zI (w32 (l1 + 1))]) zp286 rfl rfl rfl rfl ?_
      refine g_goto zp286 rfl ?_
      exact g_weak (ls' := [zR 81, zI (w32 (l1 + 1))]) ⟨Or.inr rfl, Or.inr rfl, trivial⟩ h
    · replace h := h.2 c3
      refine g_ic zp286 rfl rfl ?_
      exact g_ret zp286 rfl (zret_b (by decide)) ⟨_, rfl, h⟩
theorem zp287 : zprog.getD 287 [] = zk287 := rfl
theorem x287_0 {w : zWt} {d : Nat} {H : zHt} {K : Int → zHt → Prop} {l1 : Int}
    (h : (¬ (H 81 38) = 2 → zclV w d 284 [zR 81, zI 0, zI 2] H (fun H2 => zclI w d 173 [zL (H2 81 39), zL 1, zL l1] H2 (fun x5 H4 => zclV w d 284 [zR 81, zI x5, zI 3] H4 (fun H6 => zclV w d 285 [zR 81] H6 (fun H8 => K (H6 81 39) H8))))) ∧ ((H 81 38) = 2 → zclV w d 284 [zR 81, zI 1, zI 2] H (fun H10 => zclI w d 173 [zL (H10 81 39), zL 1, zL l1] H10 (fun x13 H12 => zclV w d 284 [zR 81, zI x13, zI 3] H12 (fun H14 => zclV w d 285 [zR 81] H14 (fun H16 => K (H14 81 39) H16)))))) :
    zclI w (d + 1) 287 [zR 81, zI l1] H K := by
  show zgo w (d + 1) 287 0 [zR 81, zI l1, zJ] [] H (zQI K)
  refine g_al zp287 rfl rfl rfl (by decide) ?_
  refine g_al zp287 rfl rfl rfl (by decide) ?_
  refine g_get (v := zI (H 81 38)) zp287 rfl rfl rfl ⟨rfl, by decide, (by decide)⟩ rfl ?_
  refine g_ic zp287 rfl rfl ?_
  refine g_icmp zp287 rfl rfl zc1 (fun c1 => ?_) (fun c1 => ?_)
  · replace h := h.1 c1
    refine g_ic zp287 rfl rfl ?_
    refine g_ic zp287 rfl rfl ?_
    refine g_callV (as := [zR 81, zI 0, zI 2]) (rest := []) zp287 rfl rfl (Nat.succ_pos _) rfl rfl (Nat.le_of_ble_eq_true rfl) (Nat.le_of_ble_eq_true rfl) rfl rfl h (fun H2 h => ?_)
    refine g_al zp287 rfl rfl rfl (by decide) ?_
    refine g_al zp287 rfl rfl rfl (by decide) ?_
    refine g_get (v := zI (H2 81 39)) zp287 rfl rfl rfl ⟨rfl, by decide, (by decide)⟩ rfl ?_
    refine g_i2l zp287 rfl rfl ?_
    refine g_lc zp287 rfl rfl ?_
    refine g_il zp287 rfl rfl rfl ?_
    refine g_i2l zp287 rfl rfl ?_
    refine g_callI (as := [zL (H2 81 39), zL 1, zL l1]) (rest := [zR 81]) zp287 rfl rfl (Nat.succ_pos _) rfl rfl (Nat.le_of_ble_eq_true rfl) (Nat.le_of_ble_eq_true rfl) rfl rfl h (fun x5 H4 h => ?_)
    refine g_ic zp287 rfl rfl ?_
    refine g_callV (as := [zR 81, zI x5, zI 3]) (rest := []) zp287 rfl rfl (Nat.succ_pos _) rfl rfl (Nat.le_of_ble_eq_true rfl) (Nat.le_of_ble_eq_true rfl) rfl rfl h (fun H6 h => ?_)
    refine g_al zp287 rfl rfl rfl (by decide) ?_
    refine g_get (v := zI (H6 81 39)) zp287 rfl rfl rfl ⟨rfl, by decide, (by decide)⟩ rfl ?_
    refine g_is (ls' := [zR 81, zI l1, zI (H6 81 39)]) zp287 rfl rfl (Nat.le_of_ble_eq_true rfl) rfl ?_
    refine g_al zp287 rfl rfl rfl (by decide) ?_
    refine g_callV (as := [zR 81]) (rest := []) zp287 rfl rfl (Nat.succ_pos _) rfl rfl (Nat.le_of_ble_eq_true rfl) (Nat.le_of_ble_eq_true rfl) rfl rfl h (fun H8 h => ?_)
    refine g_il zp287 rfl rfl rfl ?_
    exact g_ret zp287 rfl rfl ⟨_, rfl, h⟩
  · replace h := h.2 c1
    refine g_ic zp287 rfl rfl ?_
    refine g_goto zp287 rfl ?_
    refine g_ic zp287 rfl rfl ?_
    refine g_callV (as := [zR 81, zI 1, zI 2]) (rest := []) zp287 rfl rfl (Nat.succ_pos _) rfl rfl (Nat.le_of_ble_eq_true rfl) (Nat.le_of_ble_eq_true rfl) rfl rfl h (fun H10 h => ?_)
    refine g_al zp287 rfl rfl rfl (by decide) ?_
    refine g_al zp287 rfl rfl rfl (by decide) ?_
    refine g_get (v := zI (H10 81 39)) zp287 rfl rfl rfl ⟨rfl, by decide, (by decide)⟩ rfl ?_
    refine g_i2l zp287 rfl rfl ?_
    refine g_lc zp287 rfl rfl ?_
    refine g_il zp287 rfl rfl rfl ?_
    refine g_i2l zp287 rfl rfl ?_
    refine g_callI (as := [zL (H10 81 39), zL 1, zL l1]) (rest := [zR 81]) zp287 rfl rfl (Nat.succ_pos _) rfl rfl (Nat.le_of_ble_eq_true rfl) (Nat.le_of_ble_eq_true rfl) rfl rfl h (fun x13 H12 h => ?_)
    refine g_ic zp287 rfl rfl ?_
    refine g_callV (as := [zR 81, zI x13, zI 3]) (rest := []) zp287 rfl rfl (Nat.succ_pos _) rfl rfl (Nat.le_of_ble_eq_true rfl) (Nat.le_of_ble_eq_true rfl) rfl rfl h (fun H14 h => ?_)
    refine g_al zp287 rfl rfl rfl (by decide) ?_
    refine g_get (v := zI (H14 81 39)) zp287 rfl rfl rfl ⟨rfl, by decide, (by decide)⟩ rfl ?_
    refine g_is (ls' := [zR 81, zI l1, zI (H14 81 39)]) zp287 rfl rfl (Nat.le_of_ble_eq_true rfl) rfl ?_
    refine g_al zp287 rfl rfl rfl (by decide) ?_
    refine g_callV (as := [zR 81]) (rest := []) zp287 rfl rfl (Nat.succ_pos _) rfl rfl (Nat.le_of_ble_eq_true rfl) (Nat.le_of_ble_eq_true rfl) rfl rfl h (fun H16 h => ?_)
    refine g_il zp287 rfl rfl rfl ?_
    exact g_ret zp287 rfl rfl ⟨_, rfl, h⟩
theorem zp288 : zprog.getD 288 [] = zk288 := rfl
theorem x288_0 {w : zWt} {d : Nat} {H : zHt} {K : zHt → Prop} 
    (h : zgo w (d + 1) 288 4 [zR 81, zI (-1), zI 0] [] H (zQV K)) :
    zclV w (d + 1) 288 [zR 81] H K := by
  show zgo w (d + 1) 288 0 [zR 81, zJ, zJ] [] H (zQV K)
  refine g_ic zp288 rfl rfl ?_
  refine g_is (ls' := [zR 81, zI (-1), zJ]) zp288 rfl rfl (Nat.le_of_ble_eq_true rfl) rfl ?_
  refine g_ic zp288 rfl rfl ?_
  refine g_is (ls' := [zR 81, zI (-1), zI 0]) zp288 rfl rfl (Nat.le_of_ble_eq_true rfl) rfl ?_
  exact g_weak (ls' := [zR 81, zI (-1), zI 0]) ⟨Or.inr rfl, Or.inr rfl, Or.inr rfl, trivial⟩ h
theorem x288_4 {w : zWt} {d : Nat} {H : zHt} {K : zHt → Prop} {l1 : Int} {l2 : Int}
    (h : (4 ≤ l2 → (l1 < 0 → zclV w d 284 [zR 81, zI 0, zI 2] H (fun H3 => zclV w d 285 [zR 81] (zup H3 83 9 l1) (fun H5 => K H5))) ∧ (0 ≤ l1 → zclV w d 284 [zR 81, zI 1, zI 2] H (fun H7 => zclV w d 285 [zR 81] (zup H7 83 9 l1) (fun H9 => K H9)))) ∧ (l2 < 4 → zclI w d 282 [zR 81, zI (w32 (4 + l2))] H (fun x12 H11 => (x12 = 0 → zgo w (d + 1) 288 4 [zR 81, zI l1, zI (w32 (l2 + 1))] [] H11 (zQV K)) ∧ (¬ x12 = 0 → zgo w (d + 1) 288 4 [zR 81, zI l2, zI (w32 (l2 + 1))] [] H11 (zQV K))))) :
    zgo w (d + 1) 288 4 [zR 81, zI l1, zI l2] [] H (zQV K) := by
  refine g_il zp288 rfl rfl rfl ?_
  refine g_ic zp288 rfl rfl ?_
  refine g_icmp zp288 rfl rfl zc3 (fun c1 => ?_) (fun c1 => ?_)
  · replace h := h.1 c1
    refine g_al zp288 rfl rfl rfl (by decide) ?_
    refine g_il zp288 rfl rfl rfl ?_
    refine g_if zp288 rfl rfl zc2 (fun c2 => ?_) (fun c2 => ?_)
    · replace h := h.1 c2
      refine g_ic zp288 rfl rfl ?_
      refine g_ic zp288 rfl rfl ?_
      refine g_callV (as := [zR 81, zI 0, zI 2]) (rest := []) zp288 rfl rfl (Nat.succ_pos _) rfl rfl (Nat.le_of_ble_eq_true rfl) (Nat.le_of_ble_eq_true rfl) rfl rfl h (fun H3 h => ?_)
      refine g_al zp288 rfl rfl rfl (by decide) ?_
      refine g_get (v := zR 83) zp288 rfl rfl rfl ⟨rfl, by decide, (by decide)⟩ rfl ?_
      refine g_ic zp288 rfl rfl ?_
      refine g_il zp288 rfl rfl rfl ?_
      refine g_iast zp288 rfl rfl rfl (by decide) rfl (by decide) ?_
      refine g_al zp288 rfl rfl rfl (by decide) ?_
      refine g_callV (as := [zR 81]) (rest := []) zp288 rfl rfl (Nat.succ_pos _) rfl rfl (Nat.le_of_ble_eq_true rfl) (Nat.le_of_ble_eq_true rfl) rfl rfl h (fun H5 h => ?_)
      exact g_ret zp288 rfl rfl ⟨rfl, h⟩
    · replace h := h.2 c2
      refine g_ic zp288 rfl rfl ?_
      refine g_goto zp288 rfl ?_
      refine g_ic zp288 rfl rfl ?_
      refine g_callV (as := [zR 81, zI 1, zI 2]) (rest := []) zp288 rfl rfl (Nat.succ_pos _) rfl rfl (Nat.le_of_ble_eq_true rfl) (Nat.le_of_ble_eq_true rfl) rfl rfl h (fun H7 h => ?_)
      refine g_al zp288 rfl rfl rfl (by decide) ?_
      refine g_get (v := zR 83) zp288 rfl rfl rfl ⟨rfl, by decide, (by decide)⟩ rfl ?_
      refine g_ic zp288 rfl rfl ?_
      refine g_il zp288 rfl rfl rfl ?_
      refine g_iast zp288 rfl rfl rfl (by decide) rfl (by decide) ?_
      refine g_al zp288 rfl rfl rfl (by decide) ?_
      refine g_callV (as := [zR 81]) (rest := []) zp288 rfl rfl (Nat.succ_pos _) rfl rfl (Nat.le_of_ble_eq_true rfl) (Nat.le_of_ble_eq_true rfl) rfl rfl h (fun H9 h => ?_)
      exact g_ret zp288 rfl rfl ⟨rfl, h⟩
  · replace h := h.2 c1
    refine g_al zp288 rfl rfl rfl (by decide) ?_
    refine g_ic zp288 rfl rfl ?_
    refine g_il zp288 rfl rfl rfl ?_
    refine g_ar (r := w32 (4 + l2)) zp288 rfl rfl rfl ?_
    refine g_callI (as := [zR 81, zI (w32 (4 + l2))]) (rest := []) zp288 rfl rfl (Nat.succ_pos _) rfl rfl (Nat.le_of_ble_eq_true rfl) (Nat.le_of_ble_eq_true rfl) rfl rfl h (fun x12 H11 h => ?_)
    refine g_if zp288 rfl rfl zc0 (fun c13 => ?_) (fun c13 => ?_)
    · replace h := h.1 c13
      refine g_il zp288 rfl rfl rfl ?_
      refine g_is (ls' := [zR 81, zI l1, zI l2]) zp288 rfl rfl (Nat.le_of_ble_eq_true rfl) rfl ?_
      refine g_inc (ls' := [zR 81, zI l1, zI (w32 (l2 + 1))]) zp288 rfl rfl rfl rfl ?_
      refine g_goto zp288 rfl ?_
      exact g_weak (ls' := [zR 81, zI l1, zI (w32 (l2 + 1))]) ⟨Or.inr rfl, Or.inr rfl, Or.inr rfl, trivial⟩ h
    · replace h := h.2 c13
      refine g_il zp288 rfl rfl rfl ?_
      refine g_goto zp288 rfl ?_
      refine g_is (ls' := [zR 81, zI l2, zI l2]) zp288 rfl rfl (Nat.le_of_ble_eq_true rfl) rfl ?_
      refine g_inc (ls' := [zR 81, zI l2, zI (w32 (l2 + 1))]) zp288 rfl rfl rfl rfl ?_
      refine g_goto zp288 rfl ?_
      exact g_weak (ls' := [zR 81, zI l2, zI (w32 (l2 + 1))]) ⟨Or.inr rfl, Or.inr rfl, Or.inr rfl, trivial⟩ h
theorem zp289 : zprog.getD 289 [] = zk289 := rfl
theorem x289_0 {w : zWt} {d : Nat} {H : zHt} {K : Int → zHt → Prop} {l1 : Int}
    (h : (¬ l1 = 0 → (¬ l1 = 1 → K (-1) (zup H 81 1 0)) ∧ (l1 = 1 → K (H 81 33) (zup H 81 1 0))) ∧ (l1 = 0 → K (H 81 32) (zup H 81 1 0))) :
    zclI w d 289 [zR 81, zI l1] H K := by
  show zgo w d 289 0 [zR 81, zI l1] [] H (zQI K)
  refine g_al zp289 rfl rfl rfl (by decide) ?_
  refine g_ic zp289 rfl rfl ?_
  refine g_putI zp289 rfl rfl rfl ⟨rfl, by decide, (by decide)⟩ rfl rfl ?_
  refine g_il zp289 rfl rfl rfl ?_
  refine g_if zp289 rfl rfl zc1 (fun c1 => ?_) (fun c1 => ?_)
  · replace h := h.1 c1
    refine g_il zp289 rfl rfl rfl ?_
    refine g_ic zp289 rfl rfl ?_
    refine g_icmp zp289 rfl rfl zc1 (fun c2 => ?_) (fun c2 => ?_)
    · replace h := h.1 c2
      refine g_ic zp289 rfl rfl ?_
      exact g_ret zp289 rfl rfl ⟨_, rfl, h⟩
    · replace h := h.2 c2
      refine g_al zp289 rfl rfl rfl (by decide) ?_
      refine g_get (v := zI (H 81 33)) zp289 rfl rfl rfl ⟨rfl, by decide, (by decide)⟩ rfl ?_
      refine g_goto zp289 rfl ?_
      exact g_ret zp289 rfl rfl ⟨_, rfl, h⟩
  · replace h := h.2 c1
    refine g_al zp289 rfl rfl rfl (by decide) ?_
    refine g_get (v := zI (H 81 32)) zp289 rfl rfl rfl ⟨rfl, by decide, (by decide)⟩ rfl ?_
    refine g_goto zp289 rfl ?_
    exact g_ret zp289 rfl rfl ⟨_, rfl, h⟩
