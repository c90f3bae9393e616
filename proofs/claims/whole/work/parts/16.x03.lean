/-! segments: what suffices for a run from there on (by wip/whole/gen3.py) -/
theorem zp84 : zprog.getD 84 [] = zk84 := rfl
theorem x84_0 {w : zWt} {d : Nat} {H : zHt} {K : Int → zHt → Prop} {l1 : Int} {l2 : Int} {l3 : Int}
    (h : zgo w d 84 6 [zR 32, zI l1, zI l2, zI l3, zI 0, zI 0] [] H (zQI K)) :
    zclI w d 84 [zR 32, zI l1, zI l2, zI l3] H K := by
  show zgo w d 84 0 [zR 32, zI l1, zI l2, zI l3, zJ, zJ] [] H (zQI K)
  refine g_ic zp84 rfl rfl ?_
  refine g_is (ls' := [zR 32, zI l1, zI l2, zI l3, zI 0, zJ]) zp84 rfl rfl (Nat.le_of_ble_eq_true rfl) rfl ?_
  refine g_ic zp84 rfl rfl ?_
  refine g_is (ls' := [zR 32, zI l1, zI l2, zI l3, zI 0, zI 0]) zp84 rfl rfl (Nat.le_of_ble_eq_true rfl) rfl ?_
  exact g_weak (ls' := [zR 32, zI l1, zI l2, zI l3, zI 0, zI 0]) ⟨Or.inr rfl, Or.inr rfl, Or.inr rfl, Or.inr rfl, Or.inr rfl, Or.inr rfl, trivial⟩ h
theorem x84_6 {w : zWt} {d : Nat} {H : zHt} {K : Int → zHt → Prop} {l1 : Int} {l2 : Int} {l3 : Int} {l4 : Int} {l5 : Int}
    (h : (l2 ≤ l5 → K l4 H) ∧ (l5 < l2 → (501 ≤ l5 → K l4 H) ∧ (l5 < 501 → (501 ≤ l3 → K l4 H) ∧ (l3 < 501 → (l5 = l3 → zgo w d 84 6 [zR 32, zI l1, zI l2, zI l3, zI l4, zI (w32 (l5 + 1))] [] H (zQI K)) ∧ (¬ l5 = l3 → (0 ≤ l5 ∧ l5 < 501) ∧ (0 ≤ l3 ∧ l3 < 501) ∧ (¬ (w64 ((H 50 l5) * (w32 (l1 + l3)))) = (w64 ((H 50 l3) * (w32 (l1 + l5)))) → zgo w d 84 6 [zR 32, zI l1, zI l2, zI l3, zI l4, zI (w32 (l5 + 1))] [] H (zQI K)) ∧ ((w64 ((H 50 l5) * (w32 (l1 + l3)))) = (w64 ((H 50 l3) * (w32 (l1 + l5)))) → zgo w d 84 6 [zR 32, zI l1, zI l2, zI l3, zI (w32 (l4 + 1)), zI (w32 (l5 + 1))] [] H (zQI K))))))) :
    zgo w d 84 6 [zR 32, zI l1, zI l2, zI l3, zI l4, zI l5] [] H (zQI K) := by
  refine g_il zp84 rfl rfl rfl ?_
  refine g_il zp84 rfl rfl rfl ?_
  refine g_icmp zp84 rfl rfl zc3 (fun c1 => ?_) (fun c1 => ?_)
  · replace h := h.1 c1
    refine g_il zp84 rfl rfl rfl ?_
    exact g_ret zp84 rfl rfl ⟨_, rfl, h⟩
  · replace h := h.2 c1
    refine g_il zp84 rfl rfl rfl ?_
    refine g_al zp84 rfl rfl rfl (by decide) ?_
    refine g_get (v := zR 50) zp84 rfl rfl rfl ⟨rfl, by decide, (by decide)⟩ rfl ?_
    refine g_len zp84 rfl rfl rfl (by decide) ?_
    refine g_icmp zp84 rfl rfl zc3 (fun c2 => ?_) (fun c2 => ?_)
    · replace h := h.1 c2
      refine g_il zp84 rfl rfl rfl ?_
      exact g_ret zp84 rfl rfl ⟨_, rfl, h⟩
    · replace h := h.2 c2
      refine g_il zp84 rfl rfl rfl ?_
      refine g_al zp84 rfl rfl rfl (by decide) ?_
      refine g_get (v := zR 50) zp84 rfl rfl rfl ⟨rfl, by decide, (by decide)⟩ rfl ?_
      refine g_len zp84 rfl rfl rfl (by decide) ?_
      refine g_icmp zp84 rfl rfl zc3 (fun c3 => ?_) (fun c3 => ?_)
      · replace h := h.1 c3
        refine g_il zp84 rfl rfl rfl ?_
        exact g_ret zp84 rfl rfl ⟨_, rfl, h⟩
      · replace h := h.2 c3
        refine g_il zp84 rfl rfl rfl ?_
        refine g_il zp84 rfl rfl rfl ?_
        refine g_icmp zp84 rfl rfl zc0 (fun c4 => ?_) (fun c4 => ?_)
        · replace h := h.1 c4
          refine g_inc (ls' := [zR 32, zI l1, zI l2, zI l3, zI l4, zI (w32 (l5 + 1))]) zp84 rfl rfl rfl rfl ?_
          refine g_goto zp84 rfl ?_
          exact g_weak (ls' := [zR 32, zI l1, zI l2, zI l3, zI l4, zI (w32 (l5 + 1))]) ⟨Or.inr rfl, Or.inr rfl, Or.inr rfl, Or.inr rfl, Or.inr rfl, Or.inr rfl, trivial⟩ h
        · replace h := h.2 c4
          refine g_al zp84 rfl rfl rfl (by decide) ?_
          refine g_get (v := zR 50) zp84 rfl rfl rfl ⟨rfl, by decide, (by decide)⟩ rfl ?_
          refine g_il zp84 rfl rfl rfl ?_
          obtain ⟨c5, h⟩ := h
          refine g_ald (v := zL (H 50 l5)) zp84 rfl rfl rfl rfl c5 rfl ?_
          refine g_il zp84 rfl rfl rfl ?_
          refine g_il zp84 rfl rfl rfl ?_
          refine g_ar (r := w32 (l1 + l3)) zp84 rfl rfl rfl ?_
          refine g_i2l zp84 rfl rfl ?_
          refine g_lar (r := w64 ((H 50 l5) * (w32 (l1 + l3)))) zp84 rfl rfl rfl ?_
          refine g_al zp84 rfl rfl rfl (by decide) ?_
          refine g_get (v := zR 50) zp84 rfl rfl rfl ⟨rfl, by decide, (by decide)⟩ rfl ?_
          refine g_il zp84 rfl rfl rfl ?_
          obtain ⟨c6, h⟩ := h
          refine g_ald (v := zL (H 50 l3)) zp84 rfl rfl rfl rfl c6 rfl ?_
          refine g_il zp84 rfl rfl rfl ?_
          refine g_il zp84 rfl rfl rfl ?_
          refine g_ar (r := w32 (l1 + l5)) zp84 rfl rfl rfl ?_
          refine g_i2l zp84 rfl rfl ?_
          refine g_lar (r := w64 ((H 50 l3) * (w32 (l1 + l5)))) zp84 rfl rfl rfl ?_
          refine g_lcmp zp84 rfl rfl rfl rfl zc1 (fun c7 => ?_) (fun c7 => ?_)
          · replace h := h.1 c7
            refine g_inc (ls' := [zR 32, zI l1, zI l2, zI l3, zI l4, zI (w32 (l5 + 1))]) zp84 rfl rfl rfl rfl ?_
            refine g_goto zp84 rfl ?_
            exact g_weak (ls' := [zR 32, zI l1, zI l2, zI l3, zI l4, zI (w32 (l5 + 1))]) ⟨Or.inr rfl, Or.inr rfl, Or.inr rfl, Or.inr rfl, Or.inr rfl, Or.inr rfl, trivial⟩ h
          · replace h := h.2 c7
            refine g_inc (ls' := [zR 32, zI l1, zI l2, zI l3, zI (w32 (l4 + 1)), zI l5]) zp84 rfl rfl rfl rfl ?_
            refine g_inc (ls' := [zR 32, zI l1, zI l2, zI l3, zI (w32 (l4 + 1)), zI (w32 (l5 + 1))]) zp84 rfl rfl rfl rfl ?_
            refine g_goto zp84 rfl ?_
            exact g_weak (ls' := [zR 32, zI l1, zI l2, zI l3, zI (w32 (l4 + 1)), zI (w32 (l5 + 1))]) ⟨Or.inr rfl, Or.inr rfl, Or.inr rfl, Or.inr rfl, Or.inr rfl, Or.inr rfl, trivial⟩ h
theorem zp85 : zprog.getD 85 [] = zk85 := rfl
theorem x85_0 {w : zWt} {d : Nat} {H : zHt} {K : Int → zHt → Prop} {l1 : Int} {l2 : Int} {l3 : Int}
    (h : (l1 < 0 → zclI w d 13 [zR 32, zI 1] H (fun x3 H2 => K x3 H2)) ∧ (0 ≤ l1 → (l2 < 1 → zclI w d 13 [zR 32, zI 1] H (fun x6 H5 => K x6 H5)) ∧ (1 ≤ l2 → (2000 < l2 → zclI w d 13 [zR 32, zI 1] H (fun x9 H8 => K x9 H8)) ∧ (l2 ≤ 2000 → (0 ≤ l3 → zgo w (d + 1) 85 32 [zR 32, zI l1, zI l2, zI l3, zI 0, zI 1] [] H (zQI K)) ∧ (l3 < 0 → zclI w d 13 [zR 32, zI 1] H (fun x12 H11 => K x12 H11)))))) :
    zclI w (d + 1) 85 [zR 32, zI l1, zI l2, zI l3] H K := by
  show zgo w (d + 1) 85 0 [zR 32, zI l1, zI l2, zI l3, zJ, zJ] [] H (zQI K)
  refine g_il zp85 rfl rfl rfl ?_
  refine g_if zp85 rfl rfl zc2 (fun c1 => ?_) (fun c1 => ?_)
  · replace h := h.1 c1
    refine g_al zp85 rfl rfl rfl (by decide) ?_
    refine g_ic zp85 rfl rfl ?_
    refine g_callI (as := [zR 32, zI 1]) (rest := []) zp85 rfl rfl (Nat.succ_pos _) rfl rfl (Nat.le_of_ble_eq_true rfl) (Nat.le_of_ble_eq_true rfl) rfl rfl h (fun x3 H2 h => ?_)
    exact g_ret zp85 rfl rfl ⟨_, rfl, h⟩
  · replace h := h.2 c1
    refine g_il zp85 rfl rfl rfl ?_
    refine g_ic zp85 rfl rfl ?_
    refine g_icmp zp85 rfl rfl zc2 (fun c4 => ?_) (fun c4 => ?_)
    · replace h := h.1 c4
      refine g_al zp85 rfl rfl rfl (by decide) ?_
      refine g_ic zp85 rfl rfl ?_
      refine g_callI (as := [zR 32, zI 1]) (rest := []) zp85 rfl rfl (Nat.succ_pos _) rfl rfl (Nat.le_of_ble_eq_true rfl) (Nat.le_of_ble_eq_true rfl) rfl rfl h (fun x6 H5 h => ?_)
      exact g_ret zp85 rfl rfl ⟨_, rfl, h⟩
    · replace h := h.2 c4
      refine g_il zp85 rfl rfl rfl ?_
      refine g_ic zp85 rfl rfl ?_
      refine g_icmp zp85 rfl rfl zc4 (fun c7 => ?_) (fun c7 => ?_)
      · replace h := h.1 c7
        refine g_al zp85 rfl rfl rfl (by decide) ?_
        refine g_ic zp85 rfl rfl ?_
        refine g_callI (as := [zR 32, zI 1]) (rest := []) zp85 rfl rfl (Nat.succ_pos _) rfl rfl (Nat.le_of_ble_eq_true rfl) (Nat.le_of_ble_eq_true rfl) rfl rfl h (fun x9 H8 h => ?_)
        exact g_ret zp85 rfl rfl ⟨_, rfl, h⟩
      · replace h := h.2 c7
        refine g_il zp85 rfl rfl rfl ?_
        refine g_if zp85 rfl rfl zc3 (fun c10 => ?_) (fun c10 => ?_)
        · replace h := h.1 c10
          refine g_ic zp85 rfl rfl ?_
          refine g_is (ls' := [zR 32, zI l1, zI l2, zI l3, zI 0, zJ]) zp85 rfl rfl (Nat.le_of_ble_eq_true rfl) rfl ?_
          refine g_ic zp85 rfl rfl ?_
          refine g_is (ls' := [zR 32, zI l1, zI l2, zI l3, zI 0, zI 1]) zp85 rfl rfl (Nat.le_of_ble_eq_true rfl) rfl ?_
          exact g_weak (ls' := [zR 32, zI l1, zI l2, zI l3, zI 0, zI 1]) ⟨Or.inr rfl, Or.inr rfl, Or.inr rfl, Or.inr rfl, Or.inr rfl, Or.inr rfl, trivial⟩ h
        · replace h := h.2 c10
          refine g_al zp85 rfl rfl rfl (by decide) ?_
          refine g_ic zp85 rfl rfl ?_
          refine g_callI (as := [zR 32, zI 1]) (rest := []) zp85 rfl rfl (Nat.succ_pos _) rfl rfl (Nat.le_of_ble_eq_true rfl) (Nat.le_of_ble_eq_true rfl) rfl rfl h (fun x12 H11 h => ?_)
          exact g_ret zp85 rfl rfl ⟨_, rfl, h⟩
theorem x85_32 {w : zWt} {d : Nat} {H : zHt} {K : Int → zHt → Prop} {l1 : Int} {l2 : Int} {l3 : Int} {l4 : Int} {l5 : Int}
    (h : (l2 < l5 → zclI w d 13 [zR 32, zI 5] H (fun x3 H2 => K x3 H2)) ∧ (l5 ≤ l2 → zclL w d 52 [zR 32, zI l5] H (fun x5 H4 => (x5 = l1 → (¬ l4 = l3 → zgo w (d + 1) 85 32 [zR 32, zI l1, zI l2, zI l3, zI (w32 (l4 + 1)), zI (w32 (l5 + 1))] [] H4 (zQI K)) ∧ (l4 = l3 → zclI w d 39 [zR 32, zI l5] H4 (fun x9 H8 => K x9 H8))) ∧ (¬ x5 = l1 → zgo w (d + 1) 85 32 [zR 32, zI l1, zI l2, zI l3, zI l4, zI (w32 (l5 + 1))] [] H4 (zQI K))))) :
    zgo w (d + 1) 85 32 [zR 32, zI l1, zI l2, zI l3, zI l4, zI l5] [] H (zQI K) := by
  refine g_il zp85 rfl rfl rfl ?_
  refine g_il zp85 rfl rfl rfl ?_
  refine g_icmp zp85 rfl rfl zc4 (fun c1 => ?_) (fun c1 => ?_)
  · replace h := h.1 c1
    refine g_al zp85 rfl rfl rfl (by decide) ?_
    refine g_ic zp85 rfl rfl ?_
    refine g_callI (as := [zR 32, zI 5]) (rest := []) zp85 rfl rfl (Nat.succ_pos _) rfl rfl (Nat.le_of_ble_eq_true rfl) (Nat.le_of_ble_eq_true rfl) rfl rfl h (fun x3 H2 h => ?_)
    exact g_ret zp85 rfl rfl ⟨_, rfl, h⟩
  · replace h := h.2 c1
    refine g_al zp85 rfl rfl rfl (by decide) ?_
    refine g_il zp85 rfl rfl rfl ?_
    refine g_callL (as := [zR 32, zI l5]) (rest := []) zp85 rfl rfl (Nat.succ_pos _) rfl rfl (Nat.le_of_ble_eq_true rfl) (Nat.le_of_ble_eq_true rfl) rfl rfl h (fun x5 H4 h => ?_)
    refine g_il zp85 rfl rfl rfl ?_
    refine g_i2l zp85 rfl rfl ?_
    refine g_lcmp zp85 rfl rfl rfl rfl zc0 (fun c6 => ?_) (fun c6 => ?_)
    · replace h := h.1 c6
      refine g_il zp85 rfl rfl rfl ?_
      refine g_il zp85 rfl rfl rfl ?_
      refine g_icmp zp85 rfl rfl zc1 (fun c7 => ?_) (fun c7 => ?_)
      · replace h := h.1 c7
        refine g_inc (ls' := [zR 32, zI l1, zI l2, zI l3, zI (w32 (l4 + 1)), zI l5]) zp85 rfl rfl rfl rfl ?_
        refine g_inc (ls' := [zR 32, zI l1, zI l2, zI l3, zI (w32 (l4 + 1)), zI (w32 (l5 + 1))]) zp85 rfl rfl rfl rfl ?_
        refine g_goto zp85 rfl ?_
        exact g_weak (ls' := [zR 32, zI l1, zI l2, zI l3, zI (w32 (l4 + 1)), zI (w32 (l5 + 1))]) ⟨Or.inr rfl, Or.inr rfl, Or.inr rfl, Or.inr rfl, Or.inr rfl, Or.inr rfl, trivial⟩ h
      · replace h := h.2 c7
        refine g_al zp85 rfl rfl rfl (by decide) ?_
        refine g_il zp85 rfl rfl rfl ?_
        refine g_callI (as := [zR 32, zI l5]) (rest := []) zp85 rfl rfl (Nat.succ_pos _) rfl rfl (Nat.le_of_ble_eq_true rfl) (Nat.le_of_ble_eq_true rfl) rfl rfl h (fun x9 H8 h => ?_)
        exact g_ret zp85 rfl rfl ⟨_, rfl, h⟩
    · replace h := h.2 c6
      refine g_goto zp85 rfl ?_
      refine g_inc (ls' := [zR 32, zI l1, zI l2, zI l3, zI l4, zI (w32 (l5 + 1))]) zp85 rfl rfl rfl rfl ?_
      refine g_goto zp85 rfl ?_
      exact g_weak (ls' := [zR 32, zI l1, zI l2, zI l3, zI l4, zI (w32 (l5 + 1))]) ⟨Or.inr rfl, Or.inr rfl, Or.inr rfl, Or.inr rfl, Or.inr rfl, Or.inr rfl, trivial⟩ h
theorem zp86 : zprog.getD 86 [] = zk86 := rfl
theorem x86_0 {w : zWt} {d : Nat} {H : zHt} {K : Int → zHt → Prop} {l1 : Int} {l2 : Int}
    (h : (l1 < 1 → zclI w d 13 [zR 32, zI 1] H (fun x3 H2 => K x3 H2)) ∧ (1 ≤ l1 → (500 < l1 → zclI w d 13 [zR 32, zI 1] H (fun x6 H5 => K x6 H5)) ∧ (l1 ≤ 500 → zclI w d 44 [zI l2, zI 3] H (fun x8 H7 => (¬ x8 = 0 → zclV w d 87 [zR 32, zI l1] H7 (fun H10 => zclV w d 89 [zR 32, zI l1] H10 (fun H12 => zgo w (d + 1) 86 47 [zR 32, zI l1, zI l2, zI 0, zI 0, zI 1, zI 1] [] H12 (zQI K)))) ∧ (x8 = 0 → zclI w d 13 [zR 32, zI 1] H7 (fun x15 H14 => K x15 H14)))))) :
    zclI w (d + 1) 86 [zR 32, zI l1, zI l2] H K := by
  show zgo w (d + 1) 86 0 [zR 32, zI l1, zI l2, zJ, zJ, zJ, zJ] [] H (zQI K)
  refine g_il zp86 rfl rfl rfl ?_
  refine g_ic zp86 rfl rfl ?_
  refine g_icmp zp86 rfl rfl zc2 (fun c1 => ?_) (fun c1 => ?_)
  · replace h := h.1 c1
    refine g_al zp86 rfl rfl rfl (by decide) ?_
    refine g_ic zp86 rfl rfl ?_
    refine g_callI (as := [zR 32, zI 1]) (rest := []) zp86 rfl rfl (Nat.succ_pos _) rfl rfl (Nat.le_of_ble_eq_true rfl) (Nat.le_of_ble_eq_true rfl) rfl rfl h (fun x3 H2 h => ?_)
    exact g_ret zp86 rfl rfl ⟨_, rfl, h⟩
  · replace h := h.2 c1
    refine g_il zp86 rfl rfl rfl ?_
    refine g_ic zp86 rfl rfl ?_
    refine g_icmp zp86 rfl rfl zc4 (fun c4 => ?_) (fun c4 => ?_)
    · replace h := h.1 c4
      refine g_al zp86 rfl rfl rfl (by decide) ?_
      refine g_ic zp86 rfl rfl ?_
      refine g_callI (as := [zR 32, zI 1]) (rest := []) zp86 rfl rfl (Nat.succ_pos _) rfl rfl (Nat.le_of_ble_eq_true rfl) (Nat.le_of_ble_eq_true rfl) rfl rfl h (fun x6 H5 h => ?_)
      exact g_ret zp86 rfl rfl ⟨_, rfl, h⟩
    · replace h := h.2 c4
      refine g_il zp86 rfl rfl rfl ?_
      refine g_ic zp86 rfl rfl ?_
      refine g_callI (as := [zI l2, zI 3]) (rest := []) zp86 rfl rfl (Nat.succ_pos _) rfl rfl (Nat.le_of_ble_eq_true rfl) (Nat.le_of_ble_eq_true rfl) rfl rfl h (fun x8 H7 h => ?_)
      refine g_if zp86 rfl rfl zc1 (fun c9 => ?_) (fun c9 => ?_)
      · replace h := h.1 c9
        refine g_al zp86 rfl rfl rfl (by decide) ?_
        refine g_il zp86 rfl rfl rfl ?_
        refine g_callV (as := [zR 32, zI l1]) (rest := []) zp86 rfl rfl (Nat.succ_pos _) rfl rfl (Nat.le_of_ble_eq_true rfl) (Nat.le_of_ble_eq_true rfl) rfl rfl h (fun H10 h => ?_)
        refine g_al zp86 rfl rfl rfl (by decide) ?_
        refine g_il zp86 rfl rfl rfl ?_
        refine g_callV (as := [zR 32, zI l1]) (rest := []) zp86 rfl rfl (Nat.succ_pos _) rfl rfl (Nat.le_of_ble_eq_true rfl) (Nat.le_of_ble_eq_true rfl) rfl rfl h (fun H12 h => ?_)
        refine g_ic zp86 rfl rfl ?_
        refine g_is (ls' := [zR 32, zI l1, zI l2, zI 0, zJ, zJ, zJ]) zp86 rfl rfl (Nat.le_of_ble_eq_true rfl) rfl ?_
        refine g_ic zp86 rfl rfl ?_
        refine g_is (ls' := [zR 32, zI l1, zI l2, zI 0, zI 0, zJ, zJ]) zp86 rfl rfl (Nat.le_of_ble_eq_true rfl) rfl ?_
        refine g_ic zp86 rfl rfl ?_
        refine g_is (ls' := [zR 32, zI l1, zI l2, zI 0, zI 0, zI 1, zJ]) zp86 rfl rfl (Nat.le_of_ble_eq_true rfl) rfl ?_
        refine g_ic zp86 rfl rfl ?_
        refine g_is (ls' := [zR 32, zI l1, zI l2, zI 0, zI 0, zI 1, zI 1]) zp86 rfl rfl (Nat.le_of_ble_eq_true rfl) rfl ?_
        exact g_weak (ls' := [zR 32, zI l1, zI l2, zI 0, zI 0, zI 1, zI 1]) ⟨Or.inr rfl, Or.inr rfl, Or.inr rfl, Or.inr rfl, Or.inr rfl, Or.inr rfl, Or.inr rfl, trivial⟩ h
      · replace h := h.2 c9
        refine g_al zp86 rfl rfl rfl (by decide) ?_
        refine g_ic zp86 rfl rfl ?_
        refine g_callI (as := [zR 32, zI 1]) (rest := []) zp86 rfl rfl (Nat.succ_pos _) rfl rfl (Nat.le_of_ble_eq_true rfl) (Nat.le_of_ble_eq_true rfl) rfl rfl h (fun x15 H14 h => ?_)
        exact g_ret zp86 rfl rfl ⟨_, rfl, h⟩
theorem x86_47 {w : zWt} {d : Nat} {H : zHt} {K : Int → zHt → Prop} {l1 : Int} {l2 : Int} {l3 : Int} {l4 : Int} {l5 : Int} {l6 : Int}
    (h : (l1 < l6 → (l2 < 0 ∨ 3 ≤ l2 → zclI w d 39 [zR 32, zI l4] H (fun x3 H2 => K x3 H2)) ∧ (l2 = 0 → zclI w d 39 [zR 32, zI l3] H (fun x5 H4 => K x5 H4)) ∧ (l2 = 1 → (0 ≤ l5 ∧ l5 < 501) ∧ zclI w d 39 [zR 32, zI (w32 (H 50 l5))] H (fun x8 H7 => K x8 H7)) ∧ (l2 = 2 → zclI w d 39 [zR 32, zI l5] H (fun x10 H9 => K x10 H9))) ∧ (l6 ≤ l1 → (501 ≤ l6 → (l2 < 0 ∨ 3 ≤ l2 → zclI w d 39 [zR 32, zI l4] H (fun x13 H12 => K x13 H12)) ∧ (l2 = 0 → zclI w d 39 [zR 32, zI l3] H (fun x15 H14 => K x15 H14)) ∧ (l2 = 1 → (0 ≤ l5 ∧ l5 < 501) ∧ zclI w d 39 [zR 32, zI (w32 (H 50 l5))] H (fun x18 H17 => K x18 H17)) ∧ (l2 = 2 → zclI w d 39 [zR 32, zI l5] H (fun x20 H19 => K x20 H19))) ∧ (l6 < 501 → (0 ≤ l6 ∧ l6 < 501) ∧ ((H 50 l6) ≤ 0 → zgo w (d + 1) 86 78 [zR 32, zI l1, zI l2, zI l3, zI l4, zI l5, zI l6] [] H (zQI K)) ∧ (0 < (H 50 l6) → zgo w (d + 1) 86 78 [zR 32, zI l1, zI l2, zI (w32 (l3 + 1)), zI l4, zI l5, zI l6] [] H (zQI K))))) :
    zgo w (d + 1) 86 47 [zR 32, zI l1, zI l2, zI l3, zI l4, zI l5, zI l6] [] H (zQI K) := by
  refine g_il zp86 rfl rfl rfl ?_
  refine g_il zp86 rfl rfl rfl ?_
  refine g_icmp zp86 rfl rfl zc4 (fun c1 => ?_) (fun c1 => ?_)
  · replace h := h.1 c1
    refine g_il zp86 rfl rfl rfl ?_
    rcases Classical.em (l2 < 0 ∨ 3 ≤ l2) with c | c
    · refine g_tabO zp86 rfl c ?_
      replace h := h.1 c
      refine g_al zp86 rfl rfl rfl (by decide) ?_
      refine g_il zp86 rfl rfl rfl ?_
      refine g_callI (as := [zR 32, zI l4]) (rest := []) zp86 rfl rfl (Nat.succ_pos _) rfl rfl (Nat.le_of_ble_eq_true rfl) (Nat.le_of_ble_eq_true rfl) rfl rfl h (fun x3 H2 h => ?_)
      exact g_ret zp86 rfl rfl ⟨_, rfl, h⟩
    · replace h := h.2
      have hh : l2 = 0 ∨ l2 = 1 ∨ l2 = 2 := by omega
      rcases hh with c | c | c
      · replace h := h.1 c
        refine g_tabE (z := 0) zp86 rfl c (by decide) rfl ?_
        refine g_al zp86 rfl rfl rfl (by decide) ?_
        refine g_il zp86 rfl rfl rfl ?_
        refine g_callI (as := [zR 32, zI l3]) (rest := []) zp86 rfl rfl (Nat.succ_pos _) rfl rfl (Nat.le_of_ble_eq_true rfl) (Nat.le_of_ble_eq_true rfl) rfl rfl h (fun x5 H4 h => ?_)
        exact g_ret zp86 rfl rfl ⟨_, rfl, h⟩
      · replace h := h.2.1 c
        refine g_tabE (z := 1) zp86 rfl c (by decide) rfl ?_
        refine g_al zp86 rfl rfl rfl (by decide) ?_
        refine g_al zp86 rfl rfl rfl (by decide) ?_
        refine g_get (v := zR 50) zp86 rfl rfl rfl ⟨rfl, by decide, (by decide)⟩ rfl ?_
        refine g_il zp86 rfl rfl rfl ?_
        obtain ⟨c6, h⟩ := h
        refine g_ald (v := zL (H 50 l5)) zp86 rfl rfl rfl rfl c6 rfl ?_
        refine g_l2i zp86 rfl rfl ?_
        refine g_callI (as := [zR 32, zI (w32 (H 50 l5))]) (rest := []) zp86 rfl rfl (Nat.succ_pos _) rfl rfl (Nat.le_of_ble_eq_true rfl) (Nat.le_of_ble_eq_true rfl) rfl rfl h (fun x8 H7 h => ?_)
        exact g_ret zp86 rfl rfl ⟨_, rfl, h⟩
      · replace h := h.2.2 c
        refine g_tabE (z := 2) zp86 rfl c (by decide) rfl ?_
        refine g_al zp86 rfl rfl rfl (by decide) ?_
        refine g_il zp86 rfl rfl rfl ?_
        refine g_callI (as := [zR 32, zI l5]) (rest := []) zp86 rfl rfl (Nat.succ_pos _) rfl rfl (Nat.le_of_ble_eq_true rfl) (Nat.le_of_ble_eq_true rfl) rfl rfl h (fun x10 H9 h => ?_)
        exact g_ret zp86 rfl rfl ⟨_, rfl, h⟩
  · replace h := h.2 c1
    refine g_il zp86 rfl rfl rfl ?_
    refine g_al zp86 rfl rfl rfl (by decide) ?_
    refine g_get (v := zR 50) zp86 rfl rfl rfl ⟨rfl, by decide, (by decide)⟩ rfl ?_
    refine g_len zp86 rfl rfl rfl (by decide) ?_
    refine g_icmp zp86 rfl rfl zc3 (fun c11 => ?_) (fun c11 => ?_)
    · replace h := h.1 c11
      refine g_il zp86 rfl rfl rfl ?_
      rcases Classical.em (l2 < 0 ∨ 3 ≤ l2) with c | c
      · refine g_tabO zp86 rfl c ?_
        replace h := h.1 c
        refine g_al zp86 rfl rfl rfl (by decide) ?_
        refine g_il zp86 rfl rfl rfl ?_
        refine g_callI (as := [zR 32, zI l4]) (rest := []) zp86 rfl rfl (Nat.succ_pos _) rfl rfl (Nat.le_of_ble_eq_true rfl) (Nat.le_of_ble_eq_true rfl) rfl rfl h (fun x13 H12 h => ?_)
        exact g_ret zp86 rfl rfl ⟨_, rfl, h⟩
      · replace h := h.2
        have hh : l2 = 0 ∨ l2 = 1 ∨ l2 = 2 := by omega
        rcases hh with c | c | c
        · replace h := h.1 c
          refine g_tabE (z := 0) zp86 rfl c (by decide) rfl ?_
          refine g_al zp86 rfl rfl rfl (by decide) ?_
          refine g_il zp86 rfl rfl rfl ?_
          refine g_callI (as := [zR 32, zI l3]) (rest := []) zp86 rfl rfl (Nat.succ_pos _) rfl rfl (Nat.le_of_ble_eq_true rfl) (Nat.le_of_ble_eq_true rfl) rfl rfl h (fun x15 H14 h => ?_)
          exact g_ret zp86 rfl rfl ⟨_, rfl, h⟩
        · replace h := h.2.1 c
          refine g_tabE (z := 1) zp86 rfl c (by decide) rfl ?_
          refine g_al zp86 rfl rfl rfl (by decide) ?_
          refine g_al zp86 rfl rfl rfl (by decide) ?_
          refine g_get (v := zR 50) zp86 rfl rfl rfl ⟨rfl, by decide, (by decide)⟩ rfl ?_
          refine g_il zp86 rfl rfl rfl ?_
          obtain ⟨c16, h⟩ := h
          refine g_ald (v := zL (H 50 l5)) zp86 rfl rfl rfl rfl c16 rfl ?_
          refine g_l2i zp86 rfl rfl ?_
          refine g_callI (as := [zR 32, zI (w32 (H 50 l5))]) (rest := []) zp86 rfl rfl (Nat.succ_pos _) rfl rfl (Nat.le_of_ble_eq_true rfl) (Nat.le_of_ble_eq_true rfl) rfl rfl h (fun x18 H17 h => ?_)
          exact g_ret zp86 rfl rfl ⟨_, rfl, h⟩
        · replace h := h.2.2 c
          refine g_tabE (z := 2) zp86 rfl c (by decide) rfl ?_
          refine g_al zp86 rfl rfl rfl (by decide) ?_
          refine g_il zp86 rfl rfl rfl ?_
          refine g_callI (as := [zR 32, zI l5]) (rest := []) zp86 rfl rfl (Nat.succ_pos _) rfl rfl (Nat.le_of_ble_eq_true rfl) (Nat.le_of_ble_eq_true rfl) rfl rfl h (fun x20 H19 h => ?_)
          exact g_ret zp86 rfl rfl ⟨_, rfl, h⟩
    · replace h := h.2 c11
      refine g_al zp86 rfl rfl rfl (by decide) ?_
      refine g_get (v := zR 50) zp86 rfl rfl rfl ⟨rfl, by decide, (by decide)⟩ rfl ?_
      refine g_il zp86 rfl rfl rfl ?_
      obtain ⟨c21, h⟩ := h
      refine g_ald (v := zL (H 50 l6)) zp86 rfl rfl rfl rfl c21 rfl ?_
      refine g_lc zp86 rfl rfl ?_
      refine g_lcmp zp86 rfl rfl rfl rfl zc5 (fun c22 => ?_) (fun c22 => ?_)
      · replace h := h.1 c22
        exact g_weak (ls' := [zR 32, zI l1, zI l2, zI l3, zI l4, zI l5, zI l6]) ⟨Or.inr rfl, Or.inr rfl, Or.inr rfl, Or.inr rfl, Or.inr rfl, Or.inr rfl, Or.inr rfl, trivial⟩ h
      · replace h := h.2 c22
        refine g_inc (ls' := [zR 32, zI l1, zI l2, zI (w32 (l3 + 1)), zI l4, zI l5, zI l6]) zp86 rfl rfl rfl rfl ?_
        exact g_weak (ls' := [zR 32, zI l1, zI l2, zI (w32 (l3 + 1)), zI l4, zI l5, zI l6]) ⟨Or.inr rfl, Or.inr rfl, Or.inr rfl, Or.inr rfl, Or.inr rfl, Or.inr rfl, Or.inr rfl, trivial⟩ h
theorem x86_78 {w : zWt} {d : Nat} {H : zHt} {K : Int → zHt → Prop} {l1 : Int} {l2 : Int} {l3 : Int} {l4 : Int} {l5 : Int} {l6 : Int}
    (h : (0 ≤ l6 ∧ l6 < 501) ∧ (¬ (H 50 l6) = 1 → (0 ≤ l5 ∧ l5 < 501) ∧ ((H 50 l6) ≤ (H 50 l5) → zgo w (d + 1) 86 47 [zR 32, zI l1, zI l2, zI l3, zI l4, zI l5, zI (w32 (l6 + 1))] [] H (zQI K)) ∧ ((H 50 l5) < (H 50 l6) → zgo w (d + 1) 86 47 [zR 32, zI l1, zI l2, zI l3, zI l4, zI l6, zI (w32 (l6 + 1))] [] H (zQI K))) ∧ ((H 50 l6) = 1 → (0 ≤ l5 ∧ l5 < 501) ∧ ((H 50 l6) ≤ (H 50 l5) → zgo w (d + 1) 86 47 [zR 32, zI l1, zI l2, zI l3, zI (w32 (l4 + 1)), zI l5, zI (w32 (l6 + 1))] [] H (zQI K)) ∧ ((H 50 l5) < (H 50 l6) → zgo w (d + 1) 86 47 [zR 32, zI l1, zI l2, zI l3, zI (w32 (l4 + 1)), zI l6, zI (w32 (l6 + 1))] [] H (zQI K)))) :
    zgo w (d + 1) 86 78 [zR 32, zI l1, zI l2, zI l3, zI l4, zI l5, zI l6] [] H (zQI K) := by
  refine g_al zp86 rfl rfl rfl (by decide) ?_
  refine g_get (v := zR 50) zp86 rfl rfl rfl ⟨rfl, by decide, (by decide)⟩ rfl ?_
  refine g_il zp86 rfl rfl rfl ?_
  obtain ⟨c1, h⟩ := h
  refine g_ald (v := zL (H 50 l6)) zp86 rfl rfl rfl rfl c1 rfl ?_
  refine g_lc zp86 rfl rfl ?_
  refine g_lcmp zp86 rfl rfl rfl rfl zc1 (fun c2 => ?_) (fun c2 => ?_)
  · replace h := h.1 c2
    refine g_al zp86 rfl rfl rfl (by decide) ?_
    refine g_get (v := zR 50) zp86 rfl rfl rfl ⟨rfl, by decide, (by decide)⟩ rfl ?_
    refine g_il zp86 rfl rfl rfl ?_
    refine g_ald (v := zL (H 50 l6)) zp86 rfl rfl rfl rfl c1 rfl ?_
    refine g_al zp86 rfl rfl rfl (by decide) ?_
    refine g_get (v := zR 50) zp86 rfl rfl rfl ⟨rfl, by decide, (by decide)⟩ rfl ?_
    refine g_il zp86 rfl rfl rfl ?_
    obtain ⟨c3, h⟩ := h
    refine g_ald (v := zL (H 50 l5)) zp86 rfl rfl rfl rfl c3 rfl ?_
    refine g_lcmp zp86 rfl rfl rfl rfl zc5 (fun c4 => ?_) (fun c4 => ?_)
    · replace h := h.1 c4
      refine g_inc (ls' := [zR 32, zI l1, zI l2, zI l3, zI l4, zI l5, zI (w32 (l6 + 1))]) zp86 rfl rfl rfl rfl ?_
      refine g_goto zp86 rfl ?_
      exact g_weak (ls' := [zR 32, zI l1, zI l2, zI l3, zI l4, zI l5, zI (w32 (l6 + 1))]) ⟨Or.inr rfl, Or.inr rfl, Or.inr rfl, Or.inr rfl, Or.inr rfl, Or.inr rfl, Or.inr rfl, trivial⟩ h
    · replace h := h.2 c4
      refine g_il zp86 rfl rfl rfl ?_
      refine g_is (ls' := [zR 32, zI l1, zI l2, zI l3, zI l4, zI l6, zI l6]) zp86 rfl rfl (Nat.le_of_ble_eq_true rfl) rfl ?_
      refine g_inc (ls' := [zR 32, zI l1, zI l2, zI l3, zI l4, zI l6, zI (w32 (l6 + 1))]) zp86 rfl rfl rfl rfl ?_
      refine g_goto zp86 rfl ?_
      exact g_weak (ls' := [zR 32, zI l1, zI l2, zI l3, zI l4, zI l6, zI (w32 (l6 + 1))]) ⟨Or.inr rfl, Or.inr rfl, Or.inr rfl, Or.inr rfl, Or.inr rfl, Or.inr rfl, Or.inr rfl, trivial⟩ h
  · replace h := h.2 c2
    refine g_inc (ls' := [zR 32, zI l1, zI l2, zI l3, zI (w32 (l4 + 1)), zI l5, zI l6]) zp86 rfl rfl rfl rfl ?_
    refine g_al zp86 rfl rfl rfl (by decide) ?_
    refine g_get (v := zR 50) zp86 rfl rfl rfl ⟨rfl, by decide, (by decide)⟩ rfl ?_
    refine g_il zp86 rfl rfl rfl ?_
    refine g_ald (v := zL (H 50 l6)) zp86 rfl rfl rfl rfl c1 rfl ?_
    refine g_al zp86 rfl rfl rfl (by decide) ?_
    refine g_get (v := zR 50) zp86 rfl rfl rfl ⟨rfl, by decide, (by decide)⟩ rfl ?_
    refine g_il zp86 rfl rfl rfl ?_
    obtain ⟨c5, h⟩ := h
    refine g_ald (v := zL (H 50 l5)) zp86 rfl rfl rfl rfl c5 rfl ?_
    refine g_lcmp zp86 rfl rfl rfl rfl zc5 (fun c6 => ?_) (fun c6 => ?_)
    · replace h := h.1 c6
      refine g_inc (ls' := [zR 32, zI l1, zI l2, zI l3, zI (w32 (l4 + 1)), zI l5, zI (w32 (l6 + 1))]) zp86 rfl rfl rfl rfl ?_
      refine g_goto zp86 rfl ?_
      exact g_weak (ls' := [zR 32, zI l1, zI l2, zI l3, zI (w32 (l4 + 1)), zI l5, zI (w32 (l6 + 1))]) ⟨Or.inr rfl, Or.inr rfl, Or.inr rfl, Or.inr rfl, Or.inr rfl, Or.inr rfl, Or.inr rfl, trivial⟩ h
    · replace h := h.2 c6
      refine g_il zp86 rfl rfl rfl ?_
      refine g_is (ls' := [zR 32, zI l1, zI l2, zI l3, zI (w32 (l4 + 1)), zI l6, zI l6]) zp86 rfl rfl (Nat.le_of_ble_eq_true rfl) rfl ?_
      refine g_inc (ls' := [zR 32, zI l1, zI l2, zI l3, zI (w32 (l4 + 1)), zI l6, zI (w32 (l6 + 1))]) zp86 rfl rfl rfl rfl ?_
      refine g_goto zp86 rfl ?_
      exact g_weak (ls' := [zR 32, zI l1, zI l2, zI l3, zI (w32 (l4 + 1)), zI l6, zI (w32 (l6 + 1))]) ⟨Or.inr rfl, Or.inr rfl, Or.inr rfl, Or.inr rfl, Or.inr rfl, Or.inr rfl, Or.inr rfl, trivial⟩ h
theorem zp87 : zprog.getD 87 [] = zk87 := rfl
theorem x87_0 {w : zWt} {d : Nat} {H : zHt} {K : zHt → Prop} {l1 : Int}
    (h : zgo w (d + 1) 87 2 [zR 32, zI l1, zI 0, zJ, zJ, zJ, zJ] [] H (zQV K)) :
    zclV w (d + 1) 87 [zR 32, zI l1] H K := by
  show zgo w (d + 1) 87 0 [zR 32, zI l1, zJ, zJ, zJ, zJ, zJ] [] H (zQV K)
  refine g_ic zp87 rfl rfl ?_
  refine g_is (ls' := [zR 32, zI l1, zI 0, zJ, zJ, zJ, zJ]) zp87 rfl rfl (Nat.le_of_ble_eq_true rfl) rfl ?_
  exact g_weak (ls' := [zR 32, zI l1, zI 0, zJ, zJ, zJ, zJ]) ⟨Or.inr rfl, Or.inr rfl, Or.inr rfl, Or.inr rfl, Or.inr rfl, Or.inr rfl, Or.inr rfl, trivial⟩ h
theorem x87_2 {w : zWt} {d : Nat} {H : zHt} {K : zHt → Prop} {l1 : Int} {l2 : Int}
    (h : (501 ≤ l2 → zgo w (d + 1) 87 26 [zR 32, zI l1, zI 1, zJ, zJ, zJ, zJ] [] H (zQV K)) ∧ (l2 < 501 → (0 ≤ l2 ∧ l2 < 501) ∧ zgo w (d + 1) 87 2 [zR 32, zI l1, zI (w32 (l2 + 1)), zJ, zJ, zJ, zJ] [] (zup H 51 l2 l2) (zQV K))) :
    zgo w (d + 1) 87 2 [zR 32, zI l1, zI l2, zJ, zJ, zJ, zJ] [] H (zQV K) := by
  refine g_il zp87 rfl rfl rfl ?_
  refine g_al zp87 rfl rfl rfl (by decide) ?_
  refine g_get (v := zR 51) zp87 rfl rfl rfl ⟨rfl, by decide, (by decide)⟩ rfl ?_
  refine g_len zp87 rfl rfl rfl (by decide) ?_
  refine g_icmp zp87 rfl rfl zc3 (fun c1 => ?_) (fun c1 => ?_)
  · replace h := h.1 c1
    refine g_ic zp87 rfl rfl ?_
    refine g_is (ls' := [zR 32, zI l1, zI 1, zJ, zJ, zJ, zJ]) zp87 rfl rfl (Nat.le_of_ble_eq_true rfl) rfl ?_
    exact g_weak (ls' := [zR 32, zI l1, zI 1, zJ, zJ, zJ, zJ]) ⟨Or.inr rfl, Or.inr rfl, Or.inr rfl, Or.inr rfl, Or.inr rfl, Or.inr rfl, Or.inr rfl, trivial⟩ h
  · replace h := h.2 c1
    refine g_al zp87 rfl rfl rfl (by decide) ?_
    refine g_get (v := zR 51) zp87 rfl rfl rfl ⟨rfl, by decide, (by decide)⟩ rfl ?_
    refine g_il zp87 rfl rfl rfl ?_
    refine g_il zp87 rfl rfl rfl ?_
    obtain ⟨c2, h⟩ := h
    refine g_iast zp87 rfl rfl rfl (by decide) rfl c2 ?_
    refine g_inc (ls' := [zR 32, zI l1, zI (w32 (l2 + 1)), zJ, zJ, zJ, zJ]) zp87 rfl rfl rfl rfl ?_
    refine g_goto zp87 rfl ?_
    exact g_weak (ls' := [zR 32, zI l1, zI (w32 (l2 + 1)), zJ, zJ, zJ, zJ]) ⟨Or.inr rfl, Or.inr rfl, Or.inr rfl, Or.inr rfl, Or.inr rfl, Or.inr rfl, Or.inr rfl, trivial⟩ h
theorem x87_26 {w : zWt} {d : Nat} {H : zHt} {K : zHt → Prop} {l1 : Int} {l2 : Int}
    (h : (l1 < l2 → K H) ∧ (l2 ≤ l1 → zclL w d 52 [zR 32, zI l2] H (fun x3 H2 => (x3 < 1 → zgo w (d + 1) 87 26 [zR 32, zI l1, zI (w32 (l2 + 1)), zJ, zJ, zJ, zJ] [] H2 (zQV K)) ∧ (1 ≤ x3 → (x3 ≤ l1 → zclI w d 88 [zR 32, zI l2] H2 (fun x7 H6 => zclI w d 88 [zR 32, zI (w32 x3)] H6 (fun x9 H8 => (0 ≤ (if x7 < x9 then x9 else x7) ∧ (if x7 < x9 then x9 else x7) < 501) ∧ zgo w (d + 1) 87 26 [zR 32, zI l1, zI (w32 (l2 + 1)), zJ, zJ, zJ, zJ] [] (zup H8 51 (if x7 < x9 then x9 else x7) (if x9 < x7 then x9 else x7)) (zQV K)))) ∧ (l1 < x3 → zgo w (d + 1) 87 26 [zR 32, zI l1, zI (w32 (l2 + 1)), zJ, zJ, zJ, zJ] [] H2 (zQV K)))))) :
    zgo w (d + 1) 87 26 [zR 32, zI l1, zI l2, zJ, zJ, zJ, zJ] [] H (zQV K) := by
  refine g_il zp87 rfl rfl rfl ?_
  refine g_il zp87 rfl rfl rfl ?_
  refine g_icmp zp87 rfl rfl zc4 (fun c1 => ?_) (fun c1 => ?_)
  · replace h := h.1 c1
    exact g_ret zp87 rfl rfl ⟨rfl, h⟩
  · replace h := h.2 c1
    refine g_al zp87 rfl rfl rfl (by decide) ?_
    refine g_il zp87 rfl rfl rfl ?_
    refine g_callL (as := [zR 32, zI l2]) (rest := []) zp87 rfl rfl (Nat.succ_pos _) rfl rfl (Nat.le_of_ble_eq_true rfl) (Nat.le_of_ble_eq_true rfl) rfl rfl h (fun x3 H2 h => ?_)
    refine g_ls (ls' := [zR 32, zI l1, zI l2, zL x3, zJ, zJ, zJ]) zp87 rfl rfl (Nat.le_of_ble_eq_true rfl) rfl ?_
    refine g_ll zp87 rfl rfl rfl ?_
    refine g_lc zp87 rfl rfl ?_
    refine g_lcmp zp87 rfl rfl rfl rfl zc2 (fun c4 => ?_) (fun c4 => ?_)
    · replace h := h.1 c4
      refine g_inc (ls' := [zR 32, zI l1, zI (w32 (l2 + 1)), zL x3, zJ, zJ, zJ]) zp87 rfl rfl rfl rfl ?_
      refine g_goto zp87 rfl ?_
      exact g_weak (ls' := [zR 32, zI l1, zI (w32 (l2 + 1)), zJ, zJ, zJ, zJ]) ⟨Or.inr rfl, Or.inr rfl, Or.inr rfl, Or.inl rfl, Or.inr rfl, Or.inr rfl, Or.inr rfl, trivial⟩ h
    · replace h := h.2 c4
      refine g_ll zp87 rfl rfl rfl ?_
      refine g_il zp87 rfl rfl rfl ?_
      refine g_i2l zp87 rfl rfl ?_
      refine g_lcmp zp87 rfl rfl rfl rfl zc5 (fun c5 => ?_) (fun c5 => ?_)
      · replace h := h.1 c5
        refine g_al zp87 rfl rfl rfl (by decide) ?_
        refine g_il zp87 rfl rfl rfl ?_
        refine g_callI (as := [zR 32, zI l2]) (rest := []) zp87 rfl rfl (Nat.succ_pos _) rfl rfl (Nat.le_of_ble_eq_true rfl) (Nat.le_of_ble_eq_true rfl) rfl rfl h (fun x7 H6 h => ?_)
        refine g_is (ls' := [zR 32, zI l1, zI l2, zL x3, zJ, zI x7, zJ]) zp87 rfl rfl (Nat.le_of_ble_eq_true rfl) rfl ?_
        refine g_al zp87 rfl rfl rfl (by decide) ?_
        refine g_ll zp87 rfl rfl rfl ?_
        refine g_l2i zp87 rfl rfl ?_
        refine g_callI (as := [zR 32, zI (w32 x3)]) (rest := []) zp87 rfl rfl (Nat.succ_pos _) rfl rfl (Nat.le_of_ble_eq_true rfl) (Nat.le_of_ble_eq_true rfl) rfl rfl h (fun x9 H8 h => ?_)
        refine g_is (ls' := [zR 32, zI l1, zI l2, zL x3, zJ, zI x7, zI x9]) zp87 rfl rfl (Nat.le_of_ble_eq_true rfl) rfl ?_
        refine g_al zp87 rfl rfl rfl (by decide) ?_
        refine g_get (v := zR 51) zp87 rfl rfl rfl ⟨rfl, by decide, (by decide)⟩ rfl ?_
        refine g_il zp87 rfl rfl rfl ?_
        refine g_il zp87 rfl rfl rfl ?_
        refine g_mmax zp87 rfl rfl (Nat.le_of_ble_eq_true rfl) ?_
        refine g_il zp87 rfl rfl rfl ?_
        refine g_il zp87 rfl rfl rfl ?_
        refine g_mmin zp87 rfl rfl (Nat.le_of_ble_eq_true rfl) ?_
        obtain ⟨c10, h⟩ := h
        refine g_iast zp87 rfl rfl rfl (by decide) rfl c10 ?_
        refine g_inc (ls' := [zR 32, zI l1, zI (w32 (l2 + 1)), zL x3, zJ, zI x7, zI x9]) zp87 rfl rfl rfl rfl ?_
        refine g_goto zp87 rfl ?_
        exact g_weak (ls' := [zR 32, zI l1, zI (w32 (l2 + 1)), zJ, zJ, zJ, zJ]) ⟨Or.inr rfl, Or.inr rfl, Or.inr rfl, Or.inl rfl, Or.inr rfl, Or.inl rfl, Or.inl rfl, trivial⟩ h
      · replace h := h.2 c5
        refine g_goto zp87 rfl ?_
        refine g_inc (ls' := [zR 32, zI l1, zI (w32 (l2 + 1)), zL x3, zJ, zJ, zJ]) zp87 rfl rfl rfl rfl ?_
        refine g_goto zp87 rfl ?_
        exact g_weak (ls' := [zR 32, zI l1, zI (w32 (l2 + 1)), zJ, zJ, zJ, zJ]) ⟨Or.inr rfl, Or.inr rfl, Or.inr rfl, Or.inl rfl, Or.inr rfl, Or.inr rfl, Or.inr rfl, trivial⟩ h
theorem zp88 : zprog.getD 88 [] = zk88 := rfl
theorem x88_0 {w : zWt} {d : Nat} {H : zHt} {K : Int → zHt → Prop} {l1 : Int}
    (h : zgo w d 88 4 [zR 32, zJ, zI l1, zI 0] [] H (zQI K)) :
    zclI w d 88 [zR 32, zI l1] H K := by
  show zgo w d 88 0 [zR 32, zI l1, zJ, zJ] [] H (zQI K)
  refine g_il zp88 rfl rfl rfl ?_
  refine g_is (ls' := [zR 32, zI l1, zI l1, zJ]) zp88 rfl rfl (Nat.le_of_ble_eq_true rfl) rfl ?_
  refine g_ic zp88 rfl rfl ?_
  refine g_is (ls' := [zR 32, zI l1, zI l1, zI 0]) zp88 rfl rfl (Nat.le_of_ble_eq_true rfl) rfl ?_
  exact g_weak (ls' := [zR 32, zJ, zI l1, zI 0]) ⟨Or.inr rfl, Or.inl rfl, Or.inr rfl, Or.inr rfl, trivial⟩ h
theorem x88_4 {w : zWt} {d : Nat} {H : zHt} {K : Int → zHt → Prop} {l2 : Int} {l3 : Int}
    (h : (501 ≤ l3 → K l2 H) ∧ (l3 < 501 → (0 ≤ l2 ∧ l2 < 501) ∧ (l2 ≤ (H 51 l2) → K l2 H) ∧ ((H 51 l2) < l2 → zgo w d 88 4 [zR 32, zJ, zI (H 51 l2), zI (w32 (l3 + 1))] [] H (zQI K)))) :
    zgo w d 88 4 [zR 32, zJ, zI l2, zI l3] [] H (zQI K) := by
  refine g_il zp88 rfl rfl rfl ?_
  refine g_al zp88 rfl rfl rfl (by decide) ?_
  refine g_get (v := zR 51) zp88 rfl rfl rfl ⟨rfl, by decide, (by decide)⟩ rfl ?_
  refine g_len zp88 rfl rfl rfl (by decide) ?_
  refine g_icmp zp88 rfl rfl zc3 (fun c1 => ?_) (fun c1 => ?_)
  · replace h := h.1 c1
    refine g_il zp88 rfl rfl rfl ?_
    exact g_ret zp88 rfl rfl ⟨_, rfl, h⟩
  · replace h := h.2 c1
    refine g_al zp88 rfl rfl rfl (by decide) ?_
    refine g_get (v := zR 51) zp88 rfl rfl rfl ⟨rfl, by decide, (by decide)⟩ rfl ?_
    refine g_il zp88 rfl rfl rfl ?_
    obtain ⟨c2, h⟩ := h
    refine g_ald (v := zI (H 51 l2)) zp88 rfl rfl rfl rfl c2 rfl ?_
    refine g_il zp88 rfl rfl rfl ?_
    refine g_icmp zp88 rfl rfl zc3 (fun c3 => ?_) (fun c3 => ?_)
    · replace h := h.1 c3
      refine g_il zp88 rfl rfl rfl ?_
      exact g_ret zp88 rfl rfl ⟨_, rfl, h⟩
    · replace h := h.2 c3
      refine g_al zp88 rfl rfl rfl (by decide) ?_
      refine g_get (v := zR 51) zp88 rfl rfl rfl ⟨rfl, by decide, (by decide)⟩ rfl ?_
      refine g_il zp88 rfl rfl rfl ?_
      refine g_ald (v := zI (H 51 l2)) zp88 rfl rfl rfl rfl c2 rfl ?_
      refine g_is (ls' := [zR 32, zJ, zI (H 51 l2), zI l3]) zp88 rfl rfl (Nat.le_of_ble_eq_true rfl) rfl ?_
      refine g_inc (ls' := [zR 32, zJ, zI (H 51 l2), zI (w32 (l3 + 1))]) zp88 rfl rfl rfl rfl ?_
      refine g_goto zp88 rfl ?_
      exact g_weak (ls' := [zR 32, zJ, zI (H 51 l2), zI (w32 (l3 + 1))]) ⟨Or.inr rfl, Or.inr rfl, Or.inr rfl, Or.inr rfl, trivial⟩ h
theorem zp89 : zprog.getD 89 [] = zk89 := rfl
theorem x89_0 {w : zWt} {d : Nat} {H : zHt} {K : zHt → Prop} {l1 : Int}
    (h : zgo w (d + 1) 89 2 [zR 32, zI l1, zI 0] [] H (zQV K)) :
    zclV w (d + 1) 89 [zR 32, zI l1] H K := by
  show zgo w (d + 1) 89 0 [zR 32, zI l1, zJ] [] H (zQV K)
  refine g_ic zp89 rfl rfl ?_
  refine g_is (ls' := [zR 32, zI l1, zI 0]) zp89 rfl rfl (Nat.le_of_ble_eq_true rfl) rfl ?_
  exact g_weak (ls' := [zR 32, zI l1, zI 0]) ⟨Or.inr rfl, Or.inr rfl, Or.inr rfl, trivial⟩ h
theorem x89_2 {w : zWt} {d : Nat} {H : zHt} {K : zHt → Prop} {l1 : Int} {l2 : Int}
    (h : (501 ≤ l2 → zgo w (d + 1) 89 26 [zR 32, zI l1, zI 1] [] H (zQV K)) ∧ (l2 < 501 → (0 ≤ l2 ∧ l2 < 501) ∧ zgo w (d + 1) 89 2 [zR 32, zI l1, zI (w32 (l2 + 1))] [] (zup H 50 l2 0) (zQV K))) :
    zgo w (d + 1) 89 2 [zR 32, zI l1, zI l2] [] H (zQV K) := by
  refine g_il zp89 rfl rfl rfl ?_
  refine g_al zp89 rfl rfl rfl (by decide) ?_
  refine g_get (v := zR 50) zp89 rfl rfl rfl ⟨rfl, by decide, (by decide)⟩ rfl ?_
  refine g_len zp89 rfl rfl rfl (by decide) ?_
  refine g_icmp zp89 rfl rfl zc3 (fun c1 => ?_) (fun c1 => ?_)
  · replace h := h.1 c1
    refine g_ic zp89 rfl rfl ?_
    refine g_is (ls' := [zR 32, zI l1, zI 1]) zp89 rfl rfl (Nat.le_of_ble_eq_true rfl) rfl ?_
    exact g_weak (ls' := [zR 32, zI l1, zI 1]) ⟨Or.inr rfl, Or.inr rfl, Or.inr rfl, trivial⟩ h
  · replace h := h.2 c1
    refine g_al zp89 rfl rfl rfl (by decide) ?_
    refine g_get (v := zR 50) zp89 rfl rfl rfl ⟨rfl, by decide, (by decide)⟩ rfl ?_
    refine g_il zp89 rfl rfl rfl ?_
    refine g_lc zp89 rfl rfl ?_
    obtain ⟨c2, h⟩ := h
    refine g_last zp89 rfl rfl rfl (by decide) rfl c2 ?_
    refine g_inc (ls' := [zR 32, zI l1, zI (w32 (l2 + 1))]) zp89 rfl rfl rfl rfl ?_
    refine g_goto zp89 rfl ?_
    exact g_weak (ls' := [zR 32, zI l1, zI (w32 (l2 + 1))]) ⟨Or.inr rfl, Or.inr rfl, Or.inr rfl, trivial⟩ h
theorem x89_26 {w : zWt} {d : Nat} {H : zHt} {K : zHt → Prop} {l1 : Int} {l2 : Int}
    (h : (l1 < l2 → K H) ∧ (l2 ≤ l1 → zclI w d 88 [zR 32, zI l2] H (fun x3 H2 => (0 ≤ x3 ∧ x3 < 501) ∧ zgo w (d + 1) 89 26 [zR 32, zI l1, zI (w32 (l2 + 1))] [] (zup H2 50 x3 (w64 ((H2 50 x3) + 1))) (zQV K)))) :
    zgo w (d + 1) 89 26 [zR 32, zI l1, zI l2] [] H (zQV K) := by
  refine g_il zp89 rfl rfl rfl ?_
  refine g_il zp89 rfl rfl rfl ?_
  refine g_icmp zp89 rfl rfl zc4 (fun c1 => ?_) (fun c1 => ?_)
  · replace h := h.1 c1
    exact g_ret zp89 rfl rfl ⟨rfl, h⟩
  · replace h := h.2 c1
    refine g_al zp89 rfl rfl rfl (by decide) ?_
    refine g_get (v := zR 50) zp89 rfl rfl rfl ⟨rfl, by decide, (by decide)⟩ rfl ?_
    refine g_al zp89 rfl rfl rfl (by decide) ?_
    refine g_il zp89 rfl rfl rfl ?_
    refine g_callI (as := [zR 32, zI l2]) (rest := [zR 50]) zp89 rfl rfl (Nat.succ_pos _) rfl rfl (Nat.le_of_ble_eq_true rfl) (Nat.le_of_ble_eq_true rfl) rfl rfl h (fun x3 H2 h => ?_)
    refine g_dup2 zp89 rfl rfl (fun q => by cases q) rfl ?_
    obtain ⟨c4, h⟩ := h
    refine g_ald (v := zL (H2 50 x3)) zp89 rfl rfl rfl rfl c4 rfl ?_
    refine g_lc zp89 rfl rfl ?_
    refine g_lar (r := w64 ((H2 50 x3) + 1)) zp89 rfl rfl rfl ?_
    refine g_last zp89 rfl rfl rfl (by decide) rfl c4 ?_
    refine g_inc (ls' := [zR 32, zI l1, zI (w32 (l2 + 1))]) zp89 rfl rfl rfl rfl ?_
    refine g_goto zp89 rfl ?_
    exact g_weak (ls' := [zR 32, zI l1, zI (w32 (l2 + 1))]) ⟨Or.inr rfl, Or.inr rfl, Or.inr rfl, trivial⟩ h
theorem zp90 : zprog.getD 90 [] = zk90 := rfl
theorem x90_0 {w : zWt} {d : Nat} {H : zHt} {K : Int → zHt → Prop} {l1 : Int} {l2 : Int}
    (h : (l1 < 1 → zclI w d 13 [zR 32, zI 1] H (fun x3 H2 => K x3 H2)) ∧ (1 ≤ l1 → (2000 < l1 → zclI w d 13 [zR 32, zI 1] H (fun x6 H5 => K x6 H5)) ∧ (l1 ≤ 2000 → ((-1) ≤ l2 → zgo w (d + 1) 90 34 [zR 32, zI l1, zI l2, zL 0, zJ, zI 1, zI 0, zI 1, zJ, zJ] [] H (zQI K)) ∧ (l2 < (-1) → zclI w d 13 [zR 32, zI 1] H (fun x9 H8 => K x9 H8))))) :
    zclI w (d + 1) 90 [zR 32, zI l1, zI l2] H K := by
  show zgo w (d + 1) 90 0 [zR 32, zI l1, zI l2, zJ, zJ, zJ, zJ, zJ, zJ, zJ] [] H (zQI K)
  refine g_il zp90 rfl rfl rfl ?_
  refine g_ic zp90 rfl rfl ?_
  refine g_icmp zp90 rfl rfl zc2 (fun c1 => ?_) (fun c1 => ?_)
  · replace h := h.1 c1
    refine g_al zp90 rfl rfl rfl (by decide) ?_
    refine g_ic zp90 rfl rfl ?_
    refine g_callI (as := [zR 32, zI 1]) (rest := []) zp90 rfl rfl (Nat.succ_pos _) rfl rfl (Nat.le_of_ble_eq_true rfl) (Nat.le_of_ble_eq_true rfl) rfl rfl h (fun x3 H2 h => ?_)
    exact g_ret zp90 rfl rfl ⟨_, rfl, h⟩
  · replace h := h.2 c1
    refine g_il zp90 rfl rfl rfl ?_
    refine g_ic zp90 rfl rfl ?_
    refine g_icmp zp90 rfl rfl zc4 (fun c4 => ?_) (fun c4 => ?_)
    · replace h := h.1 c4
      refine g_al zp90 rfl rfl rfl (by decide) ?_
      refine g_ic zp90 rfl rfl ?_
      refine g_callI (as := [zR 32, zI 1]) (rest := []) zp90 rfl rfl (Nat.succ_pos _) rfl rfl (Nat.le_of_ble_eq_true rfl) (Nat.le_of_ble_eq_true rfl) rfl rfl h (fun x6 H5 h => ?_)
      exact g_ret zp90 rfl rfl ⟨_, rfl, h⟩
    · replace h := h.2 c4
      refine g_il zp90 rfl rfl rfl ?_
      refine g_ic zp90 rfl rfl ?_
      refine g_icmp zp90 rfl rfl zc3 (fun c7 => ?_) (fun c7 => ?_)
      · replace h := h.1 c7
        refine g_lc zp90 rfl rfl ?_
        refine g_ls (ls' := [zR 32, zI l1, zI l2, zL 0, zJ, zJ, zJ, zJ, zJ, zJ]) zp90 rfl rfl (Nat.le_of_ble_eq_true rfl) rfl ?_
        refine g_ic zp90 rfl rfl ?_
        refine g_is (ls' := [zR 32, zI l1, zI l2, zL 0, zJ, zI 1, zJ, zJ, zJ, zJ]) zp90 rfl rfl (Nat.le_of_ble_eq_true rfl) rfl ?_
        refine g_ic zp90 rfl rfl ?_
        refine g_is (ls' := [zR 32, zI l1, zI l2, zL 0, zJ, zI 1, zI 0, zJ, zJ, zJ]) zp90 rfl rfl (Nat.le_of_ble_eq_true rfl) rfl ?_
        refine g_ic zp90 rfl rfl ?_
        refine g_is (ls' := [zR 32, zI l1, zI l2, zL 0, zJ, zI 1, zI 0, zI 1, zJ, zJ]) zp90 rfl rfl (Nat.le_of_ble_eq_true rfl) rfl ?_
        exact g_weak (ls' := [zR 32, zI l1, zI l2, zL 0, zJ, zI 1, zI 0, zI 1, zJ, zJ]) ⟨Or.inr rfl, Or.inr rfl, Or.inr rfl, Or.inr rfl, Or.inr rfl, Or.inr rfl, Or.inr rfl, Or.inr rfl, Or.inr rfl, Or.inr rfl, trivial⟩ h
      · replace h := h.2 c7
        refine g_al zp90 rfl rfl rfl (by decide) ?_
        refine g_ic zp90 rfl rfl ?_
        refine g_callI (as := [zR 32, zI 1]) (rest := []) zp90 rfl rfl (Nat.succ_pos _) rfl rfl (Nat.le_of_ble_eq_true rfl) (Nat.le_of_ble_eq_true rfl) rfl rfl h (fun x9 H8 h => ?_)
        exact g_ret zp90 rfl rfl ⟨_, rfl, h⟩
theorem x90_34 {w : zWt} {d : Nat} {H : zHt} {K : Int → zHt → Prop} {l1 : Int} {l2 : Int} {l3 : Int} {l5 : Int} {l6 : Int} {l7 : Int}
    (h : (l1 < l7 → zclI w d 82 [zR 32, zI l2, zI l6] H (fun x3 H2 => K x3 H2)) ∧ (l7 ≤ l1 → zclL w d 69 [zR 36, zI l7] H (fun x5 H4 => ((w64 (l3 * l7)) < (w64 (x5 * l5)) → (¬ l6 = l2 → zgo w (d + 1) 90 34 [zR 32, zI l1, zI l2, zL x5, zJ, zI l7, zI (w32 (l6 + 1)), zI (w32 (l7 + 1)), zJ, zJ] [] H4 (zQI K)) ∧ (l6 = l2 → zclI w d 39 [zR 32, zI l7] H4 (fun x9 H8 => K x9 H8))) ∧ ((w64 (x5 * l5)) ≤ (w64 (l3 * l7)) → zgo w (d + 1) 90 34 [zR 32, zI l1, zI l2, zL l3, zJ, zI l5, zI l6, zI (w32 (l7 + 1)), zJ, zJ] [] H4 (zQI K))))) :
    zgo w (d + 1) 90 34 [zR 32, zI l1, zI l2, zL l3, zJ, zI l5, zI l6, zI l7, zJ, zJ] [] H (zQI K) := by
  refine g_il zp90 rfl rfl rfl ?_
  refine g_il zp90 rfl rfl rfl ?_
  refine g_icmp zp90 rfl rfl zc4 (fun c1 => ?_) (fun c1 => ?_)
  · replace h := h.1 c1
    refine g_al zp90 rfl rfl rfl (by decide) ?_
    refine g_il zp90 rfl rfl rfl ?_
    refine g_il zp90 rfl rfl rfl ?_
    refine g_callI (as := [zR 32, zI l2, zI l6]) (rest := []) zp90 rfl rfl (Nat.succ_pos _) rfl rfl (Nat.le_of_ble_eq_true rfl) (Nat.le_of_ble_eq_true rfl) rfl rfl h (fun x3 H2 h => ?_)
    exact g_ret zp90 rfl rfl ⟨_, rfl, h⟩
  · replace h := h.2 c1
    refine g_al zp90 rfl rfl rfl (by decide) ?_
    refine g_get (v := zR 36) zp90 rfl rfl rfl ⟨rfl, by decide, (by decide)⟩ rfl ?_
    refine g_il zp90 rfl rfl rfl ?_
    refine g_callL (as := [zR 36, zI l7]) (rest := []) zp90 rfl rfl (Nat.succ_pos _) rfl rfl (Nat.le_of_ble_eq_true rfl) (Nat.le_of_ble_eq_true rfl) rfl rfl h (fun x5 H4 h => ?_)
    refine g_ls (ls' := [zR 32, zI l1, zI l2, zL l3, zJ, zI l5, zI l6, zI l7, zL x5, zJ]) zp90 rfl rfl (Nat.le_of_ble_eq_true rfl) rfl ?_
    refine g_ll zp90 rfl rfl rfl ?_
    refine g_il zp90 rfl rfl rfl ?_
    refine g_i2l zp90 rfl rfl ?_
    refine g_lar (r := w64 (x5 * l5)) zp90 rfl rfl rfl ?_
    refine g_ll zp90 rfl rfl rfl ?_
    refine g_il zp90 rfl rfl rfl ?_
    refine g_i2l zp90 rfl rfl ?_
    refine g_lar (r := w64 (l3 * l7)) zp90 rfl rfl rfl ?_
    refine g_lcmp zp90 rfl rfl rfl rfl zc4 (fun c6 => ?_) (fun c6 => ?_)
    · replace h := h.1 c6
      refine g_ll zp90 rfl rfl rfl ?_
      refine g_ls (ls' := [zR 32, zI l1, zI l2, zL x5, zJ, zI l5, zI l6, zI l7, zL x5, zJ]) zp90 rfl rfl (Nat.le_of_ble_eq_true rfl) rfl ?_
      refine g_il zp90 rfl rfl rfl ?_
      refine g_is (ls' := [zR 32, zI l1, zI l2, zL x5, zJ, zI l7, zI l6, zI l7, zL x5, zJ]) zp90 rfl rfl (Nat.le_of_ble_eq_true rfl) rfl ?_
      refine g_il zp90 rfl rfl rfl ?_
      refine g_il zp90 rfl rfl rfl ?_
      refine g_icmp zp90 rfl rfl zc1 (fun c7 => ?_) (fun c7 => ?_)
      · replace h := h.1 c7
        refine g_inc (ls' := [zR 32, zI l1, zI l2, zL x5, zJ, zI l7, zI (w32 (l6 + 1)), zI l7, zL x5, zJ]) zp90 rfl rfl rfl rfl ?_
        refine g_inc (ls' := [zR 32, zI l1, zI l2, zL x5, zJ, zI l7, zI (w32 (l6 + 1)), zI (w32 (l7 + 1)), zL x5, zJ]) zp90 rfl rfl rfl rfl ?_
        refine g_goto zp90 rfl ?_
        exact g_weak (ls' := [zR 32, zI l1, zI l2, zL x5, zJ, zI l7, zI (w32 (l6 + 1)), zI (w32 (l7 + 1)), zJ, zJ]) ⟨Or.inr rfl, Or.inr rfl, Or.inr rfl, Or.inr rfl, Or.inr rfl, Or.inr rfl, Or.inr rfl, Or.inr rfl, Or.inl rfl, Or.inr rfl, trivial⟩ h
      · replace h := h.2 c7
        refine g_al zp90 rfl rfl rfl (by decide) ?_
        refine g_il zp90 rfl rfl rfl ?_
        refine g_callI (as := [zR 32, zI l7]) (rest := []) zp90 rfl rfl (Nat.succ_pos _) rfl rfl (Nat.le_of_ble_eq_true rfl) (Nat.le_of_ble_eq_true rfl) rfl rfl h (fun x9 H8 h => ?_)
        exact g_ret zp90 rfl rfl ⟨_, rfl, h⟩
    · replace h := h.2 c6
      refine g_goto zp90 rfl ?_
      refine g_inc (ls' := [zR 32, zI l1, zI l2, zL l3, zJ, zI l5, zI l6, zI (w32 (l7 + 1)), zL x5, zJ]) zp90 rfl rfl rfl rfl ?_
      refine g_goto zp90 rfl ?_
      exact g_weak (ls' := [zR 32, zI l1, zI l2, zL l3, zJ, zI l5, zI l6, zI (w32 (l7 + 1)), zJ, zJ]) ⟨Or.inr rfl, Or.inr rfl, Or.inr rfl, Or.inr rfl, Or.inr rfl, Or.inr rfl, Or.inr rfl, Or.inr rfl, Or.inl rfl, Or.inr rfl, trivial⟩ h
theorem zp91 : zprog.getD 91 [] = zk91 := rfl
theorem x91_0 {w : zWt} {d : Nat} {H : zHt} {K : Int → zHt → Prop} {l1 : Int}
    (h : zclI w d 43 [zI l1] H (fun x2 H1 => (¬ x2 = 0 → zclV w d 45 [zR 36, zI l1] H1 (fun H4 => zclI w d 92 [zR 36] H4 (fun x7 H6 => (x7 = 0 → zclI w d 39 [zR 32, zI 0] H6 (fun x10 H9 => K x10 H9)) ∧ (¬ x7 = 0 → zclI w d 39 [zR 32, zI 1] H6 (fun x12 H11 => K x12 H11))))) ∧ (x2 = 0 → zclI w d 13 [zR 32, zI 1] H1 (fun x14 H13 => K x14 H13)))) :
    zclI w (d + 1) 91 [zR 32, zI l1] H K := by
  show zgo w (d + 1) 91 0 [zR 32, zI l1] [] H (zQI K)
  refine g_il zp91 rfl rfl rfl ?_
  refine g_callI (as := [zI l1]) (rest := []) zp91 rfl rfl (Nat.succ_pos _) rfl rfl (Nat.le_of_ble_eq_true rfl) (Nat.le_of_ble_eq_true rfl) rfl rfl h (fun x2 H1 h => ?_)
  refine g_if zp91 rfl rfl zc1 (fun c3 => ?_) (fun c3 => ?_)
  · replace h := h.1 c3
    refine g_al zp91 rfl rfl rfl (by decide) ?_
    refine g_get (v := zR 36) zp91 rfl rfl rfl ⟨rfl, by decide, (by decide)⟩ rfl ?_
    refine g_il zp91 rfl rfl rfl ?_
    refine g_callV (as := [zR 36, zI l1]) (rest := []) zp91 rfl rfl (Nat.succ_pos _) rfl rfl (Nat.le_of_ble_eq_true rfl) (Nat.le_of_ble_eq_true rfl) rfl rfl h (fun H4 h => ?_)
    refine g_al zp91 rfl rfl rfl (by decide) ?_
    refine g_al zp91 rfl rfl rfl (by decide) ?_
    refine g_get (v := zR 36) zp91 rfl rfl rfl ⟨rfl, by decide, (by decide)⟩ rfl ?_
    refine g_callI (as := [zR 36]) (rest := [zR 32]) zp91 rfl rfl (Nat.succ_pos _) rfl rfl (Nat.le_of_ble_eq_true rfl) (Nat.le_of_ble_eq_true rfl) rfl rfl h (fun x7 H6 h => ?_)
    refine g_if zp91 rfl rfl zc0 (fun c8 => ?_) (fun c8 => ?_)
    · replace h := h.1 c8
      refine g_ic zp91 rfl rfl ?_
      refine g_callI (as := [zR 32, zI 0]) (rest := []) zp91 rfl rfl (Nat.succ_pos _) rfl rfl (Nat.le_of_ble_eq_true rfl) (Nat.le_of_ble_eq_true rfl) rfl rfl h (fun x10 H9 h => ?_)
      exact g_ret zp91 rfl rfl ⟨_, rfl, h⟩
    · replace h := h.2 c8
      refine g_ic zp91 rfl rfl ?_
      refine g_goto zp91 rfl ?_
      refine g_callI (as := [zR 32, zI 1]) (rest := []) zp91 rfl rfl (Nat.succ_pos _) rfl rfl (Nat.le_of_ble_eq_true rfl) (Nat.le_of_ble_eq_true rfl) rfl rfl h (fun x12 H11 h => ?_)
      exact g_ret zp91 rfl rfl ⟨_, rfl, h⟩
  · replace h := h.2 c3
    refine g_al zp91 rfl rfl rfl (by decide) ?_
    refine g_ic zp91 rfl rfl ?_
    refine g_callI (as := [zR 32, zI 1]) (rest := []) zp91 rfl rfl (Nat.succ_pos _) rfl rfl (Nat.le_of_ble_eq_true rfl) (Nat.le_of_ble_eq_true rfl) rfl rfl h (fun x14 H13 h => ?_)
    exact g_ret zp91 rfl rfl ⟨_, rfl, h⟩
theorem zp92 : zprog.getD 92 [] = zk92 := rfl
theorem x92_0 {w : zWt} {d : Nat} {H : zHt} {K : Int → zHt → Prop} 
    (h : zgo w (d + 1) 92 4 [zR 36, zL 1, zJ, zI 0] [] H (zQI K)) :
    zclI w (d + 1) 92 [zR 36] H K := by
  show zgo w (d + 1) 92 0 [zR 36, zJ, zJ, zJ] [] H (zQI K)
  refine g_lc zp92 rfl rfl ?_
  refine g_ls (ls' := [zR 36, zL 1, zJ, zJ]) zp92 rfl rfl (Nat.le_of_ble_eq_true rfl) rfl ?_
  refine g_ic zp92 rfl rfl ?_
  refine g_is (ls' := [zR 36, zL 1, zJ, zI 0]) zp92 rfl rfl (Nat.le_of_ble_eq_true rfl) rfl ?_
  exact g_weak (ls' := [zR 36, zL 1, zJ, zI 0]) ⟨Or.inr rfl, Or.inr rfl, Or.inr rfl, Or.inr rfl, trivial⟩ h
theorem x92_4 {w : zWt} {d : Nat} {H : zHt} {K : Int → zHt → Prop} {l1 : Int} {l3 : Int}
    (h : ((H 36 3) ≤ l3 → K 1 H) ∧ (l3 < (H 36 3) → (0 ≤ l3 ∧ l3 < 9) ∧ ((H 37 l3) ≤ (w64 (l1 + 1)) → zclL w d 59 [zR 36, zI l3] H (fun x5 H4 => zgo w (d + 1) 92 4 [zR 36, zL (w64 (l1 * x5)), zJ, zI (w32 (l3 + 1))] [] H4 (zQI K))) ∧ ((w64 (l1 + 1)) < (H 37 l3) → K 0 H))) :
    zgo w (d + 1) 92 4 [zR 36, zL l1, zJ, zI l3] [] H (zQI K) := by
  refine g_il zp92 rfl rfl rfl ?_
  refine g_al zp92 rfl rfl rfl (by decide) ?_
  refine g_get (v := zI (H 36 3)) zp92 rfl rfl rfl ⟨rfl, by decide, (by decide)⟩ rfl ?_
  refine g_icmp zp92 rfl rfl zc3 (fun c1 => ?_) (fun c1 => ?_)
  · replace h := h.1 c1
    refine g_ic zp92 rfl rfl ?_
    exact g_ret zp92 rfl (zret_b (by decide)) ⟨_, rfl, h⟩
  · replace h := h.2 c1
    refine g_al zp92 rfl rfl rfl (by decide) ?_
    refine g_get (v := zR 37) zp92 rfl rfl rfl ⟨rfl, by decide, (by decide)⟩ rfl ?_
    refine g_il zp92 rfl rfl rfl ?_
    obtain ⟨c2, h⟩ := h
    refine g_ald (v := zI (H 37 l3)) zp92 rfl rfl rfl rfl c2 rfl ?_
    refine g_i2l zp92 rfl rfl ?_
    refine g_ll zp92 rfl rfl rfl ?_
    refine g_lc zp92 rfl rfl ?_
    refine g_lar (r := w64 (l1 + 1)) zp92 rfl rfl rfl ?_
    refine g_lcmp zp92 rfl rfl rfl rfl zc5 (fun c3 => ?_) (fun c3 => ?_)
    · replace h := h.1 c3
      refine g_ll zp92 rfl rfl rfl ?_
      refine g_al zp92 rfl rfl rfl (by decide) ?_
      refine g_il zp92 rfl rfl rfl ?_
      refine g_callL (as := [zR 36, zI l3]) (rest := [zL l1]) zp92 rfl rfl (Nat.succ_pos _) rfl rfl (Nat.le_of_ble_eq_true rfl) (Nat.le_of_ble_eq_true rfl) rfl rfl h (fun x5 H4 h => ?_)
      refine g_lar (r := w64 (l1 * x5)) zp92 rfl rfl rfl ?_
      refine g_ls (ls' := [zR 36, zL (w64 (l1 * x5)), zJ, zI l3]) zp92 rfl rfl (Nat.le_of_ble_eq_true rfl) rfl ?_
      refine g_inc (ls' := [zR 36, zL (w64 (l1 * x5)), zJ, zI (w32 (l3 + 1))]) zp92 rfl rfl rfl rfl ?_
      refine g_goto zp92 rfl ?_
      exact g_weak (ls' := [zR 36, zL (w64 (l1 * x5)), zJ, zI (w32 (l3 + 1))]) ⟨Or.inr rfl, Or.inr rfl, Or.inr rfl, Or.inr rfl, trivial⟩ h
    · replace h := h.2 c3
      refine g_ic zp92 rfl rfl ?_
      exact g_ret zp92 rfl (zret_b (by decide)) ⟨_, rfl, h⟩
theorem zp93 : zprog.getD 93 [] = zk93 := rfl
theorem x93_0 {w : zWt} {d : Nat} {H : zHt} {K : Int → zHt → Prop} {l1 : Int} {l2 : Int}
    (h : zclI w d 43 [zI l1] H (fun x2 H1 => (x2 = 0 → zclI w d 13 [zR 32, zI 1] H1 (fun x5 H4 => K x5 H4)) ∧ (¬ x2 = 0 → ((-1) ≤ l2 → zgo w (d + 1) 93 26 [zR 32, zJ, zI l2, zI l1, zI 0, zI 0] [] H1 (zQI K)) ∧ (l2 < (-1) → zclI w d 13 [zR 32, zI 1] H1 (fun x8 H7 => K x8 H7))))) :
    zclI w (d + 1) 93 [zR 32, zI l1, zI l2] H K := by
  show zgo w (d + 1) 93 0 [zR 32, zI l1, zI l2, zJ, zJ, zJ] [] H (zQI K)
  refine g_il zp93 rfl rfl rfl ?_
  refine g_callI (as := [zI l1]) (rest := []) zp93 rfl rfl (Nat.succ_pos _) rfl rfl (Nat.le_of_ble_eq_true rfl) (Nat.le_of_ble_eq_true rfl) rfl rfl h (fun x2 H1 h => ?_)
  refine g_if zp93 rfl rfl zc0 (fun c3 => ?_) (fun c3 => ?_)
  · replace h := h.1 c3
    refine g_al zp93 rfl rfl rfl (by decide) ?_
    refine g_ic zp93 rfl rfl ?_
    refine g_callI (as := [zR 32, zI 1]) (rest := []) zp93 rfl rfl (Nat.succ_pos _) rfl rfl (Nat.le_of_ble_eq_true rfl) (Nat.le_of_ble_eq_true rfl) rfl rfl h (fun x5 H4 h => ?_)
    exact g_ret zp93 rfl rfl ⟨_, rfl, h⟩
  · replace h := h.2 c3
    refine g_il zp93 rfl rfl rfl ?_
    refine g_ic zp93 rfl rfl ?_
    refine g_icmp zp93 rfl rfl zc3 (fun c6 => ?_) (fun c6 => ?_)
    · replace h := h.1 c6
      refine g_il zp93 rfl rfl rfl ?_
      refine g_is (ls' := [zR 32, zI l1, zI l2, zI l1, zJ, zJ]) zp93 rfl rfl (Nat.le_of_ble_eq_true rfl) rfl ?_
      refine g_ic zp93 rfl rfl ?_
      refine g_is (ls' := [zR 32, zI l1, zI l2, zI l1, zI 0, zJ]) zp93 rfl rfl (Nat.le_of_ble_eq_true rfl) rfl ?_
      refine g_ic zp93 rfl rfl ?_
      refine g_is (ls' := [zR 32, zI l1, zI l2, zI l1, zI 0, zI 0]) zp93 rfl rfl (Nat.le_of_ble_eq_true rfl) rfl ?_
      exact g_weak (ls' := [zR 32, zJ, zI l2, zI l1, zI 0, zI 0]) ⟨Or.inr rfl, Or.inl rfl, Or.inr rfl, Or.inr rfl, Or.inr rfl, Or.inr rfl, trivial⟩ h
    · replace h := h.2 c6
      refine g_al zp93 rfl rfl rfl (by decide) ?_
      refine g_ic zp93 rfl rfl ?_
      refine g_callI (as := [zR 32, zI 1]) (rest := []) zp93 rfl rfl (Nat.succ_pos _) rfl rfl (Nat.le_of_ble_eq_true rfl) (Nat.le_of_ble_eq_true rfl) rfl rfl h (fun x8 H7 h => ?_)
      exact g_ret zp93 rfl rfl ⟨_, rfl, h⟩
theorem x93_26 {w : zWt} {d : Nat} {H : zHt} {K : Int → zHt → Prop} {l2 : Int} {l3 : Int} {l4 : Int} {l5 : Int}
    (h : (100 < l5 → zclI w d 82 [zR 32, zI l2, zI l4] H (fun x3 H2 => K x3 H2)) ∧ (l5 ≤ 100 → (¬ l4 = l2 → (2 < l3 → zclI w d 71 [zR 36, zI l3] H (fun x7 H6 => zgo w (d + 1) 93 26 [zR 32, zJ, zI l2, zI x7, zI (w32 (l4 + 1)), zI (w32 (l5 + 1))] [] H6 (zQI K))) ∧ (l3 ≤ 2 → zclI w d 82 [zR 32, zI l2, zI (w32 (l4 + 1))] H (fun x9 H8 => K x9 H8))) ∧ (l4 = l2 → zclI w d 39 [zR 32, zI l3] H (fun x11 H10 => K x11 H10)))) :
    zgo w (d + 1) 93 26 [zR 32, zJ, zI l2, zI l3, zI l4, zI l5] [] H (zQI K) := by
  refine g_il zp93 rfl rfl rfl ?_
  refine g_ic zp93 rfl rfl ?_
  refine g_icmp zp93 rfl rfl zc4 (fun c1 => ?_) (fun c1 => ?_)
  · replace h := h.1 c1
    refine g_al zp93 rfl rfl rfl (by decide) ?_
    refine g_il zp93 rfl rfl rfl ?_
    refine g_il zp93 rfl rfl rfl ?_
    refine g_callI (as := [zR 32, zI l2, zI l4]) (rest := []) zp93 rfl rfl (Nat.succ_pos _) rfl rfl (Nat.le_of_ble_eq_true rfl) (Nat.le_of_ble_eq_true rfl) rfl rfl h (fun x3 H2 h => ?_)
    exact g_ret zp93 rfl rfl ⟨_, rfl, h⟩
  · replace h := h.2 c1
    refine g_il zp93 rfl rfl rfl ?_
    refine g_il zp93 rfl rfl rfl ?_
    refine g_icmp zp93 rfl rfl zc1 (fun c4 => ?_) (fun c4 => ?_)
    · replace h := h.1 c4
      refine g_inc (ls' := [zR 32, zJ, zI l2, zI l3, zI (w32 (l4 + 1)), zI l5]) zp93 rfl rfl rfl rfl ?_
      refine g_il zp93 rfl rfl rfl ?_
      refine g_ic zp93 rfl rfl ?_
      refine g_icmp zp93 rfl rfl zc4 (fun c5 => ?_) (fun c5 => ?_)
      · replace h := h.1 c5
        refine g_al zp93 rfl rfl rfl (by decide) ?_
        refine g_get (v := zR 36) zp93 rfl rfl rfl ⟨rfl, by decide, (by decide)⟩ rfl ?_
        refine g_il zp93 rfl rfl rfl ?_
        refine g_callI (as := [zR 36, zI l3]) (rest := []) zp93 rfl rfl (Nat.succ_pos _) rfl rfl (Nat.le_of_ble_eq_true rfl) (Nat.le_of_ble_eq_true rfl) rfl rfl h (fun x7 H6 h => ?_)
        refine g_is (ls' := [zR 32, zJ, zI l2, zI x7, zI (w32 (l4 + 1)), zI l5]) zp93 rfl rfl (Nat.le_of_ble_eq_true rfl) rfl ?_
        refine g_inc (ls' := [zR 32, zJ, zI l2, zI x7, zI (w32 (l4 + 1)), zI (w32 (l5 + 1))]) zp93 rfl rfl rfl rfl ?_
        refine g_goto zp93 rfl ?_
        exact g_weak (ls' := [zR 32, zJ, zI l2, zI x7, zI (w32 (l4 + 1)), zI (w32 (l5 + 1))]) ⟨Or.inr rfl, Or.inr rfl, Or.inr rfl, Or.inr rfl, Or.inr rfl, Or.inr rfl, trivial⟩ h
      · replace h := h.2 c5
        refine g_goto zp93 rfl ?_
        refine g_al zp93 rfl rfl rfl (by decide) ?_
        refine g_il zp93 rfl rfl rfl ?_
        refine g_il zp93 rfl rfl rfl ?_
        refine g_callI (as := [zR 32, zI l2, zI (w32 (l4 + 1))]) (rest := []) zp93 rfl rfl (Nat.succ_pos _) rfl rfl (Nat.le_of_ble_eq_true rfl) (Nat.le_of_ble_eq_true rfl) rfl rfl h (fun x9 H8 h => ?_)
        exact g_ret zp93 rfl rfl ⟨_, rfl, h⟩
    · replace h := h.2 c4
      refine g_al zp93 rfl rfl rfl (by decide) ?_
      refine g_il zp93 rfl rfl rfl ?_
      refine g_callI (as := [zR 32, zI l3]) (rest := []) zp93 rfl rfl (Nat.succ_pos _) rfl rfl (Nat.le_of_ble_eq_true rfl) (Nat.le_of_ble_eq_true rfl) rfl rfl h (fun x11 H10 h => ?_)
      exact g_ret zp93 rfl rfl ⟨_, rfl, h⟩
theorem zp94 : zprog.getD 94 [] = zk94 := rfl
theorem x94_0 {w : zWt} {d : Nat} {H : zHt} {K : Int → zHt → Prop} {l1 : Int} {l2 : Int} {l3 : Int}
    (h : zclI w d 43 [zI l1] H (fun x2 H1 => (x2 = 0 → zclI w d 13 [zR 32, zI 1] H1 (fun x5 H4 => K x5 H4)) ∧ (¬ x2 = 0 → zclI w d 44 [zI l3, zI 1] H1 (fun x7 H6 => (¬ x7 = 0 → zclL w d 69 [zR 36, zI l1] H6 (fun x10 H9 => zclI w d 71 [zR 36, zI l1] H9 (fun x12 H11 => (l2 = 0 → zclL w d 77 [zL x10, zL x12, zI l3] H11 (fun x15 H14 => zclL w d 60 [zR 32, zL x15] H14 (fun x17 H16 => K x17 H16))) ∧ (¬ l2 = 0 → zclL w d 77 [zL (w64 (l1 * x12)), zL x10, zI l3] H11 (fun x19 H18 => zclL w d 60 [zR 32, zL x19] H18 (fun x21 H20 => K x21 H20)))))) ∧ (x7 = 0 → zclI w d 13 [zR 32, zI 1] H6 (fun x23 H22 => K x23 H22)))))) :
    zclL w (d + 1) 94 [zR 32, zI l1, zI l2, zI l3] H K := by
  show zgo w (d + 1) 94 0 [zR 32, zI l1, zI l2, zI l3, zJ, zJ, zJ] [] H (zQL K)
  refine g_il zp94 rfl rfl rfl ?_
  refine g_callI (as := [zI l1]) (rest := []) zp94 rfl rfl (Nat.succ_pos _) rfl rfl (Nat.le_of_ble_eq_true rfl) (Nat.le_of_ble_eq_true rfl) rfl rfl h (fun x2 H1 h => ?_)
  refine g_if zp94 rfl rfl zc0 (fun c3 => ?_) (fun c3 => ?_)
  · replace h := h.1 c3
    refine g_al zp94 rfl rfl rfl (by decide) ?_
    refine g_ic zp94 rfl rfl ?_
    refine g_callI (as := [zR 32, zI 1]) (rest := []) zp94 rfl rfl (Nat.succ_pos _) rfl rfl (Nat.le_of_ble_eq_true rfl) (Nat.le_of_ble_eq_true rfl) rfl rfl h (fun x5 H4 h => ?_)
    refine g_i2l zp94 rfl rfl ?_
    exact g_ret zp94 rfl rfl ⟨_, rfl, h⟩
  · replace h := h.2 c3
    refine g_il zp94 rfl rfl rfl ?_
    refine g_ic zp94 rfl rfl ?_
    refine g_callI (as := [zI l3, zI 1]) (rest := []) zp94 rfl rfl (Nat.succ_pos _) rfl rfl (Nat.le_of_ble_eq_true rfl) (Nat.le_of_ble_eq_true rfl) rfl rfl h (fun x7 H6 h => ?_)
    refine g_if zp94 rfl rfl zc1 (fun c8 => ?_) (fun c8 => ?_)
    · replace h := h.1 c8
      refine g_al zp94 rfl rfl rfl (by decide) ?_
      refine g_get (v := zR 36) zp94 rfl rfl rfl ⟨rfl, by decide, (by decide)⟩ rfl ?_
      refine g_il zp94 rfl rfl rfl ?_
      refine g_callL (as := [zR 36, zI l1]) (rest := []) zp94 rfl rfl (Nat.succ_pos _) rfl rfl (Nat.le_of_ble_eq_true rfl) (Nat.le_of_ble_eq_true rfl) rfl rfl h (fun x10 H9 h => ?_)
      refine g_ls (ls' := [zR 32, zI l1, zI l2, zI l3, zL x10, zJ, zJ]) zp94 rfl rfl (Nat.le_of_ble_eq_true rfl) rfl ?_
      refine g_al zp94 rfl rfl rfl (by decide) ?_
      refine g_get (v := zR 36) zp94 rfl rfl rfl ⟨rfl, by decide, (by decide)⟩ rfl ?_
      refine g_il zp94 rfl rfl rfl ?_
      refine g_callI (as := [zR 36, zI l1]) (rest := []) zp94 rfl rfl (Nat.succ_pos _) rfl rfl (Nat.le_of_ble_eq_true rfl) (Nat.le_of_ble_eq_true rfl) rfl rfl h (fun x12 H11 h => ?_)
      refine g_is (ls' := [zR 32, zI l1, zI l2, zI l3, zL x10, zJ, zI x12]) zp94 rfl rfl (Nat.le_of_ble_eq_true rfl) rfl ?_
      refine g_il zp94 rfl rfl rfl ?_
      refine g_if zp94 rfl rfl zc0 (fun c13 => ?_) (fun c13 => ?_)
      · replace h := h.1 c13
        refine g_al zp94 rfl rfl rfl (by decide) ?_
        refine g_ll zp94 rfl rfl rfl ?_
        refine g_il zp94 rfl rfl rfl ?_
        refine g_i2l zp94 rfl rfl ?_
        refine g_il zp94 rfl rfl rfl ?_
        refine g_callL (as := [zL x10, zL x12, zI l3]) (rest := [zR 32]) zp94 rfl rfl (Nat.succ_pos _) rfl rfl (Nat.le_of_ble_eq_true rfl) (Nat.le_of_ble_eq_true rfl) rfl rfl h (fun x15 H14 h => ?_)
        refine g_callL (as := [zR 32, zL x15]) (rest := []) zp94 rfl rfl (Nat.succ_pos _) rfl rfl (Nat.le_of_ble_eq_true rfl) (Nat.le_of_ble_eq_true rfl) rfl rfl h (fun x17 H16 h => ?_)
        exact g_ret zp94 rfl rfl ⟨_, rfl, h⟩
      · replace h := h.2 c13
        refine g_al zp94 rfl rfl rfl (by decide) ?_
        refine g_il zp94 rfl rfl rfl ?_
        refine g_i2l zp94 rfl rfl ?_
        refine g_il zp94 rfl rfl rfl ?_
        refine g_i2l zp94 rfl rfl ?_
        refine g_lar (r := w64 (l1 * x12)) zp94 rfl rfl rfl ?_
        refine g_ll zp94 rfl rfl rfl ?_
        refine g_il zp94 rfl rfl rfl ?_
        refine g_callL (as := [zL (w64 (l1 * x12)), zL x10, zI l3]) (rest := [zR 32]) zp94 rfl rfl (Nat.succ_pos _) rfl rfl (Nat.le_of_ble_eq_true rfl) (Nat.le_of_ble_eq_true rfl) rfl rfl h (fun x19 H18 h => ?_)
        refine g_callL (as := [zR 32, zL x19]) (rest := []) zp94 rfl rfl (Nat.succ_pos _) rfl rfl (Nat.le_of_ble_eq_true rfl) (Nat.le_of_ble_eq_true rfl) rfl rfl h (fun x21 H20 h => ?_)
        exact g_ret zp94 rfl rfl ⟨_, rfl, h⟩
    · replace h := h.2 c8
      refine g_al zp94 rfl rfl rfl (by decide) ?_
      refine g_ic zp94 rfl rfl ?_
      refine g_callI (as := [zR 32, zI 1]) (rest := []) zp94 rfl rfl (Nat.succ_pos _) rfl rfl (Nat.le_of_ble_eq_true rfl) (Nat.le_of_ble_eq_true rfl) rfl rfl h (fun x23 H22 h => ?_)
      refine g_i2l zp94 rfl rfl ?_
      exact g_ret zp94 rfl rfl ⟨_, rfl, h⟩
theorem zp95 : zprog.getD 95 [] = zk95 := rfl
theorem x95_0 {w : zWt} {d : Nat} {H : zHt} {K : Int → zHt → Prop} {l1 : Int} {l2 : Int} {l3 : Int}
    (h : (l1 < 1 → zclI w d 13 [zR 32, zI 1] H (fun x3 H2 => K x3 H2)) ∧ (1 ≤ l1 → (500 < l1 → zclI w d 13 [zR 32, zI 1] H (fun x6 H5 => K x6 H5)) ∧ (l1 ≤ 500 → (l2 < 1 → zclI w d 13 [zR 32, zI 1] H (fun x9 H8 => K x9 H8)) ∧ (1 ≤ l2 → (2000 < l2 → zclI w d 13 [zR 32, zI 1] H (fun x12 H11 => K x12 H11)) ∧ (l2 ≤ 2000 → zclI w d 44 [zI l3, zI 1] H (fun x14 H13 => (¬ x14 = 0 → zclV w d 96 [zR 32] H13 (fun H16 => zgo w (d + 1) 95 45 [zR 32, zI l1, zI l2, zI l3, zI 1, zJ, zJ] [] H16 (zQI K))) ∧ (x14 = 0 → zclI w d 13 [zR 32, zI 1] H13 (fun x19 H18 => K x19 H18)))))))) :
    zclI w (d + 1) 95 [zR 32, zI l1, zI l2, zI l3] H K := by
  show zgo w (d + 1) 95 0 [zR 32, zI l1, zI l2, zI l3, zJ, zJ, zJ] [] H (zQI K)
  refine g_il zp95 rfl rfl rfl ?_
  refine g_ic zp95 rfl rfl ?_
  refine g_icmp zp95 rfl rfl zc2 (fun c1 => ?_) (fun c1 => ?_)
  · replace h := h.1 c1
    refine g_al zp95 rfl rfl rfl (by decide) ?_
    refine g_ic zp95 rfl rfl ?_
    refine g_callI (as := [zR 32, zI 1]) (rest := []) zp95 rfl rfl (Nat.succ_pos _) rfl rfl (Nat.le_of_ble_eq_true rfl) (Nat.le_of_ble_eq_true rfl) rfl rfl h (fun x3 H2 h => ?_)
    exact g_ret zp95 rfl rfl ⟨_, rfl, h⟩
  · replace h := h.2 c1
    refine g_il zp95 rfl rfl rfl ?_
    refine g_ic zp95 rfl rfl ?_
    refine g_icmp zp95 rfl rfl zc4 (fun c4 => ?_) (fun c4 => ?_)
    · replace h := h.1 c4
      refine g_al zp95 rfl rfl rfl (by decide) ?_
      refine g_ic zp95 rfl rfl ?_
      refine g_callI (as := [zR 32, zI 1]) (rest := []) zp95 rfl rfl (Nat.succ_pos _) rfl rfl (Nat.le_of_ble_eq_true rfl) (Nat.le_of_ble_eq_true rfl) rfl rfl h (fun x6 H5 h => ?_)
      exact g_ret zp95 rfl rfl ⟨_, rfl, h⟩
    · replace h := h.2 c4
      refine g_il zp95 rfl rfl rfl ?_
      refine g_ic zp95 rfl rfl ?_
      refine g_icmp zp95 rfl rfl zc2 (fun c7 => ?_) (fun c7 => ?_)
      · replace h := h.1 c7
        refine g_al zp95 rfl rfl rfl (by decide) ?_
        refine g_ic zp95 rfl rfl ?_
        refine g_callI (as := [zR 32, zI 1]) (rest := []) zp95 rfl rfl (Nat.succ_pos _) rfl rfl (Nat.le_of_ble_eq_true rfl) (Nat.le_of_ble_eq_true rfl) rfl rfl h (fun x9 H8 h => ?_)
        exact g_ret zp95 rfl rfl ⟨_, rfl, h⟩
      · replace h := h.2 c7
        refine g_il zp95 rfl rfl rfl ?_
        refine g_ic zp95 rfl rfl ?_
        refine g_icmp zp95 rfl rfl zc4 (fun c10 => ?_) (fun c10 => ?_)
        · replace h := h.1 c10
          refine g_al zp95 rfl rfl rfl (by decide) ?_
          refine g_ic zp95 rfl rfl ?_
          refine g_callI (as := [zR 32, zI 1]) (rest := []) zp95 rfl rfl (Nat.succ_pos _) rfl rfl (Nat.le_of_ble_eq_true rfl) (Nat.le_of_ble_eq_true rfl) rfl rfl h (fun x12 H11 h => ?_)
          exact g_ret zp95 rfl rfl ⟨_, rfl, h⟩
        · replace h := h.2 c10
          refine g_il zp95 rfl rfl rfl ?_
          refine g_ic zp95 rfl rfl ?_
          refine g_callI (as := [zI l3, zI 1]) (rest := []) zp95 rfl rfl (Nat.succ_pos _) rfl rfl (Nat.le_of_ble_eq_true rfl) (Nat.le_of_ble_eq_true rfl) rfl rfl h (fun x14 H13 h => ?_)
          refine g_if zp95 rfl rfl zc1 (fun c15 => ?_) (fun c15 => ?_)
          · replace h := h.1 c15
            refine g_al zp95 rfl rfl rfl (by decide) ?_
            refine g_callV (as := [zR 32]) (rest := []) zp95 rfl rfl (Nat.succ_pos _) rfl rfl (Nat.le_of_ble_eq_true rfl) (Nat.le_of_ble_eq_true rfl) rfl rfl h (fun H16 h => ?_)
            refine g_ic zp95 rfl rfl ?_
            refine g_is (ls' := [zR 32, zI l1, zI l2, zI l3, zI 1, zJ, zJ]) zp95 rfl rfl (Nat.le_of_ble_eq_true rfl) rfl ?_
            exact g_weak (ls' := [zR 32, zI l1, zI l2, zI l3, zI 1, zJ, zJ]) ⟨Or.inr rfl, Or.inr rfl, Or.inr rfl, Or.inr rfl, Or.inr rfl, Or.inr rfl, Or.inr rfl, trivial⟩ h
          · replace h := h.2 c15
            refine g_al zp95 rfl rfl rfl (by decide) ?_
            refine g_ic zp95 rfl rfl ?_
            refine g_callI (as := [zR 32, zI 1]) (rest := []) zp95 rfl rfl (Nat.succ_pos _) rfl rfl (Nat.le_of_ble_eq_true rfl) (Nat.le_of_ble_eq_true rfl) rfl rfl h (fun x19 H18 h => ?_)
            exact g_ret zp95 rfl rfl ⟨_, rfl, h⟩
theorem x95_45 {w : zWt} {d : Nat} {H : zHt} {K : Int → zHt → Prop} {l1 : Int} {l2 : Int} {l3 : Int} {l4 : Int}
    (h : (l2 < l4 → zgo w (d + 1) 95 99 [zR 32, zI l1, zJ, zI l3, zI 0, zI 0, zI 1] [] H (zQI K)) ∧ (l4 ≤ l2 → zclL w d 52 [zR 32, zI l4] H (fun x3 H2 => (501 ≤ x3 → zgo w (d + 1) 95 45 [zR 32, zI l1, zI l2, zI l3, zI (w32 (l4 + 1)), zJ, zJ] [] H2 (zQI K)) ∧ (x3 < 501 → (0 ≤ (w32 (if x3 < 0 then 0 else x3)) ∧ (w32 (if x3 < 0 then 0 else x3)) < 501) ∧ zgo w (d + 1) 95 45 [zR 32, zI l1, zI l2, zI l3, zI (w32 (l4 + 1)), zJ, zJ] [] (zup H2 51 (w32 (if x3 < 0 then 0 else x3)) 1) (zQI K))))) :
    zgo w (d + 1) 95 45 [zR 32, zI l1, zI l2, zI l3, zI l4, zJ, zJ] [] H (zQI K) := by
  refine g_il zp95 rfl rfl rfl ?_
  refine g_il zp95 rfl rfl rfl ?_
  refine g_icmp zp95 rfl rfl zc4 (fun c1 => ?_) (fun c1 => ?_)
  · replace h := h.1 c1
    refine g_ic zp95 rfl rfl ?_
    refine g_is (ls' := [zR 32, zI l1, zI l2, zI l3, zI 0, zJ, zJ]) zp95 rfl rfl (Nat.le_of_ble_eq_true rfl) rfl ?_
    refine g_ic zp95 rfl rfl ?_
    refine g_is (ls' := [zR 32, zI l1, zI l2, zI l3, zI 0, zI 0, zJ]) zp95 rfl rfl (Nat.le_of_ble_eq_true rfl) rfl ?_
    refine g_ic zp95 rfl rfl ?_
    refine g_is (ls' := [zR 32, zI l1, zI l2, zI l3, zI 0, zI 0, zI 1]) zp95 rfl rfl (Nat.le_of_ble_eq_true rfl) rfl ?_
    exact g_weak (ls' := [zR 32, zI l1, zJ, zI l3, zI 0, zI 0, zI 1]) ⟨Or.inr rfl, Or.inr rfl, Or.inl rfl, Or.inr rfl, Or.inr rfl, Or.inr rfl, Or.inr rfl, trivial⟩ h
  · replace h := h.2 c1
    refine g_al zp95 rfl rfl rfl (by decide) ?_
    refine g_il zp95 rfl rfl rfl ?_
    refine g_callL (as := [zR 32, zI l4]) (rest := []) zp95 rfl rfl (Nat.succ_pos _) rfl rfl (Nat.le_of_ble_eq_true rfl) (Nat.le_of_ble_eq_true rfl) rfl rfl h (fun x3 H2 h => ?_)
    refine g_ls (ls' := [zR 32, zI l1, zI l2, zI l3, zI l4, zL x3, zJ]) zp95 rfl rfl (Nat.le_of_ble_eq_true rfl) rfl ?_
    refine g_ll zp95 rfl rfl rfl ?_
    refine g_al zp95 rfl rfl rfl (by decide) ?_
    refine g_get (v := zR 51) zp95 rfl rfl rfl ⟨rfl, by decide, (by decide)⟩ rfl ?_
    refine g_len zp95 rfl rfl rfl (by decide) ?_
    refine g_i2l zp95 rfl rfl ?_
    refine g_lcmp zp95 rfl rfl rfl rfl zc3 (fun c4 => ?_) (fun c4 => ?_)
    · replace h := h.1 c4
      refine g_inc (ls' := [zR 32, zI l1, zI l2, zI l3, zI (w32 (l4 + 1)), zL x3, zJ]) zp95 rfl rfl rfl rfl ?_
      refine g_goto zp95 rfl ?_
      exact g_weak (ls' := [zR 32, zI l1, zI l2, zI l3, zI (w32 (l4 + 1)), zJ, zJ]) ⟨Or.inr rfl, Or.inr rfl, Or.inr rfl, Or.inr rfl, Or.inr rfl, Or.inl rfl, Or.inr rfl, trivial⟩ h
    · replace h := h.2 c4
      refine g_al zp95 rfl rfl rfl (by decide) ?_
      refine g_get (v := zR 51) zp95 rfl rfl rfl ⟨rfl, by decide, (by decide)⟩ rfl ?_
      refine g_lc zp95 rfl rfl ?_
      refine g_ll zp95 rfl rfl rfl ?_
      refine g_mmaxL zp95 rfl rfl (Nat.le_of_ble_eq_true rfl) ?_
      refine g_l2i zp95 rfl rfl ?_
      refine g_ic zp95 rfl rfl ?_
      obtain ⟨c5, h⟩ := h
      refine g_iast zp95 rfl rfl rfl (by decide) rfl c5 ?_
      refine g_inc (ls' := [zR 32, zI l1, zI l2, zI l3, zI (w32 (l4 + 1)), zL x3, zJ]) zp95 rfl rfl rfl rfl ?_
      refine g_goto zp95 rfl ?_
      exact g_weak (ls' := [zR 32, zI l1, zI l2, zI l3, zI (w32 (l4 + 1)), zJ, zJ]) ⟨Or.inr rfl, Or.inr rfl, Or.inr rfl, Or.inr rfl, Or.inr rfl, Or.inl rfl, Or.inr rfl, trivial⟩ h
theorem x95_99 {w : zWt} {d : Nat} {H : zHt} {K : Int → zHt → Prop} {l1 : Int} {l3 : Int} {l4 : Int} {l5 : Int} {l6 : Int}
    (h : (l1 < l6 → (¬ l3 = 0 → (¬ l4 = 0 → zclI w d 39 [zR 32, zI l5] H (fun x5 H4 => K x5 H4)) ∧ (l4 = 0 → zclI w d 13 [zR 32, zI 5] H (fun x7 H6 => K x7 H6))) ∧ (l3 = 0 → zclI w d 39 [zR 32, zI l4] H (fun x9 H8 => K x9 H8))) ∧ (l6 ≤ l1 → (501 ≤ l6 → (¬ l3 = 0 → (¬ l4 = 0 → zclI w d 39 [zR 32, zI l5] H (fun x14 H13 => K x14 H13)) ∧ (l4 = 0 → zclI w d 13 [zR 32, zI 5] H (fun x16 H15 => K x16 H15))) ∧ (l3 = 0 → zclI w d 39 [zR 32, zI l4] H (fun x18 H17 => K x18 H17))) ∧ (l6 < 501 → (0 ≤ l6 ∧ l6 < 501) ∧ (¬ (H 51 l6) = 0 → zgo w (d + 1) 95 99 [zR 32, zI l1, zJ, zI l3, zI l4, zI l5, zI (w32 (l6 + 1))] [] H (zQI K)) ∧ ((H 51 l6) = 0 → zgo w (d + 1) 95 99 [zR 32, zI l1, zJ, zI l3, zI (w32 (l4 + 1)), zI l6, zI (w32 (l6 + 1))] [] H (zQI K))))) :
    zgo w (d + 1) 95 99 [zR 32, zI l1, zJ, zI l3, zI l4, zI l5, zI l6] [] H (zQI K) := by
  refine g_il zp95 rfl rfl rfl ?_
  refine g_il zp95 rfl rfl rfl ?_
  refine g_icmp zp95 rfl rfl zc4 (fun c1 => ?_) (fun c1 => ?_)
  · replace h := h.1 c1
    refine g_il zp95 rfl rfl rfl ?_
    refine g_if zp95 rfl rfl zc1 (fun c2 => ?_) (fun c2 => ?_)
    · replace h := h.1 c2
      refine g_il zp95 rfl rfl rfl ?_
      refine g_if zp95 rfl rfl zc1 (fun c3 => ?_) (fun c3 => ?_)
      · replace h := h.1 c3
        refine g_al zp95 rfl rfl rfl (by decide) ?_
        refine g_il zp95 rfl rfl rfl ?_
        refine g_callI (as := [zR 32, zI l5]) (rest := []) zp95 rfl rfl (Nat.succ_pos _) rfl rfl (Nat.le_of_ble_eq_true rfl) (Nat.le_of_ble_eq_true rfl) rfl rfl h (fun x5 H4 h => ?_)
        exact g_ret zp95 rfl rfl ⟨_, rfl, h⟩
      · replace h := h.2 c3
        refine g_al zp95 rfl rfl rfl (by decide) ?_
        refine g_ic zp95 rfl rfl ?_
        refine g_callI (as := [zR 32, zI 5]) (rest := []) zp95 rfl rfl (Nat.succ_pos _) rfl rfl (Nat.le_of_ble_eq_true rfl) (Nat.le_of_ble_eq_true rfl) rfl rfl h (fun x7 H6 h => ?_)
        refine g_goto zp95 rfl ?_
        exact g_ret zp95 rfl rfl ⟨_, rfl, h⟩
    · replace h := h.2 c2
      refine g_al zp95 rfl rfl rfl (by decide) ?_
      refine g_il zp95 rfl rfl rfl ?_
      refine g_callI (as := [zR 32, zI l4]) (rest := []) zp95 rfl rfl (Nat.succ_pos _) rfl rfl (Nat.le_of_ble_eq_true rfl) (Nat.le_of_ble_eq_true rfl) rfl rfl h (fun x9 H8 h => ?_)
      exact g_ret zp95 rfl rfl ⟨_, rfl, h⟩
  · replace h := h.2 c1
    refine g_il zp95 rfl rfl rfl ?_
    refine g_al zp95 rfl rfl rfl (by decide) ?_
    refine g_get (v := zR 51) zp95 rfl rfl rfl ⟨rfl, by decide, (by decide)⟩ rfl ?_
    refine g_len zp95 rfl rfl rfl (by decide) ?_
    refine g_icmp zp95 rfl rfl zc3 (fun c10 => ?_) (fun c10 => ?_)
    · replace h := h.1 c10
      refine g_il zp95 rfl rfl rfl ?_
      refine g_if zp95 rfl rfl zc1 (fun c11 => ?_) (fun c11 => ?_)
      · replace h := h.1 c11
        refine g_il zp95 rfl rfl rfl ?_
        refine g_if zp95 rfl rfl zc1 (fun c12 => ?_) (fun c12 => ?_)
        · replace h := h.1 c12
          refine g_al zp95 rfl rfl rfl (by decide) ?_
          refine g_il zp95 rfl rfl rfl ?_
          refine g_callI (as := [zR 32, zI l5]) (rest := []) zp95 rfl rfl (Nat.succ_pos _) rfl rfl (Nat.le_of_ble_eq_true rfl) (Nat.le_of_ble_eq_true rfl) rfl rfl h (fun x14 H13 h => ?_)
          exact g_ret zp95 rfl rfl ⟨_, rfl, h⟩
        · replace h := h.2 c12
          refine g_al zp95 rfl rfl rfl (by decide) ?_
          refine g_ic zp95 rfl rfl ?_
          refine g_callI (as := [zR 32, zI 5]) (rest := []) zp95 rfl rfl (Nat.succ_pos _) rfl rfl (Nat.le_of_ble_eq_true rfl) (Nat.le_of_ble_eq_true rfl) rfl rfl h (fun x16 H15 h => ?_)
          refine g_goto zp95 rfl ?_
          exact g_ret zp95 rfl rfl ⟨_, rfl, h⟩
      · replace h := h.2 c11
        refine g_al zp95 rfl rfl rfl (by decide) ?_
        refine g_il zp95 rfl rfl rfl ?_
        refine g_callI (as := [zR 32, zI l4]) (rest := []) zp95 rfl rfl (Nat.succ_pos _) rfl rfl (Nat.le_of_ble_eq_true rfl) (Nat.le_of_ble_eq_true rfl) rfl rfl h (fun x18 H17 h => ?_)
        exact g_ret zp95 rfl rfl ⟨_, rfl, h⟩
    · replace h := h.2 c10
      refine g_al zp95 rfl rfl rfl (by decide) ?_
      refine g_get (v := zR 51) zp95 rfl rfl rfl ⟨rfl, by decide, (by decide)⟩ rfl ?_
      refine g_il zp95 rfl rfl rfl ?_
      obtain ⟨c19, h⟩ := h
      refine g_ald (v := zI (H 51 l6)) zp95 rfl rfl rfl rfl c19 rfl ?_
      refine g_if zp95 rfl rfl zc1 (fun c20 => ?_) (fun c20 => ?_)
      · replace h := h.1 c20
        refine g_inc (ls' := [zR 32, zI l1, zJ, zI l3, zI l4, zI l5, zI (w32 (l6 + 1))]) zp95 rfl rfl rfl rfl ?_
        refine g_goto zp95 rfl ?_
        exact g_weak (ls' := [zR 32, zI l1, zJ, zI l3, zI l4, zI l5, zI (w32 (l6 + 1))]) ⟨Or.inr rfl, Or.inr rfl, Or.inr rfl, Or.inr rfl, Or.inr rfl, Or.inr rfl, Or.inr rfl, trivial⟩ h
      · replace h := h.2 c20
        refine g_inc (ls' := [zR 32, zI l1, zJ, zI l3, zI (w32 (l4 + 1)), zI l5, zI l6]) zp95 rfl rfl rfl rfl ?_
        refine g_il zp95 rfl rfl rfl ?_
        refine g_is (ls' := [zR 32, zI l1, zJ, zI l3, zI (w32 (l4 + 1)), zI l6, zI l6]) zp95 rfl rfl (Nat.le_of_ble_eq_true rfl) rfl ?_
        refine g_inc (ls' := [zR 32, zI l1, zJ, zI l3, zI (w32 (l4 + 1)), zI l6, zI (w32 (l6 + 1))]) zp95 rfl rfl rfl rfl ?_
        refine g_goto zp95 rfl ?_
        exact g_weak (ls' := [zR 32, zI l1, zJ, zI l3, zI (w32 (l4 + 1)), zI l6, zI (w32 (l6 + 1))]) ⟨Or.inr rfl, Or.inr rfl, Or.inr rfl, Or.inr rfl, Or.inr rfl, Or.inr rfl, Or.inr rfl, trivial⟩ h
theorem zp96 : zprog.getD 96 [] = zk96 := rfl
theorem x96_0 {w : zWt} {d : Nat} {H : zHt} {K : zHt → Prop} 
    (h : zgo w d 96 2 [zR 32, zI 0] [] H (zQV K)) :
    zclV w d 96 [zR 32] H K := by
  show zgo w d 96 0 [zR 32, zJ] [] H (zQV K)
  refine g_ic zp96 rfl rfl ?_
  refine g_is (ls' := [zR 32, zI 0]) zp96 rfl rfl (Nat.le_of_ble_eq_true rfl) rfl ?_
  exact g_weak (ls' := [zR 32, zI 0]) ⟨Or.inr rfl, Or.inr rfl, trivial⟩ h
theorem x96_2 {w : zWt} {d : Nat} {H : zHt} {K : zHt → Prop} {l1 : Int}
    (h : (501 ≤ l1 → K H) ∧ (l1 < 501 → (0 ≤ l1 ∧ l1 < 501) ∧ zgo w d 96 2 [zR 32, zI (w32 (l1 + 1))] [] (zup H 51 l1 0) (zQV K))) :
    zgo w d 96 2 [zR 32, zI l1] [] H (zQV K) := by
  refine g_il zp96 rfl rfl rfl ?_
  refine g_al zp96 rfl rfl rfl (by decide) ?_
  refine g_get (v := zR 51) zp96 rfl rfl rfl ⟨rfl, by decide, (by decide)⟩ rfl ?_
  refine g_len zp96 rfl rfl rfl (by decide) ?_
  refine g_icmp zp96 rfl rfl zc3 (fun c1 => ?_) (fun c1 => ?_)
  · replace h := h.1 c1
    exact g_ret zp96 rfl rfl ⟨rfl, h⟩
  · replace h := h.2 c1
    refine g_al zp96 rfl rfl rfl (by decide) ?_
    refine g_get (v := zR 51) zp96 rfl rfl rfl ⟨rfl, by decide, (by decide)⟩ rfl ?_
    refine g_il zp96 rfl rfl rfl ?_
    refine g_ic zp96 rfl rfl ?_
    obtain ⟨c2, h⟩ := h
    refine g_iast zp96 rfl rfl rfl (by decide) rfl c2 ?_
    refine g_inc (ls' := [zR 32, zI (w32 (l1 + 1))]) zp96 rfl rfl rfl rfl ?_
    refine g_goto zp96 rfl ?_
    exact g_weak (ls' := [zR 32, zI (w32 (l1 + 1))]) ⟨Or.inr rfl, Or.inr rfl, trivial⟩ h
theorem zp97 : zprog.getD 97 [] = zk97 := rfl
theorem x97_0 {w : zWt} {d : Nat} {H : zHt} {K : Int → zHt → Prop} {l1 : Int}
    (h : zclI w d 43 [zI l1] H (fun x2 H1 => (¬ x2 = 0 → zclI w d 98 [zR 32, zI l1] H1 (fun x5 H4 => (x5 = 0 → zclI w d 39 [zR 32, zI 0] H4 (fun x8 H7 => K x8 H7)) ∧ (¬ x5 = 0 → zclI w d 39 [zR 32, zI 1] H4 (fun x10 H9 => K x10 H9)))) ∧ (x2 = 0 → zclI w d 13 [zR 32, zI 1] H1 (fun x12 H11 => K x12 H11)))) :
    zclI w (d + 1) 97 [zR 32, zI l1] H K := by
  show zgo w (d + 1) 97 0 [zR 32, zI l1] [] H (zQI K)
  refine g_il zp97 rfl rfl rfl ?_
  refine g_callI (as := [zI l1]) (rest := []) zp97 rfl rfl (Nat.succ_pos _) rfl rfl (Nat.le_of_ble_eq_true rfl) (Nat.le_of_ble_eq_true rfl) rfl rfl h (fun x2 H1 h => ?_)
  refine g_if zp97 rfl rfl zc1 (fun c3 => ?_) (fun c3 => ?_)
  · replace h := h.1 c3
    refine g_al zp97 rfl rfl rfl (by decide) ?_
    refine g_al zp97 rfl rfl rfl (by decide) ?_
    refine g_il zp97 rfl rfl rfl ?_
    refine g_callI (as := [zR 32, zI l1]) (rest := [zR 32]) zp97 rfl rfl (Nat.succ_pos _) rfl rfl (Nat.le_of_ble_eq_true rfl) (Nat.le_of_ble_eq_true rfl) rfl rfl h (fun x5 H4 h => ?_)
    refine g_if zp97 rfl rfl zc0 (fun c6 => ?_) (fun c6 => ?_)
    · replace h := h.1 c6
      refine g_ic zp97 rfl rfl ?_
      refine g_callI (as := [zR 32, zI 0]) (rest := []) zp97 rfl rfl (Nat.succ_pos _) rfl rfl (Nat.le_of_ble_eq_true rfl) (Nat.le_of_ble_eq_true rfl) rfl rfl h (fun x8 H7 h => ?_)
      exact g_ret zp97 rfl rfl ⟨_, rfl, h⟩
    · replace h := h.2 c6
      refine g_ic zp97 rfl rfl ?_
      refine g_goto zp97 rfl ?_
      refine g_callI (as := [zR 32, zI 1]) (rest := []) zp97 rfl rfl (Nat.succ_pos _) rfl rfl (Nat.le_of_ble_eq_true rfl) (Nat.le_of_ble_eq_true rfl) rfl rfl h (fun x10 H9 h => ?_)
      exact g_ret zp97 rfl rfl ⟨_, rfl, h⟩
  · replace h := h.2 c3
    refine g_al zp97 rfl rfl rfl (by decide) ?_
    refine g_ic zp97 rfl rfl ?_
    refine g_callI (as := [zR 32, zI 1]) (rest := []) zp97 rfl rfl (Nat.succ_pos _) rfl rfl (Nat.le_of_ble_eq_true rfl) (Nat.le_of_ble_eq_true rfl) rfl rfl h (fun x12 H11 h => ?_)
    exact g_ret zp97 rfl rfl ⟨_, rfl, h⟩
theorem zp98 : zprog.getD 98 [] = zk98 := rfl
theorem x98_0 {w : zWt} {d : Nat} {H : zHt} {K : Int → zHt → Prop} {l1 : Int}
    (h : zclI w d 62 [zR 32, zI 0, zI l1] H (fun x2 H1 => (x2 = 2 → zclV w d 45 [zR 36, zI l1] H1 (fun H4 => zgo w (d + 1) 98 30 [zR 32, zI l1, zI (H4 36 3), zI 0, zJ] [] H4 (zQI K))) ∧ (¬ x2 = 2 → K 0 H1))) :
    zclI w (d + 1) 98 [zR 32, zI l1] H K := by
  show zgo w (d + 1) 98 0 [zR 32, zI l1, zJ, zJ, zJ] [] H (zQI K)
  refine g_al zp98 rfl rfl rfl (by decide) ?_
  refine g_ic zp98 rfl rfl ?_
  refine g_il zp98 rfl rfl rfl ?_
  refine g_callI (as := [zR 32, zI 0, zI l1]) (rest := []) zp98 rfl rfl (Nat.succ_pos _) rfl rfl (Nat.le_of_ble_eq_true rfl) (Nat.le_of_ble_eq_true rfl) rfl rfl h (fun x2 H1 h => ?_)
  refine g_ic zp98 rfl rfl ?_
  refine g_icmp zp98 rfl rfl zc0 (fun c3 => ?_) (fun c3 => ?_)
  · replace h := h.1 c3
    refine g_al zp98 rfl rfl rfl (by decide) ?_
    refine g_get (v := zR 36) zp98 rfl rfl rfl ⟨rfl, by decide, (by decide)⟩ rfl ?_
    refine g_il zp98 rfl rfl rfl ?_
    refine g_callV (as := [zR 36, zI l1]) (rest := []) zp98 rfl rfl (Nat.succ_pos _) rfl rfl (Nat.le_of_ble_eq_true rfl) (Nat.le_of_ble_eq_true rfl) rfl rfl h (fun H4 h => ?_)
    refine g_al zp98 rfl rfl rfl (by decide) ?_
    refine g_get (v := zR 36) zp98 rfl rfl rfl ⟨rfl, by decide, (by decide)⟩ rfl ?_
    refine g_get (v := zI (H4 36 3)) zp98 rfl rfl rfl ⟨rfl, by decide, (by decide)⟩ rfl ?_
    refine g_is (ls' := [zR 32, zI l1, zI (H4 36 3), zJ, zJ]) zp98 rfl rfl (Nat.le_of_ble_eq_true rfl) rfl ?_
    refine g_ic zp98 rfl rfl ?_
    refine g_is (ls' := [zR 32, zI l1, zI (H4 36 3), zI 0, zJ]) zp98 rfl rfl (Nat.le_of_ble_eq_true rfl) rfl ?_
    exact g_weak (ls' := [zR 32, zI l1, zI (H4 36 3), zI 0, zJ]) ⟨Or.inr rfl, Or.inr rfl, Or.inr rfl, Or.inr rfl, Or.inr rfl, trivial⟩ h
  · replace h := h.2 c3
    refine g_ic zp98 rfl rfl ?_
    exact g_ret zp98 rfl (zret_b (by decide)) ⟨_, rfl, h⟩
theorem x98_30 {w : zWt} {d : Nat} {H : zHt} {K : Int → zHt → Prop} {l1 : Int} {l2 : Int} {l3 : Int}
    (h : (l2 ≤ l3 → K 1 H) ∧ (l3 < l2 → zclV w d 45 [zR 36, zI l1] H (fun H2 => (0 ≤ l3 ∧ l3 < 9) ∧ ((if 1 < H2 37 l3 then H2 37 l3 else 1) ≠ 0) ∧ zclI w d 62 [zR 32, zI 0, zI (w32 (Int.tdiv l1 (if 1 < H2 37 l3 then H2 37 l3 else 1)))] H2 (fun x7 H6 => (x7 = 0 → zgo w (d + 1) 98 30 [zR 32, zI l1, zI l2, zI (w32 (l3 + 1)), zJ] [] H6 (zQI K)) ∧ (¬ x7 = 0 → K 0 H6))))) :
    zgo w (d + 1) 98 30 [zR 32, zI l1, zI l2, zI l3, zJ] [] H (zQI K) := by
  refine g_il zp98 rfl rfl rfl ?_
  refine g_il zp98 rfl rfl rfl ?_
  refine g_icmp zp98 rfl rfl zc3 (fun c1 => ?_) (fun c1 => ?_)
  · replace h := h.1 c1
    refine g_ic zp98 rfl rfl ?_
    exact g_ret zp98 rfl (zret_b (by decide)) ⟨_, rfl, h⟩
  · replace h := h.2 c1
    refine g_al zp98 rfl rfl rfl (by decide) ?_
    refine g_get (v := zR 36) zp98 rfl rfl rfl ⟨rfl, by decide, (by decide)⟩ rfl ?_
    refine g_il zp98 rfl rfl rfl ?_
    refine g_callV (as := [zR 36, zI l1]) (rest := []) zp98 rfl rfl (Nat.succ_pos _) rfl rfl (Nat.le_of_ble_eq_true rfl) (Nat.le_of_ble_eq_true rfl) rfl rfl h (fun H2 h => ?_)
    refine g_il zp98 rfl rfl rfl ?_
    refine g_ic zp98 rfl rfl ?_
    refine g_al zp98 rfl rfl rfl (by decide) ?_
    refine g_get (v := zR 36) zp98 rfl rfl rfl ⟨rfl, by decide, (by decide)⟩ rfl ?_
    refine g_get (v := zR 37) zp98 rfl rfl rfl ⟨rfl, by decide, (by decide)⟩ rfl ?_
    refine g_il zp98 rfl rfl rfl ?_
    obtain ⟨c4, h⟩ := h
    refine g_ald (v := zI (H2 37 l3)) zp98 rfl rfl rfl rfl c4 rfl ?_
    refine g_mmax zp98 rfl rfl (Nat.le_of_ble_eq_true rfl) ?_
    obtain ⟨c5, h⟩ := h
    refine g_ar (r := w32 (Int.tdiv l1 (if 1 < H2 37 l3 then H2 37 l3 else 1))) zp98 rfl rfl (zr_div c5) ?_
    refine g_is (ls' := [zR 32, zI l1, zI l2, zI l3, zI (w32 (Int.tdiv l1 (if 1 < H2 37 l3 then H2 37 l3 else 1)))]) zp98 rfl rfl (Nat.le_of_ble_eq_true rfl) rfl ?_
    refine g_al zp98 rfl rfl rfl (by decide) ?_
    refine g_ic zp98 rfl rfl ?_
    refine g_il zp98 rfl rfl rfl ?_
    refine g_callI (as := [zR 32, zI 0, zI (w32 (Int.tdiv l1 (if 1 < H2 37 l3 then H2 37 l3 else 1)))]) (rest := []) zp98 rfl rfl (Nat.succ_pos _) rfl rfl (Nat.le_of_ble_eq_true rfl) (Nat.le_of_ble_eq_true rfl) rfl rfl h (fun x7 H6 h => ?_)
    refine g_if zp98 rfl rfl zc0 (fun c8 => ?_) (fun c8 => ?_)
    · replace h := h.1 c8
      refine g_inc (ls' := [zR 32, zI l1, zI l2, zI (w32 (l3 + 1)), zI (w32 (Int.tdiv l1 (if 1 < H2 37 l3 then H2 37 l3 else 1)))]) zp98 rfl rfl rfl rfl ?_
      refine g_goto zp98 rfl ?_
      exact g_weak (ls' := [zR 32, zI l1, zI l2, zI (w32 (l3 + 1)), zJ]) ⟨Or.inr rfl, Or.inr rfl, Or.inr rfl, Or.inr rfl, Or.inl rfl, trivial⟩ h
    · replace h := h.2 c8
      refine g_ic zp98 rfl rfl ?_
      exact g_ret zp98 rfl (zret_b (by decide)) ⟨_, rfl, h⟩
theorem zp99 : zprog.getD 99 [] = zk99 := rfl
theorem x99_0 {w : zWt} {d : Nat} {H : zHt} {K : Int → zHt → Prop} {l1 : Int} {l2 : Int}
    (h : (l1 < 0 → zclI w d 13 [zR 32, zI 1] H (fun x3 H2 => K x3 H2)) ∧ (0 ≤ l1 → (2000 < l1 → zclI w d 13 [zR 32, zI 1] H (fun x6 H5 => K x6 H5)) ∧ (l1 ≤ 2000 → (l2 < 1 → zclI w d 13 [zR 32, zI 1] H (fun x9 H8 => K x9 H8)) ∧ (1 ≤ l2 → (l2 ≤ 500 → zclV w d 100 [zR 32, zI l2] H (fun H11 => zgo w (d + 1) 99 39 [zR 32, zI l1, zI l2, zI 0, zI 1] [] H11 (zQI K))) ∧ (500 < l2 → zclI w d 13 [zR 32, zI 1] H (fun x14 H13 => K x14 H13)))))) :
    zclI w (d + 1) 99 [zR 32, zI l1, zI l2] H K := by
  show zgo w (d + 1) 99 0 [zR 32, zI l1, zI l2, zJ, zJ] [] H (zQI K)
  refine g_il zp99 rfl rfl rfl ?_
  refine g_if zp99 rfl rfl zc2 (fun c1 => ?_) (fun c1 => ?_)
  · replace h := h.1 c1
    refine g_al zp99 rfl rfl rfl (by decide) ?_
    refine g_ic zp99 rfl rfl ?_
    refine g_callI (as := [zR 32, zI 1]) (rest := []) zp99 rfl rfl (Nat.succ_pos _) rfl rfl (Nat.le_of_ble_eq_true rfl) (Nat.le_of_ble_eq_true rfl) rfl rfl h (fun x3 H2 h => ?_)
    exact g_ret zp99 rfl rfl ⟨_, rfl, h⟩
  · replace h := h.2 c1
    refine g_il zp99 rfl rfl rfl ?_
    refine g_ic zp99 rfl rfl ?_
    refine g_icmp zp99 rfl rfl zc4 (fun c4 => ?_) (fun c4 => ?_)
    · replace h := h.1 c4
      refine g_al zp99 rfl rfl rfl (by decide) ?_
      refine g_ic zp99 rfl rfl ?_
      refine g_callI (as := [zR 32, zI 1]) (rest := []) zp99 rfl rfl (Nat.succ_pos _) rfl rfl (Nat.le_of_ble_eq_true rfl) (Nat.le_of_ble_eq_true rfl) rfl rfl h (fun x6 H5 h => ?_)
      exact g_ret zp99 rfl rfl ⟨_, rfl, h⟩
    · replace h := h.2 c4
      refine g_il zp99 rfl rfl rfl ?_
      refine g_ic zp99 rfl rfl ?_
      refine g_icmp zp99 rfl rfl zc2 (fun c7 => ?_) (fun c7 => ?_)
      · replace h := h.1 c7
        refine g_al zp99 rfl rfl rfl (by decide) ?_
        refine g_ic zp99 rfl rfl ?_
        refine g_callI (as := [zR 32, zI 1]) (rest := []) zp99 rfl rfl (Nat.succ_pos _) rfl rfl (Nat.le_of_ble_eq_true rfl) (Nat.le_of_ble_eq_true rfl) rfl rfl h (fun x9 H8 h => ?_)
        exact g_ret zp99 rfl rfl ⟨_, rfl, h⟩
      · replace h := h.2 c7
        refine g_il zp99 rfl rfl rfl ?_
        refine g_ic zp99 rfl rfl ?_
        refine g_icmp zp99 rfl rfl zc5 (fun c10 => ?_) (fun c10 => ?_)
        · replace h := h.1 c10
          refine g_al zp99 rfl rfl rfl (by decide) ?_
          refine g_il zp99 rfl rfl rfl ?_
          refine g_callV (as := [zR 32, zI l2]) (rest := []) zp99 rfl rfl (Nat.succ_pos _) rfl rfl (Nat.le_of_ble_eq_true rfl) (Nat.le_of_ble_eq_true rfl) rfl rfl h (fun H11 h => ?_)
          refine g_ic zp99 rfl rfl ?_
          refine g_is (ls' := [zR 32, zI l1, zI l2, zI 0, zJ]) zp99 rfl rfl (Nat.le_of_ble_eq_true rfl) rfl ?_
          refine g_ic zp99 rfl rfl ?_
          refine g_is (ls' := [zR 32, zI l1, zI l2, zI 0, zI 1]) zp99 rfl rfl (Nat.le_of_ble_eq_true rfl) rfl ?_
          exact g_weak (ls' := [zR 32, zI l1, zI l2, zI 0, zI 1]) ⟨Or.inr rfl, Or.inr rfl, Or.inr rfl, Or.inr rfl, Or.inr rfl, trivial⟩ h
        · replace h := h.2 c10
          refine g_al zp99 rfl rfl rfl (by decide) ?_
          refine g_ic zp99 rfl rfl ?_
          refine g_callI (as := [zR 32, zI 1]) (rest := []) zp99 rfl rfl (Nat.succ_pos _) rfl rfl (Nat.le_of_ble_eq_true rfl) (Nat.le_of_ble_eq_true rfl) rfl rfl h (fun x14 H13 h => ?_)
          exact g_ret zp99 rfl rfl ⟨_, rfl, h⟩
theorem x99_39 {w : zWt} {d : Nat} {H : zHt} {K : Int → zHt → Prop} {l1 : Int} {l2 : Int} {l3 : Int} {l4 : Int}
    (h : (l2 < l4 → zclI w d 39 [zR 32, zI l3] H (fun x3 H2 => K x3 H2)) ∧ (l4 ≤ l2 → zclI w d 101 [zR 32, zI l1, zI l4, zI l2] H (fun x5 H4 => zgo w (d + 1) 99 39 [zR 32, zI l1, zI l2, zI (if l3 < x5 then x5 else l3), zI (w32 (l4 + 1))] [] H4 (zQI K)))) :
    zgo w (d + 1) 99 39 [zR 32, zI l1, zI l2, zI l3, zI l4] [] H (zQI K) := by
  refine g_il zp99 rfl rfl rfl ?_
  refine g_il zp99 rfl rfl rfl ?_
  refine g_icmp zp99 rfl rfl zc4 (fun c1 => ?_) (fun c1 => ?_)
  · replace h := h.1 c1
    refine g_al zp99 rfl rfl rfl (by decide) ?_
    refine g_il zp99 rfl rfl rfl ?_
    refine g_callI (as := [zR 32, zI l3]) (rest := []) zp99 rfl rfl (Nat.succ_pos _) rfl rfl (Nat.le_of_ble_eq_true rfl) (Nat.le_of_ble_eq_true rfl) rfl rfl h (fun x3 H2 h => ?_)
    exact g_ret zp99 rfl rfl ⟨_, rfl, h⟩
  · replace h := h.2 c1
    refine g_il zp99 rfl rfl rfl ?_
    refine g_al zp99 rfl rfl rfl (by decide) ?_
    refine g_il zp99 rfl rfl rfl ?_
    refine g_il zp99 rfl rfl rfl ?_
    refine g_il zp99 rfl rfl rfl ?_
    refine g_callI (as := [zR 32, zI l1, zI l4, zI l2]) (rest := [zI l3]) zp99 rfl rfl (Nat.succ_pos _) rfl rfl (Nat.le_of_ble_eq_true rfl) (Nat.le_of_ble_eq_true rfl) rfl rfl h (fun x5 H4 h => ?_)
    refine g_mmax zp99 rfl rfl (Nat.le_of_ble_eq_true rfl) ?_
    refine g_is (ls' := [zR 32, zI l1, zI l2, zI (if l3 < x5 then x5 else l3), zI l4]) zp99 rfl rfl (Nat.le_of_ble_eq_true rfl) rfl ?_
    refine g_inc (ls' := [zR 32, zI l1, zI l2, zI (if l3 < x5 then x5 else l3), zI (w32 (l4 + 1))]) zp99 rfl rfl rfl rfl ?_
    refine g_goto zp99 rfl ?_
    exact g_weak (ls' := [zR 32, zI l1, zI l2, zI (if l3 < x5 then x5 else l3), zI (w32 (l4 + 1))]) ⟨Or.inr rfl, Or.inr rfl, Or.inr rfl, Or.inr rfl, Or.inr rfl, trivial⟩ h
theorem zp100 : zprog.getD 100 [] = zk100 := rfl
theorem x100_0 {w : zWt} {d : Nat} {H : zHt} {K : zHt → Prop} {l1 : Int}
    (h : zgo w (d + 1) 100 2 [zR 32, zI l1, zI 1] [] H (zQV K)) :
    zclV w (d + 1) 100 [zR 32, zI l1] H K := by
  show zgo w (d + 1) 100 0 [zR 32, zI l1, zJ] [] H (zQV K)
  refine g_ic zp100 rfl rfl ?_
  refine g_is (ls' := [zR 32, zI l1, zI 1]) zp100 rfl rfl (Nat.le_of_ble_eq_true rfl) rfl ?_
  exact g_weak (ls' := [zR 32, zI l1, zI 1]) ⟨Or.inr rfl, Or.inr rfl, Or.inr rfl, trivial⟩ h
theorem x100_2 {w : zWt} {d : Nat} {H : zHt} {K : zHt → Prop} {l1 : Int} {l2 : Int}
    (h : (l1 < l2 → K H) ∧ (l2 ≤ l1 → (501 ≤ l2 → K H) ∧ (l2 < 501 → zclL w d 52 [zR 32, zI l2] H (fun x4 H3 => (0 ≤ l2 ∧ l2 < 501) ∧ zgo w (d + 1) 100 2 [zR 32, zI l1, zI (w32 (l2 + 1))] [] (zup H3 50 l2 x4) (zQV K))))) :
    zgo w (d + 1) 100 2 [zR 32, zI l1, zI l2] [] H (zQV K) := by
  refine g_il zp100 rfl rfl rfl ?_
  refine g_il zp100 rfl rfl rfl ?_
  refine g_icmp zp100 rfl rfl zc4 (fun c1 => ?_) (fun c1 => ?_)
  · replace h := h.1 c1
    exact g_ret zp100 rfl rfl ⟨rfl, h⟩
  · replace h := h.2 c1
    refine g_il zp100 rfl rfl rfl ?_
    refine g_al zp100 rfl rfl rfl (by decide) ?_
    refine g_get (v := zR 50) zp100 rfl rfl rfl ⟨rfl, by decide, (by decide)⟩ rfl ?_
    refine g_len zp100 rfl rfl rfl (by decide) ?_
    refine g_icmp zp100 rfl rfl zc3 (fun c2 => ?_) (fun c2 => ?_)
    · replace h := h.1 c2
      exact g_ret zp100 rfl rfl ⟨rfl, h⟩
    · replace h := h.2 c2
      refine g_al zp100 rfl rfl rfl (by decide) ?_
      refine g_get (v := zR 50) zp100 rfl rfl rfl ⟨rfl, by decide, (by decide)⟩ rfl ?_
      refine g_il zp100 rfl rfl rfl ?_
      refine g_al zp100 rfl rfl rfl (by decide) ?_
      refine g_il zp100 rfl rfl rfl ?_
      refine g_callL (as := [zR 32, zI l2]) (rest := [zI l2, zR 50]) zp100 rfl rfl (Nat.succ_pos _) rfl rfl (Nat.le_of_ble_eq_true rfl) (Nat.le_of_ble_eq_true rfl) rfl rfl h (fun x4 H3 h => ?_)
      obtain ⟨c5, h⟩ := h
      refine g_last zp100 rfl rfl rfl (by decide) rfl c5 ?_
      refine g_inc (ls' := [zR 32, zI l1, zI (w32 (l2 + 1))]) zp100 rfl rfl rfl rfl ?_
      refine g_goto zp100 rfl ?_
      exact g_weak (ls' := [zR 32, zI l1, zI (w32 (l2 + 1))]) ⟨Or.inr rfl, Or.inr rfl, Or.inr rfl, trivial⟩ h
theorem zp101 : zprog.getD 101 [] = zk101 := rfl
theorem x101_0 {w : zWt} {d : Nat} {H : zHt} {K : Int → zHt → Prop} {l1 : Int} {l2 : Int} {l3 : Int}
    (h : zgo w d 101 7 [zR 32, zI l1, zJ, zI l3, zL l2, zJ, zI 1, zJ, zJ] [] H (zQI K)) :
    zclI w d 101 [zR 32, zI l1, zI l2, zI l3] H K := by
  show zgo w d 101 0 [zR 32, zI l1, zI l2, zI l3, zJ, zJ, zJ, zJ, zJ] [] H (zQI K)
  refine g_il zp101 rfl rfl rfl ?_
  refine g_i2l zp101 rfl rfl ?_
  refine g_ls (ls' := [zR 32, zI l1, zI l2, zI l3, zL l2, zJ, zJ, zJ, zJ]) zp101 rfl rfl (Nat.le_of_ble_eq_true rfl) rfl ?_
  refine g_ic zp101 rfl rfl ?_
  refine g_is (ls' := [zR 32, zI l1, zI l2, zI l3, zL l2, zJ, zI 1, zJ, zJ]) zp101 rfl rfl (Nat.le_of_ble_eq_true rfl) rfl ?_
  exact g_weak (ls' := [zR 32, zI l1, zJ, zI l3, zL l2, zJ, zI 1, zJ, zJ]) ⟨Or.inr rfl, Or.inr rfl, Or.inl rfl, Or.inr rfl, Or.inr rfl, Or.inr rfl, Or.inr rfl, Or.inr rfl, Or.inr rfl, trivial⟩ h
theorem x101_7 {w : zWt} {d : Nat} {H : zHt} {K : Int → zHt → Prop} {l1 : Int} {l3 : Int} {l4 : Int} {l6 : Int}
    (h : ((w32 (l3 + 1)) < l6 → K 0 H) ∧ (l6 ≤ (w32 (l3 + 1)) → (0 ≤ (w32 l4) ∧ (w32 l4) < 501) ∧ (¬ (H 50 (w32 l4)) = l4 → (¬ (H 50 (w32 l4)) = l1 → ((H 50 (w32 l4)) < 1 → K 0 H) ∧ (1 ≤ (H 50 (w32 l4)) → ((H 50 (w32 l4)) ≤ l3 → zgo w d 101 7 [zR 32, zI l1, zJ, zI l3, zL (H 50 (w32 l4)), zJ, zI (w32 (l6 + 1)), zJ, zJ] [] H (zQI K)) ∧ (l3 < (H 50 (w32 l4)) → K 0 H))) ∧ ((H 50 (w32 l4)) = l1 → K l6 H)) ∧ ((H 50 (w32 l4)) = l4 → K 0 H))) :
    zgo w d 101 7 [zR 32, zI l1, zJ, zI l3, zL l4, zJ, zI l6, zJ, zJ] [] H (zQI K) := by
  refine g_il zp101 rfl rfl rfl ?_
  refine g_il zp101 rfl rfl rfl ?_
  refine g_ic zp101 rfl rfl ?_
  refine g_ar (r := w32 (l3 + 1)) zp101 rfl rfl rfl ?_
  refine g_icmp zp101 rfl rfl zc4 (fun c1 => ?_) (fun c1 => ?_)
  · replace h := h.1 c1
    refine g_ic zp101 rfl rfl ?_
    exact g_ret zp101 rfl rfl ⟨_, rfl, h⟩
  · replace h := h.2 c1
    refine g_al zp101 rfl rfl rfl (by decide) ?_
    refine g_get (v := zR 50) zp101 rfl rfl rfl ⟨rfl, by decide, (by decide)⟩ rfl ?_
    refine g_ll zp101 rfl rfl rfl ?_
    refine g_l2i zp101 rfl rfl ?_
    obtain ⟨c2, h⟩ := h
    refine g_ald (v := zL (H 50 (w32 l4))) zp101 rfl rfl rfl rfl c2 rfl ?_
    refine g_ls (ls' := [zR 32, zI l1, zJ, zI l3, zL l4, zJ, zI l6, zL (H 50 (w32 l4)), zJ]) zp101 rfl rfl (Nat.le_of_ble_eq_true rfl) rfl ?_
    refine g_ll zp101 rfl rfl rfl ?_
    refine g_ll zp101 rfl rfl rfl ?_
    refine g_lcmp zp101 rfl rfl rfl rfl zc1 (fun c3 => ?_) (fun c3 => ?_)
    · replace h := h.1 c3
      refine g_ll zp101 rfl rfl rfl ?_
      refine g_il zp101 rfl rfl rfl ?_
      refine g_i2l zp101 rfl rfl ?_
      refine g_lcmp zp101 rfl rfl rfl rfl zc1 (fun c4 => ?_) (fun c4 => ?_)
      · replace h := h.1 c4
        refine g_ll zp101 rfl rfl rfl ?_
        refine g_lc zp101 rfl rfl ?_
        refine g_lcmp zp101 rfl rfl rfl rfl zc2 (fun c5 => ?_) (fun c5 => ?_)
        · replace h := h.1 c5
          refine g_ic zp101 rfl rfl ?_
          exact g_ret zp101 rfl rfl ⟨_, rfl, h⟩
        · replace h := h.2 c5
          refine g_ll zp101 rfl rfl rfl ?_
          refine g_il zp101 rfl rfl rfl ?_
          refine g_i2l zp101 rfl rfl ?_
          refine g_lcmp zp101 rfl rfl rfl rfl zc5 (fun c6 => ?_) (fun c6 => ?_)
          · replace h := h.1 c6
            refine g_ll zp101 rfl rfl rfl ?_
            refine g_ls (ls' := [zR 32, zI l1, zJ, zI l3, zL (H 50 (w32 l4)), zJ, zI l6, zL (H 50 (w32 l4)), zJ]) zp101 rfl rfl (Nat.le_of_ble_eq_true rfl) rfl ?_
            refine g_inc (ls' := [zR 32, zI l1, zJ, zI l3, zL (H 50 (w32 l4)), zJ, zI (w32 (l6 + 1)), zL (H 50 (w32 l4)), zJ]) zp101 rfl rfl rfl rfl ?_
            refine g_goto zp101 rfl ?_
            exact g_weak (ls' := [zR 32, zI l1, zJ, zI l3, zL (H 50 (w32 l4)), zJ, zI (w32 (l6 + 1)), zJ, zJ]) ⟨Or.inr rfl, Or.inr rfl, Or.inr rfl, Or.inr rfl, Or.inr rfl, Or.inr rfl, Or.inr rfl, Or.inl rfl, Or.inr rfl, trivial⟩ h
          · replace h := h.2 c6
            refine g_ic zp101 rfl rfl ?_
            exact g_ret zp101 rfl rfl ⟨_, rfl, h⟩
      · replace h := h.2 c4
        refine g_il zp101 rfl rfl rfl ?_
        exact g_ret zp101 rfl rfl ⟨_, rfl, h⟩
    · replace h := h.2 c3
      refine g_ic zp101 rfl rfl ?_
      exact g_ret zp101 rfl rfl ⟨_, rfl, h⟩
theorem zp102 : zprog.getD 102 [] = zk102 := rfl
theorem x102_0 {w : zWt} {d : Nat} {H : zHt} {K : Int → zHt → Prop} {l1 : Int} {l2 : Int}
    (h : (l1 < 2 → zclI w d 13 [zR 32, zI 1] H (fun x3 H2 => K x3 H2)) ∧ (2 ≤ l1 → (15 < l1 → zclI w d 13 [zR 32, zI 1] H (fun x6 H5 => K x6 H5)) ∧ (l1 ≤ 15 → zclI w d 44 [zI l2, zI 2] H (fun x8 H7 => (¬ x8 = 0 → (l2 = 0 → zclI w d 103 [zR 36, zI (w32 ((zshl 1 l1) - 1))] H7 (fun x11 H10 => (x11 = 0 → zclI w d 39 [zR 32, zI 0] H10 (fun x14 H13 => K x14 H13)) ∧ (¬ x11 = 0 → zclI w d 39 [zR 32, zI 1] H10 (fun x16 H15 => K x16 H15)))) ∧ (l2 = 1 → zclI w d 39 [zR 32, zI (zshl (w32 ((zshl 1 l1) - 1)) (w32 (l1 - 1)))] H7 (fun x18 H17 => K x18 H17)) ∧ (¬ l2 = 0 → ¬ l2 = 1 → zclI w d 62 [zR 32, zI 0, zI (zshl (w32 ((zshl 1 l1) - 1)) (w32 (l1 - 1)))] H7 (fun x20 H19 => zclI w d 39 [zR 32, zI x20] H19 (fun x22 H21 => K x22 H21)))) ∧ (x8 = 0 → zclI w d 13 [zR 32, zI 1] H7 (fun x24 H23 => K x24 H23)))))) :
    zclI w (d + 1) 102 [zR 32, zI l1, zI l2] H K := by
  show zgo w (d + 1) 102 0 [zR 32, zI l1, zI l2, zJ, zJ] [] H (zQI K)
  refine g_il zp102 rfl rfl rfl ?_
  refine g_ic zp102 rfl rfl ?_
  refine g_icmp zp102 rfl rfl zc2 (fun c1 => ?_) (fun c1 => ?_)
  · replace h := h.1 c1
    refine g_al zp102 rfl rfl rfl (by decide) ?_
    refine g_ic zp102 rfl rfl ?_
    refine g_callI (as := [zR 32, zI 1]) (rest := []) zp102 rfl rfl (Nat.succ_pos _) rfl rfl (Nat.le_of_ble_eq_true rfl) (Nat.le_of_ble_eq_true rfl) rfl rfl h (fun x3 H2 h => ?_)
    exact g_ret zp102 rfl rfl ⟨_, rfl, h⟩
  · replace h := h.2 c1
    refine g_il zp102 rfl rfl rfl ?_
    refine g_ic zp102 rfl rfl ?_
    refine g_icmp zp102 rfl rfl zc4 (fun c4 => ?_) (fun c4 => ?_)
    · replace h := h.1 c4
      refine g_al zp102 rfl rfl rfl (by decide) ?_
      refine g_ic zp102 rfl rfl ?_
      refine g_callI (as := [zR 32, zI 1]) (rest := []) zp102 rfl rfl (Nat.succ_pos _) rfl rfl (Nat.le_of_ble_eq_true rfl) (Nat.le_of_ble_eq_true rfl) rfl rfl h (fun x6 H5 h => ?_)
      exact g_ret zp102 rfl rfl ⟨_, rfl, h⟩
    · replace h := h.2 c4
      refine g_il zp102 rfl rfl rfl ?_
      refine g_ic zp102 rfl rfl ?_
      refine g_callI (as := [zI l2, zI 2]) (rest := []) zp102 rfl rfl (Nat.succ_pos _) rfl rfl (Nat.le_of_ble_eq_true rfl) (Nat.le_of_ble_eq_true rfl) rfl rfl h (fun x8 H7 h => ?_)
      refine g_if zp102 rfl rfl zc1 (fun c9 => ?_) (fun c9 => ?_)
      · replace h := h.1 c9
        refine g_ic zp102 rfl rfl ?_
        refine g_il zp102 rfl rfl rfl ?_
        refine g_ar (r := zshl 1 l1) zp102 rfl rfl rfl ?_
        refine g_ic zp102 rfl rfl ?_
        refine g_ar (r := w32 ((zshl 1 l1) - 1)) zp102 rfl rfl rfl ?_
        refine g_is (ls' := [zR 32, zI l1, zI l2, zI (w32 ((zshl 1 l1) - 1)), zJ]) zp102 rfl rfl (Nat.le_of_ble_eq_true rfl) rfl ?_
        refine g_il zp102 rfl rfl rfl ?_
        refine g_il zp102 rfl rfl rfl ?_
        refine g_ic zp102 rfl rfl ?_
        refine g_ar (r := w32 (l1 - 1)) zp102 rfl rfl rfl ?_
        refine g_ar (r := zshl (w32 ((zshl 1 l1) - 1)) (w32 (l1 - 1))) zp102 rfl rfl rfl ?_
        refine g_is (ls' := [zR 32, zI l1, zI l2, zI (w32 ((zshl 1 l1) - 1)), zI (zshl (w32 ((zshl 1 l1) - 1)) (w32 (l1 - 1)))]) zp102 rfl rfl (Nat.le_of_ble_eq_true rfl) rfl ?_
        refine g_il zp102 rfl rfl rfl ?_
        rcases Classical.em (l2 = 0) with k0 | k0
        · replace h := h.1 k0
          refine g_lookE (z := 0) zp102 rfl k0 rfl ?_
          refine g_al zp102 rfl rfl rfl (by decide) ?_
          refine g_al zp102 rfl rfl rfl (by decide) ?_
          refine g_get (v := zR 36) zp102 rfl rfl rfl ⟨rfl, by decide, (by decide)⟩ rfl ?_
          refine g_il zp102 rfl rfl rfl ?_
          refine g_callI (as := [zR 36, zI (w32 ((zshl 1 l1) - 1))]) (rest := [zR 32]) zp102 rfl rfl (Nat.succ_pos _) rfl rfl (Nat.le_of_ble_eq_true rfl) (Nat.le_of_ble_eq_true rfl) rfl rfl h (fun x11 H10 h => ?_)
          refine g_if zp102 rfl rfl zc0 (fun c12 => ?_) (fun c12 => ?_)
          · replace h := h.1 c12
            refine g_ic zp102 rfl rfl ?_
            refine g_callI (as := [zR 32, zI 0]) (rest := []) zp102 rfl rfl (Nat.succ_pos _) rfl rfl (Nat.le_of_ble_eq_true rfl) (Nat.le_of_ble_eq_true rfl) rfl rfl h (fun x14 H13 h => ?_)
            exact g_ret zp102 rfl rfl ⟨_, rfl, h⟩
          · replace h := h.2 c12
            refine g_ic zp102 rfl rfl ?_
            refine g_goto zp102 rfl ?_
            refine g_callI (as := [zR 32, zI 1]) (rest := []) zp102 rfl rfl (Nat.succ_pos _) rfl rfl (Nat.le_of_ble_eq_true rfl) (Nat.le_of_ble_eq_true rfl) rfl rfl h (fun x16 H15 h => ?_)
            exact g_ret zp102 rfl rfl ⟨_, rfl, h⟩
        · replace h := h.2
          rcases Classical.em (l2 = 1) with k1 | k1
          · replace h := h.1 k1
            refine g_lookE (z := 1) zp102 rfl k1 rfl ?_
            refine g_al zp102 rfl rfl rfl (by decide) ?_
            refine g_il zp102 rfl rfl rfl ?_
            refine g_callI (as := [zR 32, zI (zshl (w32 ((zshl 1 l1) - 1)) (w32 (l1 - 1)))]) (rest := []) zp102 rfl rfl (Nat.succ_pos _) rfl rfl (Nat.le_of_ble_eq_true rfl) (Nat.le_of_ble_eq_true rfl) rfl rfl h (fun x18 H17 h => ?_)
            exact g_ret zp102 rfl rfl ⟨_, rfl, h⟩
          · replace h := h.2
            replace h := h k0 k1
            refine g_look (q := 92) zp102 rfl (by simp only [zlook, k0, k1, if_false]) ?_
            refine g_al zp102 rfl rfl rfl (by decide) ?_
            refine g_al zp102 rfl rfl rfl (by decide) ?_
            refine g_ic zp102 rfl rfl ?_
            refine g_il zp102 rfl rfl rfl ?_
            refine g_callI (as := [zR 32, zI 0, zI (zshl (w32 ((zshl 1 l1) - 1)) (w32 (l1 - 1)))]) (rest := [zR 32]) zp102 rfl rfl (Nat.succ_pos _) rfl rfl (Nat.le_of_ble_eq_true rfl) (Nat.le_of_ble_eq_true rfl) rfl rfl h (fun x20 H19 h => ?_)
            refine g_callI (as := [zR 32, zI x20]) (rest := []) zp102 rfl rfl (Nat.succ_pos _) rfl rfl (Nat.le_of_ble_eq_true rfl) (Nat.le_of_ble_eq_true rfl) rfl rfl h (fun x22 H21 h => ?_)
            exact g_ret zp102 rfl rfl ⟨_, rfl, h⟩
      · replace h := h.2 c9
        refine g_al zp102 rfl rfl rfl (by decide) ?_
        refine g_ic zp102 rfl rfl ?_
        refine g_callI (as := [zR 32, zI 1]) (rest := []) zp102 rfl rfl (Nat.succ_pos _) rfl rfl (Nat.le_of_ble_eq_true rfl) (Nat.le_of_ble_eq_true rfl) rfl rfl h (fun x24 H23 h => ?_)
        exact g_ret zp102 rfl rfl ⟨_, rfl, h⟩
theorem zp103 : zprog.getD 103 [] = zk103 := rfl
theorem x103_0 {w : zWt} {d : Nat} {H : zHt} {K : Int → zHt → Prop} {l1 : Int}
    (h : zclV w d 45 [zR 36, zI l1] H (fun H1 => (¬ (H1 36 3) = 1 → K 0 H1) ∧ ((H1 36 3) = 1 → (¬ (H1 38 0) = 1 → K 0 H1) ∧ ((H1 38 0) = 1 → K 1 H1)))) :
    zclI w (d + 1) 103 [zR 36, zI l1] H K := by
  show zgo w (d + 1) 103 0 [zR 36, zI l1] [] H (zQI K)
  refine g_al zp103 rfl rfl rfl (by decide) ?_
  refine g_il zp103 rfl rfl rfl ?_
  refine g_callV (as := [zR 36, zI l1]) (rest := []) zp103 rfl rfl (Nat.succ_pos _) rfl rfl (Nat.le_of_ble_eq_true rfl) (Nat.le_of_ble_eq_true rfl) rfl rfl h (fun H1 h => ?_)
  refine g_al zp103 rfl rfl rfl (by decide) ?_
  refine g_get (v := zI (H1 36 3)) zp103 rfl rfl rfl ⟨rfl, by decide, (by decide)⟩ rfl ?_
  refine g_ic zp103 rfl rfl ?_
  refine g_icmp zp103 rfl rfl zc1 (fun c3 => ?_) (fun c3 => ?_)
  · replace h := h.1 c3
    refine g_ic zp103 rfl rfl ?_
    exact g_ret zp103 rfl (zret_b (by decide)) ⟨_, rfl, h⟩
  · replace h := h.2 c3
    refine g_al zp103 rfl rfl rfl (by decide) ?_
    refine g_get (v := zR 38) zp103 rfl rfl rfl ⟨rfl, by decide, (by decide)⟩ rfl ?_
    refine g_ic zp103 rfl rfl ?_
    refine g_ald (v := zI (H1 38 0)) zp103 rfl rfl rfl rfl (by decide) rfl ?_
    refine g_ic zp103 rfl rfl ?_
    refine g_icmp zp103 rfl rfl zc1 (fun c4 => ?_) (fun c4 => ?_)
    · replace h := h.1 c4
      refine g_ic zp103 rfl rfl ?_
      exact g_ret zp103 rfl (zret_b (by decide)) ⟨_, rfl, h⟩
    · replace h := h.2 c4
      refine g_ic zp103 rfl rfl ?_
      refine g_goto zp103 rfl ?_
      exact g_ret zp103 rfl (zret_b (by decide)) ⟨_, rfl, h⟩
theorem zp104 : zprog.getD 104 [] = zk104 := rfl
theorem x104_0 {w : zWt} {d : Nat} {H : zHt} {K : Int → zHt → Prop} {l1 : Int} {l2 : Int} {l3 : Int}
    (h : (l1 < 0 → zclI w d 13 [zR 32, zI 1] H (fun x3 H2 => K x3 H2)) ∧ (0 ≤ l1 → (l2 < 1 → zclI w d 13 [zR 32, zI 1] H (fun x6 H5 => K x6 H5)) ∧ (1 ≤ l2 → (2000 < l2 → zclI w d 13 [zR 32, zI 1] H (fun x9 H8 => K x9 H8)) ∧ (l2 ≤ 2000 → zclI w d 44 [zI l3, zI 1] H (fun x11 H10 => (¬ x11 = 0 → zgo w (d + 1) 104 39 [zR 32, zI l1, zI l2, zI l3, zI 0, zI 0, zI 1] [] H10 (zQI K)) ∧ (x11 = 0 → zclI w d 13 [zR 32, zI 1] H10 (fun x14 H13 => K x14 H13))))))) :
    zclI w (d + 1) 104 [zR 32, zI l1, zI l2, zI l3] H K := by
  show zgo w (d + 1) 104 0 [zR 32, zI l1, zI l2, zI l3, zJ, zJ, zJ] [] H (zQI K)
  refine g_il zp104 rfl rfl rfl ?_
  refine g_if zp104 rfl rfl zc2 (fun c1 => ?_) (fun c1 => ?_)
  · replace h := h.1 c1
    refine g_al zp104 rfl rfl rfl (by decide) ?_
    refine g_ic zp104 rfl rfl ?_
    refine g_callI (as := [zR 32, zI 1]) (rest := []) zp104 rfl rfl (Nat.succ_pos _) rfl rfl (Nat.le_of_ble_eq_true rfl) (Nat.le_of_ble_eq_true rfl) rfl rfl h (fun x3 H2 h => ?_)
    exact g_ret zp104 rfl rfl ⟨_, rfl, h⟩
  · replace h := h.2 c1
    refine g_il zp104 rfl rfl rfl ?_
    refine g_ic zp104 rfl rfl ?_
    refine g_icmp zp104 rfl rfl zc2 (fun c4 => ?_) (fun c4 => ?_)
    · replace h := h.1 c4
      refine g_al zp104 rfl rfl rfl (by decide) ?_
      refine g_ic zp104 rfl rfl ?_
      refine g_callI (as := [zR 32, zI 1]) (rest := []) zp104 rfl rfl (Nat.succ_pos _) rfl rfl (Nat.le_of_ble_eq_true rfl) (Nat.le_of_ble_eq_true rfl) rfl rfl h (fun x6 H5 h => ?_)
      exact g_ret zp104 rfl rfl ⟨_, rfl, h⟩
    · replace h := h.2 c4
      refine g_il zp104 rfl rfl rfl ?_
      refine g_ic zp104 rfl rfl ?_
      refine g_icmp zp104 rfl rfl zc4 (fun c7 => ?_) (fun c7 => ?_)
      · replace h := h.1 c7
        refine g_al zp104 rfl rfl rfl (by decide) ?_
        refine g_ic zp104 rfl rfl ?_
        refine g_callI (as := [zR 32, zI 1]) (rest := []) zp104 rfl rfl (Nat.succ_pos _) rfl rfl (Nat.le_of_ble_eq_true rfl) (Nat.le_of_ble_eq_true rfl) rfl rfl h (fun x9 H8 h => ?_)
        exact g_ret zp104 rfl rfl ⟨_, rfl, h⟩
      · replace h := h.2 c7
        refine g_il zp104 rfl rfl rfl ?_
        refine g_ic zp104 rfl rfl ?_
        refine g_callI (as := [zI l3, zI 1]) (rest := []) zp104 rfl rfl (Nat.succ_pos _) rfl rfl (Nat.le_of_ble_eq_true rfl) (Nat.le_of_ble_eq_true rfl) rfl rfl h (fun x11 H10 h => ?_)
        refine g_if zp104 rfl rfl zc1 (fun c12 => ?_) (fun c12 => ?_)
        · replace h := h.1 c12
          refine g_ic zp104 rfl rfl ?_
          refine g_is (ls' := [zR 32, zI l1, zI l2, zI l3, zI 0, zJ, zJ]) zp104 rfl rfl (Nat.le_of_ble_eq_true rfl) rfl ?_
          refine g_ic zp104 rfl rfl ?_
          refine g_is (ls' := [zR 32, zI l1, zI l2, zI l3, zI 0, zI 0, zJ]) zp104 rfl rfl (Nat.le_of_ble_eq_true rfl) rfl ?_
          refine g_ic zp104 rfl rfl ?_
          refine g_is (ls' := [zR 32, zI l1, zI l2, zI l3, zI 0, zI 0, zI 1]) zp104 rfl rfl (Nat.le_of_ble_eq_true rfl) rfl ?_
          exact g_weak (ls' := [zR 32, zI l1, zI l2, zI l3, zI 0, zI 0, zI 1]) ⟨Or.inr rfl, Or.inr rfl, Or.inr rfl, Or.inr rfl, Or.inr rfl, Or.inr rfl, Or.inr rfl, trivial⟩ h
        · replace h := h.2 c12
          refine g_al zp104 rfl rfl rfl (by decide) ?_
          refine g_ic zp104 rfl rfl ?_
          refine g_callI (as := [zR 32, zI 1]) (rest := []) zp104 rfl rfl (Nat.succ_pos _) rfl rfl (Nat.le_of_ble_eq_true rfl) (Nat.le_of_ble_eq_true rfl) rfl rfl h (fun x14 H13 h => ?_)
          exact g_ret zp104 rfl rfl ⟨_, rfl, h⟩
theorem x104_39 {w : zWt} {d : Nat} {H : zHt} {K : Int → zHt → Prop} {l1 : Int} {l2 : Int} {l3 : Int} {l4 : Int} {l5 : Int} {l6 : Int}
    (h : (l2 < l6 → (¬ l3 = 0 → (¬ l4 = 0 → zclI w d 39 [zR 32, zI l5] H (fun x5 H4 => K x5 H4)) ∧ (l4 = 0 → zclI w d 13 [zR 32, zI 5] H (fun x7 H6 => K x7 H6))) ∧ (l3 = 0 → zclI w d 39 [zR 32, zI l4] H (fun x9 H8 => K x9 H8))) ∧ (l6 ≤ l2 → zclL w d 52 [zR 32, zI l6] H (fun x11 H10 => (¬ x11 = l1 → zgo w (d + 1) 104 39 [zR 32, zI l1, zI l2, zI l3, zI l4, zI l5, zI (w32 (l6 + 1))] [] H10 (zQI K)) ∧ (x11 = l1 → (¬ (w32 (l4 + 1)) = 1 → zgo w (d + 1) 104 39 [zR 32, zI l1, zI l2, zI l3, zI (w32 (l4 + 1)), zI l5, zI (w32 (l6 + 1))] [] H10 (zQI K)) ∧ ((w32 (l4 + 1)) = 1 → zgo w (d + 1) 104 39 [zR 32, zI l1, zI l2, zI l3, zI (w32 (l4 + 1)), zI l6, zI (w32 (l6 + 1))] [] H10 (zQI K)))))) :
    zgo w (d + 1) 104 39 [zR 32, zI l1, zI l2, zI l3, zI l4, zI l5, zI l6] [] H (zQI K) := by
  refine g_il zp104 rfl rfl rfl ?_
  refine g_il zp104 rfl rfl rfl ?_
  refine g_icmp zp104 rfl rfl zc4 (fun c1 => ?_) (fun c1 => ?_)
  · replace h := h.1 c1
    refine g_il zp104 rfl rfl rfl ?_
    refine g_if zp104 rfl rfl zc1 (fun c2 => ?_) (fun c2 => ?_)
    · replace h := h.1 c2
      refine g_il zp104 rfl rfl rfl ?_
      refine g_if zp104 rfl rfl zc1 (fun c3 => ?_) (fun c3 => ?_)
      · replace h := h.1 c3
        refine g_al zp104 rfl rfl rfl (by decide) ?_
        refine g_il zp104 rfl rfl rfl ?_
        refine g_callI (as := [zR 32, zI l5]) (rest := []) zp104 rfl rfl (Nat.succ_pos _) rfl rfl (Nat.le_of_ble_eq_true rfl) (Nat.le_of_ble_eq_true rfl) rfl rfl h (fun x5 H4 h => ?_)
        exact g_ret zp104 rfl rfl ⟨_, rfl, h⟩
      · replace h := h.2 c3
        refine g_al zp104 rfl rfl rfl (by decide) ?_
        refine g_ic zp104 rfl rfl ?_
        refine g_callI (as := [zR 32, zI 5]) (rest := []) zp104 rfl rfl (Nat.succ_pos _) rfl rfl (Nat.le_of_ble_eq_true rfl) (Nat.le_of_ble_eq_true rfl) rfl rfl h (fun x7 H6 h => ?_)
        refine g_goto zp104 rfl ?_
        exact g_ret zp104 rfl rfl ⟨_, rfl, h⟩
    · replace h := h.2 c2
      refine g_al zp104 rfl rfl rfl (by decide) ?_
      refine g_il zp104 rfl rfl rfl ?_
      refine g_callI (as := [zR 32, zI l4]) (rest := []) zp104 rfl rfl (Nat.succ_pos _) rfl rfl (Nat.le_of_ble_eq_true rfl) (Nat.le_of_ble_eq_true rfl) rfl rfl h (fun x9 H8 h => ?_)
      exact g_ret zp104 rfl rfl ⟨_, rfl, h⟩
  · replace h := h.2 c1
    refine g_al zp104 rfl rfl rfl (by decide) ?_
    refine g_il zp104 rfl rfl rfl ?_
    refine g_callL (as := [zR 32, zI l6]) (rest := []) zp104 rfl rfl (Nat.succ_pos _) rfl rfl (Nat.le_of_ble_eq_true rfl) (Nat.le_of_ble_eq_true rfl) rfl rfl h (fun x11 H10 h => ?_)
    refine g_il zp104 rfl rfl rfl ?_
    refine g_i2l zp104 rfl rfl ?_
    refine g_lcmp zp104 rfl rfl rfl rfl zc1 (fun c12 => ?_) (fun c12 => ?_)
    · replace h := h.1 c12
      refine g_inc (ls' := [zR 32, zI l1, zI l2, zI l3, zI l4, zI l5, zI (w32 (l6 + 1))]) zp104 rfl rfl rfl rfl ?_
      refine g_goto zp104 rfl ?_
      exact g_weak (ls' := [zR 32, zI l1, zI l2, zI l3, zI l4, zI l5, zI (w32 (l6 + 1))]) ⟨Or.inr rfl, Or.inr rfl, Or.inr rfl, Or.inr rfl, Or.inr rfl, Or.inr rfl, Or.inr rfl, trivial⟩ h
    · replace h := h.2 c12
      refine g_inc (ls' := [zR 32, zI l1, zI l2, zI l3, zI (w32 (l4 + 1)), zI l5, zI l6]) zp104 rfl rfl rfl rfl ?_
      refine g_il zp104 rfl rfl rfl ?_
      refine g_ic zp104 rfl rfl ?_
      refine g_icmp zp104 rfl rfl zc1 (fun c13 => ?_) (fun c13 => ?_)
      · replace h := h.1 c13
        refine g_il zp104 rfl rfl rfl ?_
        refine g_is (ls' := [zR 32, zI l1, zI l2, zI l3, zI (w32 (l4 + 1)), zI l5, zI l6]) zp104 rfl rfl (Nat.le_of_ble_eq_true rfl) rfl ?_
        refine g_inc (ls' := [zR 32, zI l1, zI l2, zI l3, zI (w32 (l4 + 1)), zI l5, zI (w32 (l6 + 1))]) zp104 rfl rfl rfl rfl ?_
        refine g_goto zp104 rfl ?_
        exact g_weak (ls' := [zR 32, zI l1, zI l2, zI l3, zI (w32 (l4 + 1)), zI l5, zI (w32 (l6 + 1))]) ⟨Or.inr rfl, Or.inr rfl, Or.inr rfl, Or.inr rfl, Or.inr rfl, Or.inr rfl, Or.inr rfl, trivial⟩ h
      · replace h := h.2 c13
        refine g_il zp104 rfl rfl rfl ?_
        refine g_goto zp104 rfl ?_
        refine g_is (ls' := [zR 32, zI l1, zI l2, zI l3, zI (w32 (l4 + 1)), zI l6, zI l6]) zp104 rfl rfl (Nat.le_of_ble_eq_true rfl) rfl ?_
        refine g_inc (ls' := [zR 32, zI l1, zI l2, zI l3, zI (w32 (l4 + 1)), zI l6, zI (w32 (l6 + 1))]) zp104 rfl rfl rfl rfl ?_
        refine g_goto zp104 rfl ?_
        exact g_weak (ls' := [zR 32, zI l1, zI l2, zI l3, zI (w32 (l4 + 1)), zI l6, zI (w32 (l6 + 1))]) ⟨Or.inr rfl, Or.inr rfl, Or.inr rfl, Or.inr rfl, Or.inr rfl, Or.inr rfl, Or.inr rfl, trivial⟩ h
theorem zp105 : zprog.getD 105 [] = zk105 := rfl
theorem x105_0 {w : zWt} {d : Nat} {H : zHt} {K : Int → zHt → Prop} {l1 : Int}
    (h : zclI w d 106 [zR 32, zI l1] H (fun x2 H1 => (¬ x2 = 0 → (0 ≤ l1 ∧ l1 < 6) ∧ zclI w d 39 [zR 32, zI (H1 41 l1)] H1 (fun x6 H5 => K x6 H5)) ∧ (x2 = 0 → zclI w d 13 [zR 32, zI 2] H1 (fun x8 H7 => K x8 H7)))) :
    zclI w (d + 1) 105 [zR 32, zI l1] H K := by
  show zgo w (d + 1) 105 0 [zR 32, zI l1] [] H (zQI K)
  refine g_al zp105 rfl rfl rfl (by decide) ?_
  refine g_il zp105 rfl rfl rfl ?_
  refine g_callI (as := [zR 32, zI l1]) (rest := []) zp105 rfl rfl (Nat.succ_pos _) rfl rfl (Nat.le_of_ble_eq_true rfl) (Nat.le_of_ble_eq_true rfl) rfl rfl h (fun x2 H1 h => ?_)
  refine g_if zp105 rfl rfl zc1 (fun c3 => ?_) (fun c3 => ?_)
  · replace h := h.1 c3
    refine g_al zp105 rfl rfl rfl (by decide) ?_
    refine g_al zp105 rfl rfl rfl (by decide) ?_
    refine g_get (v := zR 40) zp105 rfl rfl rfl ⟨rfl, by decide, (by decide)⟩ rfl ?_
    refine g_get (v := zR 41) zp105 rfl rfl rfl ⟨rfl, by decide, (by decide)⟩ rfl ?_
    refine g_il zp105 rfl rfl rfl ?_
    obtain ⟨c4, h⟩ := h
    refine g_ald (v := zI (H1 41 l1)) zp105 rfl rfl rfl rfl c4 rfl ?_
    refine g_callI (as := [zR 32, zI (H1 41 l1)]) (rest := []) zp105 rfl rfl (Nat.succ_pos _) rfl rfl (Nat.le_of_ble_eq_true rfl) (Nat.le_of_ble_eq_true rfl) rfl rfl h (fun x6 H5 h => ?_)
    exact g_ret zp105 rfl rfl ⟨_, rfl, h⟩
  · replace h := h.2 c3
    refine g_al zp105 rfl rfl rfl (by decide) ?_
    refine g_ic zp105 rfl rfl ?_
    refine g_callI (as := [zR 32, zI 2]) (rest := []) zp105 rfl rfl (Nat.succ_pos _) rfl rfl (Nat.le_of_ble_eq_true rfl) (Nat.le_of_ble_eq_true rfl) rfl rfl h (fun x8 H7 h => ?_)
    exact g_ret zp105 rfl rfl ⟨_, rfl, h⟩
theorem zp106 : zprog.getD 106 [] = zk106 := rfl
theorem x106_0 {w : zWt} {d : Nat} {H : zHt} {K : Int → zHt → Prop} {l1 : Int}
    (h : (l1 < 0 → K 0 H) ∧ (0 ≤ l1 → ((H 40 1) ≤ l1 → K 0 H) ∧ (l1 < (H 40 1) → (6 ≤ l1 → K 0 H) ∧ (l1 < 6 → K 1 H)))) :
    zclI w d 106 [zR 32, zI l1] H K := by
  show zgo w d 106 0 [zR 32, zI l1] [] H (zQI K)
  refine g_il zp106 rfl rfl rfl ?_
  refine g_if zp106 rfl rfl zc2 (fun c1 => ?_) (fun c1 => ?_)
  · replace h := h.1 c1
    refine g_ic zp106 rfl rfl ?_
    exact g_ret zp106 rfl (zret_b (by decide)) ⟨_, rfl, h⟩
  · replace h := h.2 c1
    refine g_il zp106 rfl rfl rfl ?_
    refine g_al zp106 rfl rfl rfl (by decide) ?_
    refine g_get (v := zR 40) zp106 rfl rfl rfl ⟨rfl, by decide, (by decide)⟩ rfl ?_
    refine g_get (v := zI (H 40 1)) zp106 rfl rfl rfl ⟨rfl, by decide, (by decide)⟩ rfl ?_
    refine g_icmp zp106 rfl rfl zc3 (fun c2 => ?_) (fun c2 => ?_)
    · replace h := h.1 c2
      refine g_ic zp106 rfl rfl ?_
      exact g_ret zp106 rfl (zret_b (by decide)) ⟨_, rfl, h⟩
    · replace h := h.2 c2
      refine g_il zp106 rfl rfl rfl ?_
      refine g_al zp106 rfl rfl rfl (by decide) ?_
      refine g_get (v := zR 45) zp106 rfl rfl rfl ⟨rfl, by decide, (by decide)⟩ rfl ?_
      refine g_len zp106 rfl rfl rfl (by decide) ?_
      refine g_icmp zp106 rfl rfl zc3 (fun c3 => ?_) (fun c3 => ?_)
      · replace h := h.1 c3
        refine g_ic zp106 rfl rfl ?_
        exact g_ret zp106 rfl (zret_b (by decide)) ⟨_, rfl, h⟩
      · replace h := h.2 c3
        refine g_ic zp106 rfl rfl ?_
        refine g_goto zp106 rfl ?_
        exact g_ret zp106 rfl (zret_b (by decide)) ⟨_, rfl, h⟩
theorem zp107 : zprog.getD 107 [] = zk107 := rfl
theorem x107_0 {w : zWt} {d : Nat} {H : zHt} {K : Int → zHt → Prop} {l1 : Int} {l2 : Int}
    (h : ((-1) ≤ l2 → zclI w d 106 [zR 32, zI l1] H (fun x3 H2 => (¬ x3 = 0 → zclR w d 108 [zR 32, zI l1] H2 (fun x6 H5 => (zisW x6) ∧ (¬ l2 = (-1) → ((H5 x6 1) ≤ l2 → zclI w d 13 [zR 32, zI 5] H5 (fun x10 H9 => K x10 H9)) ∧ (l2 < (H5 x6 1) → (0 ≤ l2 ∧ l2 < 101) ∧ zclI w d 39 [zR 32, zI (H5 (x6 + 1) l2)] H5 (fun x13 H12 => K x13 H12))) ∧ (l2 = (-1) → zclI w d 39 [zR 32, zI (H5 x6 1)] H5 (fun x15 H14 => K x15 H14)))) ∧ (x3 = 0 → zclI w d 13 [zR 32, zI 2] H2 (fun x17 H16 => K x17 H16)))) ∧ (l2 < (-1) → zclI w d 13 [zR 32, zI 1] H (fun x19 H18 => K x19 H18))) :
    zclI w (d + 1) 107 [zR 32, zI l1, zI l2] H K := by
  show zgo w (d + 1) 107 0 [zR 32, zI l1, zI l2, zJ] [] H (zQI K)
  refine g_il zp107 rfl rfl rfl ?_
  refine g_ic zp107 rfl rfl ?_
  refine g_icmp zp107 rfl rfl zc3 (fun c1 => ?_) (fun c1 => ?_)
  · replace h := h.1 c1
    refine g_al zp107 rfl rfl rfl (by decide) ?_
    refine g_il zp107 rfl rfl rfl ?_
    refine g_callI (as := [zR 32, zI l1]) (rest := []) zp107 rfl rfl (Nat.succ_pos _) rfl rfl (Nat.le_of_ble_eq_true rfl) (Nat.le_of_ble_eq_true rfl) rfl rfl h (fun x3 H2 h => ?_)
    refine g_if zp107 rfl rfl zc1 (fun c4 => ?_) (fun c4 => ?_)
    · replace h := h.1 c4
      refine g_al zp107 rfl rfl rfl (by decide) ?_
      refine g_il zp107 rfl rfl rfl ?_
      refine g_callR (as := [zR 32, zI l1]) (rest := []) zp107 rfl rfl (Nat.succ_pos _) rfl rfl (Nat.le_of_ble_eq_true rfl) (Nat.le_of_ble_eq_true rfl) rfl rfl h (fun x6 H5 h => ?_)
      obtain ⟨fx6, h⟩ := h
      refine g_as (ls' := [zR 32, zI l1, zI l2, zR x6]) zp107 rfl rfl (Nat.le_of_ble_eq_true rfl) (Int.le_trans (by decide) (zW_ge fx6)) rfl ?_
      refine g_il zp107 rfl rfl rfl ?_
      refine g_ic zp107 rfl rfl ?_
      refine g_icmp zp107 rfl rfl zc1 (fun c7 => ?_) (fun c7 => ?_)
      · replace h := h.1 c7
        refine g_il zp107 rfl rfl rfl ?_
        refine g_al zp107 rfl rfl rfl (Int.le_trans (by decide) (zW_ge fx6)) ?_
        refine g_get (v := zI (H5 x6 1)) zp107 rfl rfl (zW_sh fx6) ⟨rfl, by decide, (zW_ge fx6)⟩ (congrArg (ztag _) (zM_no (zW_ge fx6) (zW_fx fx6 1 (by decide)))) ?_
        refine g_icmp zp107 rfl rfl zc3 (fun c8 => ?_) (fun c8 => ?_)
        · replace h := h.1 c8
          refine g_al zp107 rfl rfl rfl (by decide) ?_
          refine g_ic zp107 rfl rfl ?_
          refine g_callI (as := [zR 32, zI 5]) (rest := []) zp107 rfl rfl (Nat.succ_pos _) rfl rfl (Nat.le_of_ble_eq_true rfl) (Nat.le_of_ble_eq_true rfl) rfl rfl h (fun x10 H9 h => ?_)
          exact g_ret zp107 rfl rfl ⟨_, rfl, h⟩
        · replace h := h.2 c8
          refine g_al zp107 rfl rfl rfl (by decide) ?_
          refine g_al zp107 rfl rfl rfl (Int.le_trans (by decide) (zW_ge fx6)) ?_
          refine g_get (v := zR (x6 + 1)) zp107 rfl rfl (zW_sh fx6) ⟨rfl, by decide, (zW_ge fx6)⟩ (congrArg (ztag _) (zW_f0 fx6)) ?_
          refine g_il zp107 rfl rfl rfl ?_
          obtain ⟨c11, h⟩ := h
          refine g_ald (v := zI (H5 (x6 + 1) l2)) zp107 rfl rfl (zW_sh1 fx6) rfl c11 (congrArg (ztag _) (zM_no (zW_ge1 fx6) (zW_fx1 fx6 _))) ?_
          refine g_callI (as := [zR 32, zI (H5 (x6 + 1) l2)]) (rest := []) zp107 rfl rfl (Nat.succ_pos _) rfl rfl (Nat.le_of_ble_eq_true rfl) (Nat.le_of_ble_eq_true rfl) rfl rfl h (fun x13 H12 h => ?_)
          refine g_goto zp107 rfl ?_
          exact g_ret zp107 rfl rfl ⟨_, rfl, h⟩
      · replace h := h.2 c7
        refine g_al zp107 rfl rfl rfl (by decide) ?_
        refine g_al zp107 rfl rfl rfl (Int.le_trans (by decide) (zW_ge fx6)) ?_
        refine g_get (v := zI (H5 x6 1)) zp107 rfl rfl (zW_sh fx6) ⟨rfl, by decide, (zW_ge fx6)⟩ (congrArg (ztag _) (zM_no (zW_ge fx6) (zW_fx fx6 1 (by decide)))) ?_
        refine g_callI (as := [zR 32, zI (H5 x6 1)]) (rest := []) zp107 rfl rfl (Nat.succ_pos _) rfl rfl (Nat.le_of_ble_eq_true rfl) (Nat.le_of_ble_eq_true rfl) rfl rfl h (fun x15 H14 h => ?_)
        exact g_ret zp107 rfl rfl ⟨_, rfl, h⟩
    · replace h := h.2 c4
      refine g_al zp107 rfl rfl rfl (by decide) ?_
      refine g_ic zp107 rfl rfl ?_
      refine g_callI (as := [zR 32, zI 2]) (rest := []) zp107 rfl rfl (Nat.succ_pos _) rfl rfl (Nat.le_of_ble_eq_true rfl) (Nat.le_of_ble_eq_true rfl) rfl rfl h (fun x17 H16 h => ?_)
      exact g_ret zp107 rfl rfl ⟨_, rfl, h⟩
  · replace h := h.2 c1
    refine g_al zp107 rfl rfl rfl (by decide) ?_
    refine g_ic zp107 rfl rfl ?_
    refine g_callI (as := [zR 32, zI 1]) (rest := []) zp107 rfl rfl (Nat.succ_pos _) rfl rfl (Nat.le_of_ble_eq_true rfl) (Nat.le_of_ble_eq_true rfl) rfl rfl h (fun x19 H18 h => ?_)
    exact g_ret zp107 rfl rfl ⟨_, rfl, h⟩
