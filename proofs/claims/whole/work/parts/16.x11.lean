/-! segments: what suffices for a run from there on (by wip/whole/gen3.py) -/
theorem zp255 : zprog.getD 255 [] = zk255 := rfl
theorem x255_0 {w : zWt} {d : Nat} {H : zHt} {K : Int → zHt → Prop} {l1 : Int} {l2 : Int} {l3 : Int}
    (h : zclI w d 201 [zI l1, zI l2, zI 50] H (fun x2 H1 => (x2 = 0 → zclI w d 174 [zR 81, zI 1] H1 (fun x5 H4 => (¬ x5 = 0 → zgo w (d + 1) 255 51 [zR 81, zJ, zI l2, zI l3, zI 0, zI 0, zI 0, zI 0, zI l1, zJ] [] H4 (zQI K)) ∧ (x5 = 0 → K (-1) H4))) ∧ (¬ x2 = 0 → zclI w d 173 [zL l3, zL 0, zL 6] H1 (fun x8 H7 => (x8 = 0 → zclI w d 174 [zR 81, zI 1] H7 (fun x11 H10 => (¬ x11 = 0 → zgo w (d + 1) 255 51 [zR 81, zJ, zI l2, zI l3, zI 0, zI 0, zI 0, zI 0, zI l1, zJ] [] H10 (zQI K)) ∧ (x11 = 0 → K (-1) H10))) ∧ (¬ x8 = 0 → zclI w d 174 [zR 81, zI 0] H7 (fun x14 H13 => (¬ x14 = 0 → zgo w (d + 1) 255 51 [zR 81, zJ, zI l2, zI l3, zI 0, zI 0, zI 0, zI 0, zI l1, zJ] [] H13 (zQI K)) ∧ (x14 = 0 → K (-1) H13))))))) :
    zclI w (d + 1) 255 [zR 81, zI l1, zI l2, zI l3] H K := by
  show zgo w (d + 1) 255 0 [zR 81, zI l1, zI l2, zI l3, zJ, zJ, zJ, zJ, zJ, zJ] [] H (zQI K)
  refine g_al zp255 rfl rfl rfl (by decide) ?_
  refine g_il zp255 rfl rfl rfl ?_
  refine g_il zp255 rfl rfl rfl ?_
  refine g_ic zp255 rfl rfl ?_
  refine g_callI (as := [zI l1, zI l2, zI 50]) (rest := [zR 81]) zp255 rfl rfl (Nat.succ_pos _) rfl rfl (Nat.le_of_ble_eq_true rfl) (Nat.le_of_ble_eq_true rfl) rfl rfl h (fun x2 H1 h => ?_)
  refine g_if zp255 rfl rfl zc0 (fun c3 => ?_) (fun c3 => ?_)
  · replace h := h.1 c3
    refine g_ic zp255 rfl rfl ?_
    refine g_callI (as := [zR 81, zI 1]) (rest := []) zp255 rfl rfl (Nat.succ_pos _) rfl rfl (Nat.le_of_ble_eq_true rfl) (Nat.le_of_ble_eq_true rfl) rfl rfl h (fun x5 H4 h => ?_)
    refine g_if zp255 rfl rfl zc1 (fun c6 => ?_) (fun c6 => ?_)
    · replace h := h.1 c6
      refine g_ic zp255 rfl rfl ?_
      refine g_is (ls' := [zR 81, zI l1, zI l2, zI l3, zI 0, zJ, zJ, zJ, zJ, zJ]) zp255 rfl rfl (Nat.le_of_ble_eq_true rfl) rfl ?_
      refine g_ic zp255 rfl rfl ?_
      refine g_is (ls' := [zR 81, zI l1, zI l2, zI l3, zI 0, zI 0, zJ, zJ, zJ, zJ]) zp255 rfl rfl (Nat.le_of_ble_eq_true rfl) rfl ?_
      refine g_ic zp255 rfl rfl ?_
      refine g_is (ls' := [zR 81, zI l1, zI l2, zI l3, zI 0, zI 0, zI 0, zJ, zJ, zJ]) zp255 rfl rfl (Nat.le_of_ble_eq_true rfl) rfl ?_
      refine g_ic zp255 rfl rfl ?_
      refine g_is (ls' := [zR 81, zI l1, zI l2, zI l3, zI 0, zI 0, zI 0, zI 0, zJ, zJ]) zp255 rfl rfl (Nat.le_of_ble_eq_true rfl) rfl ?_
      refine g_il zp255 rfl rfl rfl ?_
      refine g_is (ls' := [zR 81, zI l1, zI l2, zI l3, zI 0, zI 0, zI 0, zI 0, zI l1, zJ]) zp255 rfl rfl (Nat.le_of_ble_eq_true rfl) rfl ?_
      exact g_weak (ls' := [zR 81, zJ, zI l2, zI l3, zI 0, zI 0, zI 0, zI 0, zI l1, zJ]) ⟨Or.inr rfl, Or.inl rfl, Or.inr rfl, Or.inr rfl, Or.inr rfl, Or.inr rfl, Or.inr rfl, Or.inr rfl, Or.inr rfl, Or.inr rfl, trivial⟩ h
    · replace h := h.2 c6
      refine g_ic zp255 rfl rfl ?_
      exact g_ret zp255 rfl rfl ⟨_, rfl, h⟩
  · replace h := h.2 c3
    refine g_il zp255 rfl rfl rfl ?_
    refine g_i2l zp255 rfl rfl ?_
    refine g_lc zp255 rfl rfl ?_
    refine g_lc zp255 rfl rfl ?_
    refine g_callI (as := [zL l3, zL 0, zL 6]) (rest := [zR 81]) zp255 rfl rfl (Nat.succ_pos _) rfl rfl (Nat.le_of_ble_eq_true rfl) (Nat.le_of_ble_eq_true rfl) rfl rfl h (fun x8 H7 h => ?_)
    refine g_if zp255 rfl rfl zc0 (fun c9 => ?_) (fun c9 => ?_)
    · replace h := h.1 c9
      refine g_ic zp255 rfl rfl ?_
      refine g_callI (as := [zR 81, zI 1]) (rest := []) zp255 rfl rfl (Nat.succ_pos _) rfl rfl (Nat.le_of_ble_eq_true rfl) (Nat.le_of_ble_eq_true rfl) rfl rfl h (fun x11 H10 h => ?_)
      refine g_if zp255 rfl rfl zc1 (fun c12 => ?_) (fun c12 => ?_)
      · replace h := h.1 c12
        refine g_ic zp255 rfl rfl ?_
        refine g_is (ls' := [zR 81, zI l1, zI l2, zI l3, zI 0, zJ, zJ, zJ, zJ, zJ]) zp255 rfl rfl (Nat.le_of_ble_eq_true rfl) rfl ?_
        refine g_ic zp255 rfl rfl ?_
        refine g_is (ls' := [zR 81, zI l1, zI l2, zI l3, zI 0, zI 0, zJ, zJ, zJ, zJ]) zp255 rfl rfl (Nat.le_of_ble_eq_true rfl) rfl ?_
        refine g_ic zp255 rfl rfl ?_
        refine g_is (ls' := [zR 81, zI l1, zI l2, zI l3, zI 0, zI 0, zI 0, zJ, zJ, zJ]) zp255 rfl rfl (Nat.le_of_ble_eq_true rfl) rfl ?_
        refine g_ic zp255 rfl rfl ?_
        refine g_is (ls' := [zR 81, zI l1, zI l2, zI l3, zI 0, zI 0, zI 0, zI 0, zJ, zJ]) zp255 rfl rfl (Nat.le_of_ble_eq_true rfl) rfl ?_
        refine g_il zp255 rfl rfl rfl ?_
        refine g_is (ls' := [zR 81, zI l1, zI l2, zI l3, zI 0, zI 0, zI 0, zI 0, zI l1, zJ]) zp255 rfl rfl (Nat.le_of_ble_eq_true rfl) rfl ?_
        exact g_weak (ls' := [zR 81, zJ, zI l2, zI l3, zI 0, zI 0, zI 0, zI 0, zI l1, zJ]) ⟨Or.inr rfl, Or.inl rfl, Or.inr rfl, Or.inr rfl, Or.inr rfl, Or.inr rfl, Or.inr rfl, Or.inr rfl, Or.inr rfl, Or.inr rfl, trivial⟩ h
      · replace h := h.2 c12
        refine g_ic zp255 rfl rfl ?_
        exact g_ret zp255 rfl rfl ⟨_, rfl, h⟩
    · replace h := h.2 c9
      refine g_ic zp255 rfl rfl ?_
      refine g_goto zp255 rfl ?_
      refine g_callI (as := [zR 81, zI 0]) (rest := []) zp255 rfl rfl (Nat.succ_pos _) rfl rfl (Nat.le_of_ble_eq_true rfl) (Nat.le_of_ble_eq_true rfl) rfl rfl h (fun x14 H13 h => ?_)
      refine g_if zp255 rfl rfl zc1 (fun c15 => ?_) (fun c15 => ?_)
      · replace h := h.1 c15
        refine g_ic zp255 rfl rfl ?_
        refine g_is (ls' := [zR 81, zI l1, zI l2, zI l3, zI 0, zJ, zJ, zJ, zJ, zJ]) zp255 rfl rfl (Nat.le_of_ble_eq_true rfl) rfl ?_
        refine g_ic zp255 rfl rfl ?_
        refine g_is (ls' := [zR 81, zI l1, zI l2, zI l3, zI 0, zI 0, zJ, zJ, zJ, zJ]) zp255 rfl rfl (Nat.le_of_ble_eq_true rfl) rfl ?_
        refine g_ic zp255 rfl rfl ?_
        refine g_is (ls' := [zR 81, zI l1, zI l2, zI l3, zI 0, zI 0, zI 0, zJ, zJ, zJ]) zp255 rfl rfl (Nat.le_of_ble_eq_true rfl) rfl ?_
        refine g_ic zp255 rfl rfl ?_
        refine g_is (ls' := [zR 81, zI l1, zI l2, zI l3, zI 0, zI 0, zI 0, zI 0, zJ, zJ]) zp255 rfl rfl (Nat.le_of_ble_eq_true rfl) rfl ?_
        refine g_il zp255 rfl rfl rfl ?_
        refine g_is (ls' := [zR 81, zI l1, zI l2, zI l3, zI 0, zI 0, zI 0, zI 0, zI l1, zJ]) zp255 rfl rfl (Nat.le_of_ble_eq_true rfl) rfl ?_
        exact g_weak (ls' := [zR 81, zJ, zI l2, zI l3, zI 0, zI 0, zI 0, zI 0, zI l1, zJ]) ⟨Or.inr rfl, Or.inl rfl, Or.inr rfl, Or.inr rfl, Or.inr rfl, Or.inr rfl, Or.inr rfl, Or.inr rfl, Or.inr rfl, Or.inr rfl, trivial⟩ h
      · replace h := h.2 c15
        refine g_ic zp255 rfl rfl ?_
        exact g_ret zp255 rfl rfl ⟨_, rfl, h⟩
theorem x255_51 {w : zWt} {d : Nat} {H : zHt} {K : Int → zHt → Prop} {l2 : Int} {l3 : Int} {l4 : Int} {l5 : Int} {l6 : Int} {l7 : Int} {l8 : Int}
    (h : (l2 < l8 → (4 ≤ l3 → (¬ l3 = 4 → (¬ l3 = 5 → K l7 H) ∧ (l3 = 5 → K l6 H)) ∧ (l3 = 4 → K l5 H)) ∧ (l3 < 4 → K l4 H)) ∧ (l8 ≤ l2 → zclV w d 226 [zR 81, zI l8] H (fun H5 => (¬ (H5 81 22) = l3 → zgo w (d + 1) 255 78 [zR 81, zJ, zI l2, zI l3, zJ, zI l5, zI l6, zI l7, zI l8, zJ] [zI 0, zI l4] H5 (zQI K)) ∧ ((H5 81 22) = l3 → zgo w (d + 1) 255 78 [zR 81, zJ, zI l2, zI l3, zJ, zI l5, zI l6, zI l7, zI l8, zJ] [zI 1, zI l4] H5 (zQI K))))) :
    zgo w (d + 1) 255 51 [zR 81, zJ, zI l2, zI l3, zI l4, zI l5, zI l6, zI l7, zI l8, zJ] [] H (zQI K) := by
  refine g_il zp255 rfl rfl rfl ?_
  refine g_il zp255 rfl rfl rfl ?_
  refine g_icmp zp255 rfl rfl zc4 (fun c1 => ?_) (fun c1 => ?_)
  · replace h := h.1 c1
    refine g_il zp255 rfl rfl rfl ?_
    refine g_ic zp255 rfl rfl ?_
    refine g_icmp zp255 rfl rfl zc3 (fun c2 => ?_) (fun c2 => ?_)
    · replace h := h.1 c2
      refine g_il zp255 rfl rfl rfl ?_
      refine g_ic zp255 rfl rfl ?_
      refine g_icmp zp255 rfl rfl zc1 (fun c3 => ?_) (fun c3 => ?_)
      · replace h := h.1 c3
        refine g_il zp255 rfl rfl rfl ?_
        refine g_ic zp255 rfl rfl ?_
        refine g_icmp zp255 rfl rfl zc1 (fun c4 => ?_) (fun c4 => ?_)
        · replace h := h.1 c4
          refine g_il zp255 rfl rfl rfl ?_
          exact g_ret zp255 rfl rfl ⟨_, rfl, h⟩
        · replace h := h.2 c4
          refine g_il zp255 rfl rfl rfl ?_
          refine g_goto zp255 rfl ?_
          exact g_ret zp255 rfl rfl ⟨_, rfl, h⟩
      · replace h := h.2 c3
        refine g_il zp255 rfl rfl rfl ?_
        refine g_goto zp255 rfl ?_
        exact g_ret zp255 rfl rfl ⟨_, rfl, h⟩
    · replace h := h.2 c2
      refine g_il zp255 rfl rfl rfl ?_
      refine g_goto zp255 rfl ?_
      exact g_ret zp255 rfl rfl ⟨_, rfl, h⟩
  · replace h := h.2 c1
    refine g_al zp255 rfl rfl rfl (by decide) ?_
    refine g_il zp255 rfl rfl rfl ?_
    refine g_callV (as := [zR 81, zI l8]) (rest := []) zp255 rfl rfl (Nat.succ_pos _) rfl rfl (Nat.le_of_ble_eq_true rfl) (Nat.le_of_ble_eq_true rfl) rfl rfl h (fun H5 h => ?_)
    refine g_il zp255 rfl rfl rfl ?_
    refine g_al zp255 rfl rfl rfl (by decide) ?_
    refine g_get (v := zI (H5 81 22)) zp255 rfl rfl rfl ⟨rfl, by decide, (by decide)⟩ rfl ?_
    refine g_il zp255 rfl rfl rfl ?_
    refine g_icmp zp255 rfl rfl zc1 (fun c7 => ?_) (fun c7 => ?_)
    · replace h := h.1 c7
      refine g_ic zp255 rfl rfl ?_
      exact g_weak (ls' := [zR 81, zJ, zI l2, zI l3, zJ, zI l5, zI l6, zI l7, zI l8, zJ]) ⟨Or.inr rfl, Or.inr rfl, Or.inr rfl, Or.inr rfl, Or.inl rfl, Or.inr rfl, Or.inr rfl, Or.inr rfl, Or.inr rfl, Or.inr rfl, trivial⟩ h
    · replace h := h.2 c7
      refine g_ic zp255 rfl rfl ?_
      refine g_goto zp255 rfl ?_
      exact g_weak (ls' := [zR 81, zJ, zI l2, zI l3, zJ, zI l5, zI l6, zI l7, zI l8, zJ]) ⟨Or.inr rfl, Or.inr rfl, Or.inr rfl, Or.inr rfl, Or.inl rfl, Or.inr rfl, Or.inr rfl, Or.inr rfl, Or.inr rfl, Or.inr rfl, trivial⟩ h
theorem x255_78 {w : zWt} {d : Nat} {H : zHt} {K : Int → zHt → Prop} {l2 : Int} {l3 : Int} {l5 : Int} {l6 : Int} {l7 : Int} {l8 : Int} {s0 : Int} {s1 : Int}
    (h : zclI w d 233 [zR 81] H (fun x2 H1 => (0 ≤ x2 ∧ x2 < 101) ∧ ((H1 94 x2) ≤ l7 → (l6 < (H1 81 21) → zgo w (d + 1) 255 51 [zR 81, zJ, zI l2, zI l3, zI (w32 (s0 + s1)), zI l8, zI (H1 81 21), zI l7, zI (w32 (l8 + 1)), zJ] [] H1 (zQI K)) ∧ ((H1 81 21) ≤ l6 → zgo w (d + 1) 255 51 [zR 81, zJ, zI l2, zI l3, zI (w32 (s0 + s1)), zI l5, zI l6, zI l7, zI (w32 (l8 + 1)), zJ] [] H1 (zQI K))) ∧ (l7 < (H1 94 x2) → (l6 < (H1 81 21) → zgo w (d + 1) 255 51 [zR 81, zJ, zI l2, zI l3, zI (w32 (s0 + s1)), zI l8, zI (H1 81 21), zI (H1 94 x2), zI (w32 (l8 + 1)), zJ] [] H1 (zQI K)) ∧ ((H1 81 21) ≤ l6 → zgo w (d + 1) 255 51 [zR 81, zJ, zI l2, zI l3, zI (w32 (s0 + s1)), zI l5, zI l6, zI (H1 94 x2), zI (w32 (l8 + 1)), zJ] [] H1 (zQI K))))) :
    zgo w (d + 1) 255 78 [zR 81, zJ, zI l2, zI l3, zJ, zI l5, zI l6, zI l7, zI l8, zJ] [zI s1, zI s0] H (zQI K) := by
  refine g_ar (r := w32 (s0 + s1)) zp255 rfl rfl rfl ?_
  refine g_is (ls' := [zR 81, zJ, zI l2, zI l3, zI (w32 (s0 + s1)), zI l5, zI l6, zI l7, zI l8, zJ]) zp255 rfl rfl (Nat.le_of_ble_eq_true rfl) rfl ?_
  refine g_al zp255 rfl rfl rfl (by decide) ?_
  refine g_get (v := zR 94) zp255 rfl rfl rfl ⟨rfl, by decide, (by decide)⟩ rfl ?_
  refine g_al zp255 rfl rfl rfl (by decide) ?_
  refine g_callI (as := [zR 81]) (rest := [zR 94]) zp255 rfl rfl (Nat.succ_pos _) rfl rfl (Nat.le_of_ble_eq_true rfl) (Nat.le_of_ble_eq_true rfl) rfl rfl h (fun x2 H1 h => ?_)
  obtain ⟨c3, h⟩ := h
  refine g_ald (v := zI (H1 94 x2)) zp255 rfl rfl rfl rfl c3 rfl ?_
  refine g_is (ls' := [zR 81, zJ, zI l2, zI l3, zI (w32 (s0 + s1)), zI l5, zI l6, zI l7, zI l8, zI (H1 94 x2)]) zp255 rfl rfl (Nat.le_of_ble_eq_true rfl) rfl ?_
  refine g_il zp255 rfl rfl rfl ?_
  refine g_il zp255 rfl rfl rfl ?_
  refine g_icmp zp255 rfl rfl zc5 (fun c4 => ?_) (fun c4 => ?_)
  · replace h := h.1 c4
    refine g_il zp255 rfl rfl rfl ?_
    refine g_is (ls' := [zR 81, zJ, zI l2, zI l3, zI (w32 (s0 + s1)), zI l5, zI l6, zI l7, zI l8, zI (H1 94 x2)]) zp255 rfl rfl (Nat.le_of_ble_eq_true rfl) rfl ?_
    refine g_al zp255 rfl rfl rfl (by decide) ?_
    refine g_get (v := zI (H1 81 21)) zp255 rfl rfl rfl ⟨rfl, by decide, (by decide)⟩ rfl ?_
    refine g_il zp255 rfl rfl rfl ?_
    refine g_icmp zp255 rfl rfl zc4 (fun c5 => ?_) (fun c5 => ?_)
    · replace h := h.1 c5
      refine g_al zp255 rfl rfl rfl (by decide) ?_
      refine g_get (v := zI (H1 81 21)) zp255 rfl rfl rfl ⟨rfl, by decide, (by decide)⟩ rfl ?_
      refine g_is (ls' := [zR 81, zJ, zI l2, zI l3, zI (w32 (s0 + s1)), zI l5, zI (H1 81 21), zI l7, zI l8, zI (H1 94 x2)]) zp255 rfl rfl (Nat.le_of_ble_eq_true rfl) rfl ?_
      refine g_il zp255 rfl rfl rfl ?_
      refine g_is (ls' := [zR 81, zJ, zI l2, zI l3, zI (w32 (s0 + s1)), zI l8, zI (H1 81 21), zI l7, zI l8, zI (H1 94 x2)]) zp255 rfl rfl (Nat.le_of_ble_eq_true rfl) rfl ?_
      refine g_inc (ls' := [zR 81, zJ, zI l2, zI l3, zI (w32 (s0 + s1)), zI l8, zI (H1 81 21), zI l7, zI (w32 (l8 + 1)), zI (H1 94 x2)]) zp255 rfl rfl rfl rfl ?_
      refine g_goto zp255 rfl ?_
      exact g_weak (ls' := [zR 81, zJ, zI l2, zI l3, zI (w32 (s0 + s1)), zI l8, zI (H1 81 21), zI l7, zI (w32 (l8 + 1)), zJ]) ⟨Or.inr rfl, Or.inr rfl, Or.inr rfl, Or.inr rfl, Or.inr rfl, Or.inr rfl, Or.inr rfl, Or.inr rfl, Or.inr rfl, Or.inl rfl, trivial⟩ h
    · replace h := h.2 c5
      refine g_goto zp255 rfl ?_
      refine g_inc (ls' := [zR 81, zJ, zI l2, zI l3, zI (w32 (s0 + s1)), zI l5, zI l6, zI l7, zI (w32 (l8 + 1)), zI (H1 94 x2)]) zp255 rfl rfl rfl rfl ?_
      refine g_goto zp255 rfl ?_
      exact g_weak (ls' := [zR 81, zJ, zI l2, zI l3, zI (w32 (s0 + s1)), zI l5, zI l6, zI l7, zI (w32 (l8 + 1)), zJ]) ⟨Or.inr rfl, Or.inr rfl, Or.inr rfl, Or.inr rfl, Or.inr rfl, Or.inr rfl, Or.inr rfl, Or.inr rfl, Or.inr rfl, Or.inl rfl, trivial⟩ h
  · replace h := h.2 c4
    refine g_il zp255 rfl rfl rfl ?_
    refine g_goto zp255 rfl ?_
    refine g_is (ls' := [zR 81, zJ, zI l2, zI l3, zI (w32 (s0 + s1)), zI l5, zI l6, zI (H1 94 x2), zI l8, zI (H1 94 x2)]) zp255 rfl rfl (Nat.le_of_ble_eq_true rfl) rfl ?_
    refine g_al zp255 rfl rfl rfl (by decide) ?_
    refine g_get (v := zI (H1 81 21)) zp255 rfl rfl rfl ⟨rfl, by decide, (by decide)⟩ rfl ?_
    refine g_il zp255 rfl rfl rfl ?_
    refine g_icmp zp255 rfl rfl zc4 (fun c6 => ?_) (fun c6 => ?_)
    · replace h := h.1 c6
      refine g_al zp255 rfl rfl rfl (by decide) ?_
      refine g_get (v := zI (H1 81 21)) zp255 rfl rfl rfl ⟨rfl, by decide, (by decide)⟩ rfl ?_
      refine g_is (ls' := [zR 81, zJ, zI l2, zI l3, zI (w32 (s0 + s1)), zI l5, zI (H1 81 21), zI (H1 94 x2), zI l8, zI (H1 94 x2)]) zp255 rfl rfl (Nat.le_of_ble_eq_true rfl) rfl ?_
      refine g_il zp255 rfl rfl rfl ?_
      refine g_is (ls' := [zR 81, zJ, zI l2, zI l3, zI (w32 (s0 + s1)), zI l8, zI (H1 81 21), zI (H1 94 x2), zI l8, zI (H1 94 x2)]) zp255 rfl rfl (Nat.le_of_ble_eq_true rfl) rfl ?_
      refine g_inc (ls' := [zR 81, zJ, zI l2, zI l3, zI (w32 (s0 + s1)), zI l8, zI (H1 81 21), zI (H1 94 x2), zI (w32 (l8 + 1)), zI (H1 94 x2)]) zp255 rfl rfl rfl rfl ?_
      refine g_goto zp255 rfl ?_
      exact g_weak (ls' := [zR 81, zJ, zI l2, zI l3, zI (w32 (s0 + s1)), zI l8, zI (H1 81 21), zI (H1 94 x2), zI (w32 (l8 + 1)), zJ]) ⟨Or.inr rfl, Or.inr rfl, Or.inr rfl, Or.inr rfl, Or.inr rfl, Or.inr rfl, Or.inr rfl, Or.inr rfl, Or.inr rfl, Or.inl rfl, trivial⟩ h
    · replace h := h.2 c6
      refine g_goto zp255 rfl ?_
      refine g_inc (ls' := [zR 81, zJ, zI l2, zI l3, zI (w32 (s0 + s1)), zI l5, zI l6, zI (H1 94 x2), zI (w32 (l8 + 1)), zI (H1 94 x2)]) zp255 rfl rfl rfl rfl ?_
      refine g_goto zp255 rfl ?_
      exact g_weak (ls' := [zR 81, zJ, zI l2, zI l3, zI (w32 (s0 + s1)), zI l5, zI l6, zI (H1 94 x2), zI (w32 (l8 + 1)), zJ]) ⟨Or.inr rfl, Or.inr rfl, Or.inr rfl, Or.inr rfl, Or.inr rfl, Or.inr rfl, Or.inr rfl, Or.inr rfl, Or.inr rfl, Or.inl rfl, trivial⟩ h
theorem zp256 : zprog.getD 256 [] = zk256 := rfl
theorem x256_0 {w : zWt} {d : Nat} {H : zHt} {K : Int → zHt → Prop} {l1 : Int} {l2 : Int} {l3 : Int}
    (h : zclI w d 201 [zI l1, zI l2, zI 50] H (fun x2 H1 => (x2 = 0 → zclI w d 174 [zR 81, zI 1] H1 (fun x5 H4 => (¬ x5 = 0 → zgo w (d + 1) 256 35 [zR 81, zJ, zI l2, zI l3, zI 0, zI l1] [] H4 (zQI K)) ∧ (x5 = 0 → K (-1) H4))) ∧ (¬ x2 = 0 → (l3 < 1 → zclI w d 174 [zR 81, zI 1] H1 (fun x9 H8 => (¬ x9 = 0 → zgo w (d + 1) 256 35 [zR 81, zJ, zI l2, zI l3, zI 0, zI l1] [] H8 (zQI K)) ∧ (x9 = 0 → K (-1) H8))) ∧ (1 ≤ l3 → zclI w d 174 [zR 81, zI 0] H1 (fun x12 H11 => (¬ x12 = 0 → zgo w (d + 1) 256 35 [zR 81, zJ, zI l2, zI l3, zI 0, zI l1] [] H11 (zQI K)) ∧ (x12 = 0 → K (-1) H11)))))) :
    zclI w (d + 1) 256 [zR 81, zI l1, zI l2, zI l3] H K := by
  show zgo w (d + 1) 256 0 [zR 81, zI l1, zI l2, zI l3, zJ, zJ] [] H (zQI K)
  refine g_al zp256 rfl rfl rfl (by decide) ?_
  refine g_il zp256 rfl rfl rfl ?_
  refine g_il zp256 rfl rfl rfl ?_
  refine g_ic zp256 rfl rfl ?_
  refine g_callI (as := [zI l1, zI l2, zI 50]) (rest := [zR 81]) zp256 rfl rfl (Nat.succ_pos _) rfl rfl (Nat.le_of_ble_eq_true rfl) (Nat.le_of_ble_eq_true rfl) rfl rfl h (fun x2 H1 h => ?_)
  refine g_if zp256 rfl rfl zc0 (fun c3 => ?_) (fun c3 => ?_)
  · replace h := h.1 c3
    refine g_ic zp256 rfl rfl ?_
    refine g_callI (as := [zR 81, zI 1]) (rest := []) zp256 rfl rfl (Nat.succ_pos _) rfl rfl (Nat.le_of_ble_eq_true rfl) (Nat.le_of_ble_eq_true rfl) rfl rfl h (fun x5 H4 h => ?_)
    refine g_if zp256 rfl rfl zc1 (fun c6 => ?_) (fun c6 => ?_)
    · replace h := h.1 c6
      refine g_ic zp256 rfl rfl ?_
      refine g_is (ls' := [zR 81, zI l1, zI l2, zI l3, zI 0, zJ]) zp256 rfl rfl (Nat.le_of_ble_eq_true rfl) rfl ?_
      refine g_il zp256 rfl rfl rfl ?_
      refine g_is (ls' := [zR 81, zI l1, zI l2, zI l3, zI 0, zI l1]) zp256 rfl rfl (Nat.le_of_ble_eq_true rfl) rfl ?_
      exact g_weak (ls' := [zR 81, zJ, zI l2, zI l3, zI 0, zI l1]) ⟨Or.inr rfl, Or.inl rfl, Or.inr rfl, Or.inr rfl, Or.inr rfl, Or.inr rfl, trivial⟩ h
    · replace h := h.2 c6
      refine g_ic zp256 rfl rfl ?_
      exact g_ret zp256 rfl rfl ⟨_, rfl, h⟩
  · replace h := h.2 c3
    refine g_il zp256 rfl rfl rfl ?_
    refine g_ic zp256 rfl rfl ?_
    refine g_icmp zp256 rfl rfl zc2 (fun c7 => ?_) (fun c7 => ?_)
    · replace h := h.1 c7
      refine g_ic zp256 rfl rfl ?_
      refine g_callI (as := [zR 81, zI 1]) (rest := []) zp256 rfl rfl (Nat.succ_pos _) rfl rfl (Nat.le_of_ble_eq_true rfl) (Nat.le_of_ble_eq_true rfl) rfl rfl h (fun x9 H8 h => ?_)
      refine g_if zp256 rfl rfl zc1 (fun c10 => ?_) (fun c10 => ?_)
      · replace h := h.1 c10
        refine g_ic zp256 rfl rfl ?_
        refine g_is (ls' := [zR 81, zI l1, zI l2, zI l3, zI 0, zJ]) zp256 rfl rfl (Nat.le_of_ble_eq_true rfl) rfl ?_
        refine g_il zp256 rfl rfl rfl ?_
        refine g_is (ls' := [zR 81, zI l1, zI l2, zI l3, zI 0, zI l1]) zp256 rfl rfl (Nat.le_of_ble_eq_true rfl) rfl ?_
        exact g_weak (ls' := [zR 81, zJ, zI l2, zI l3, zI 0, zI l1]) ⟨Or.inr rfl, Or.inl rfl, Or.inr rfl, Or.inr rfl, Or.inr rfl, Or.inr rfl, trivial⟩ h
      · replace h := h.2 c10
        refine g_ic zp256 rfl rfl ?_
        exact g_ret zp256 rfl rfl ⟨_, rfl, h⟩
    · replace h := h.2 c7
      refine g_ic zp256 rfl rfl ?_
      refine g_goto zp256 rfl ?_
      refine g_callI (as := [zR 81, zI 0]) (rest := []) zp256 rfl rfl (Nat.succ_pos _) rfl rfl (Nat.le_of_ble_eq_true rfl) (Nat.le_of_ble_eq_true rfl) rfl rfl h (fun x12 H11 h => ?_)
      refine g_if zp256 rfl rfl zc1 (fun c13 => ?_) (fun c13 => ?_)
      · replace h := h.1 c13
        refine g_ic zp256 rfl rfl ?_
        refine g_is (ls' := [zR 81, zI l1, zI l2, zI l3, zI 0, zJ]) zp256 rfl rfl (Nat.le_of_ble_eq_true rfl) rfl ?_
        refine g_il zp256 rfl rfl rfl ?_
        refine g_is (ls' := [zR 81, zI l1, zI l2, zI l3, zI 0, zI l1]) zp256 rfl rfl (Nat.le_of_ble_eq_true rfl) rfl ?_
        exact g_weak (ls' := [zR 81, zJ, zI l2, zI l3, zI 0, zI l1]) ⟨Or.inr rfl, Or.inl rfl, Or.inr rfl, Or.inr rfl, Or.inr rfl, Or.inr rfl, trivial⟩ h
      · replace h := h.2 c13
        refine g_ic zp256 rfl rfl ?_
        exact g_ret zp256 rfl rfl ⟨_, rfl, h⟩
theorem x256_35 {w : zWt} {d : Nat} {H : zHt} {K : Int → zHt → Prop} {l2 : Int} {l3 : Int} {l4 : Int} {l5 : Int}
    (h : (l2 < l5 → K l4 H) ∧ (l5 ≤ l2 → zclV w d 226 [zR 81, zI l5] H (fun H2 => (¬ (H2 81 21) = l3 → zgo w (d + 1) 256 35 [zR 81, zJ, zI l2, zI l3, zI (w32 (l4 + 0)), zI (w32 (l5 + 1))] [] H2 (zQI K)) ∧ ((H2 81 21) = l3 → zgo w (d + 1) 256 35 [zR 81, zJ, zI l2, zI l3, zI (w32 (l4 + 1)), zI (w32 (l5 + 1))] [] H2 (zQI K))))) :
    zgo w (d + 1) 256 35 [zR 81, zJ, zI l2, zI l3, zI l4, zI l5] [] H (zQI K) := by
  refine g_il zp256 rfl rfl rfl ?_
  refine g_il zp256 rfl rfl rfl ?_
  refine g_icmp zp256 rfl rfl zc4 (fun c1 => ?_) (fun c1 => ?_)
  · replace h := h.1 c1
    refine g_il zp256 rfl rfl rfl ?_
    exact g_ret zp256 rfl rfl ⟨_, rfl, h⟩
  · replace h := h.2 c1
    refine g_al zp256 rfl rfl rfl (by decide) ?_
    refine g_il zp256 rfl rfl rfl ?_
    refine g_callV (as := [zR 81, zI l5]) (rest := []) zp256 rfl rfl (Nat.succ_pos _) rfl rfl (Nat.le_of_ble_eq_true rfl) (Nat.le_of_ble_eq_true rfl) rfl rfl h (fun H2 h => ?_)
    refine g_il zp256 rfl rfl rfl ?_
    refine g_al zp256 rfl rfl rfl (by decide) ?_
    refine g_get (v := zI (H2 81 21)) zp256 rfl rfl rfl ⟨rfl, by decide, (by decide)⟩ rfl ?_
    refine g_il zp256 rfl rfl rfl ?_
    refine g_icmp zp256 rfl rfl zc1 (fun c4 => ?_) (fun c4 => ?_)
    · replace h := h.1 c4
      refine g_ic zp256 rfl rfl ?_
      refine g_ar (r := w32 (l4 + 0)) zp256 rfl rfl rfl ?_
      refine g_is (ls' := [zR 81, zJ, zI l2, zI l3, zI (w32 (l4 + 0)), zI l5]) zp256 rfl rfl (Nat.le_of_ble_eq_true rfl) rfl ?_
      refine g_inc (ls' := [zR 81, zJ, zI l2, zI l3, zI (w32 (l4 + 0)), zI (w32 (l5 + 1))]) zp256 rfl rfl rfl rfl ?_
      refine g_goto zp256 rfl ?_
      exact g_weak (ls' := [zR 81, zJ, zI l2, zI l3, zI (w32 (l4 + 0)), zI (w32 (l5 + 1))]) ⟨Or.inr rfl, Or.inr rfl, Or.inr rfl, Or.inr rfl, Or.inr rfl, Or.inr rfl, trivial⟩ h
    · replace h := h.2 c4
      refine g_ic zp256 rfl rfl ?_
      refine g_goto zp256 rfl ?_
      refine g_ar (r := w32 (l4 + 1)) zp256 rfl rfl rfl ?_
      refine g_is (ls' := [zR 81, zJ, zI l2, zI l3, zI (w32 (l4 + 1)), zI l5]) zp256 rfl rfl (Nat.le_of_ble_eq_true rfl) rfl ?_
      refine g_inc (ls' := [zR 81, zJ, zI l2, zI l3, zI (w32 (l4 + 1)), zI (w32 (l5 + 1))]) zp256 rfl rfl rfl rfl ?_
      refine g_goto zp256 rfl ?_
      exact g_weak (ls' := [zR 81, zJ, zI l2, zI l3, zI (w32 (l4 + 1)), zI (w32 (l5 + 1))]) ⟨Or.inr rfl, Or.inr rfl, Or.inr rfl, Or.inr rfl, Or.inr rfl, Or.inr rfl, trivial⟩ h
theorem zp257 : zprog.getD 257 [] = zk257 := rfl
theorem x257_0 {w : zWt} {d : Nat} {H : zHt} {K : Int → zHt → Prop} {l1 : Int} {l2 : Int} {l3 : Int}
    (h : zclI w d 201 [zI l1, zI l2, zI 200] H (fun x2 H1 => (x2 = 0 → zclI w d 174 [zR 81, zI 1] H1 (fun x5 H4 => (¬ x5 = 0 → zgo w (d + 1) 257 47 [zR 81, zI l1, zJ, zI l3, zI (w32 ((w32 (l2 - l1)) + 1)), zI 0, zJ, zJ, zJ, zJ, zJ, zJ] [] H4 (zQI K)) ∧ (x5 = 0 → K (-1) H4))) ∧ (¬ x2 = 0 → zclI w d 173 [zL l3, zL 0, zL 2] H1 (fun x8 H7 => (x8 = 0 → zclI w d 174 [zR 81, zI 1] H7 (fun x11 H10 => (¬ x11 = 0 → zgo w (d + 1) 257 47 [zR 81, zI l1, zJ, zI l3, zI (w32 ((w32 (l2 - l1)) + 1)), zI 0, zJ, zJ, zJ, zJ, zJ, zJ] [] H10 (zQI K)) ∧ (x11 = 0 → K (-1) H10))) ∧ (¬ x8 = 0 → zclI w d 174 [zR 81, zI 0] H7 (fun x14 H13 => (¬ x14 = 0 → zgo w (d + 1) 257 47 [zR 81, zI l1, zJ, zI l3, zI (w32 ((w32 (l2 - l1)) + 1)), zI 0, zJ, zJ, zJ, zJ, zJ, zJ] [] H13 (zQI K)) ∧ (x14 = 0 → K (-1) H13))))))) :
    zclI w (d + 1) 257 [zR 81, zI l1, zI l2, zI l3] H K := by
  show zgo w (d + 1) 257 0 [zR 81, zI l1, zI l2, zI l3, zJ, zJ, zJ, zJ, zJ, zJ, zJ, zJ] [] H (zQI K)
  refine g_al zp257 rfl rfl rfl (by decide) ?_
  refine g_il zp257 rfl rfl rfl ?_
  refine g_il zp257 rfl rfl rfl ?_
  refine g_ic zp257 rfl rfl ?_
  refine g_callI (as := [zI l1, zI l2, zI 200]) (rest := [zR 81]) zp257 rfl rfl (Nat.succ_pos _) rfl rfl (Nat.le_of_ble_eq_true rfl) (Nat.le_of_ble_eq_true rfl) rfl rfl h (fun x2 H1 h => ?_)
  refine g_if zp257 rfl rfl zc0 (fun c3 => ?_) (fun c3 => ?_)
  · replace h := h.1 c3
    refine g_ic zp257 rfl rfl ?_
    refine g_callI (as := [zR 81, zI 1]) (rest := []) zp257 rfl rfl (Nat.succ_pos _) rfl rfl (Nat.le_of_ble_eq_true rfl) (Nat.le_of_ble_eq_true rfl) rfl rfl h (fun x5 H4 h => ?_)
    refine g_if zp257 rfl rfl zc1 (fun c6 => ?_) (fun c6 => ?_)
    · replace h := h.1 c6
      refine g_il zp257 rfl rfl rfl ?_
      refine g_il zp257 rfl rfl rfl ?_
      refine g_ar (r := w32 (l2 - l1)) zp257 rfl rfl rfl ?_
      refine g_ic zp257 rfl rfl ?_
      refine g_ar (r := w32 ((w32 (l2 - l1)) + 1)) zp257 rfl rfl rfl ?_
      refine g_is (ls' := [zR 81, zI l1, zI l2, zI l3, zI (w32 ((w32 (l2 - l1)) + 1)), zJ, zJ, zJ, zJ, zJ, zJ, zJ]) zp257 rfl rfl (Nat.le_of_ble_eq_true rfl) rfl ?_
      refine g_ic zp257 rfl rfl ?_
      refine g_is (ls' := [zR 81, zI l1, zI l2, zI l3, zI (w32 ((w32 (l2 - l1)) + 1)), zI 0, zJ, zJ, zJ, zJ, zJ, zJ]) zp257 rfl rfl (Nat.le_of_ble_eq_true rfl) rfl ?_
      exact g_weak (ls' := [zR 81, zI l1, zJ, zI l3, zI (w32 ((w32 (l2 - l1)) + 1)), zI 0, zJ, zJ, zJ, zJ, zJ, zJ]) ⟨Or.inr rfl, Or.inr rfl, Or.inl rfl, Or.inr rfl, Or.inr rfl, Or.inr rfl, Or.inr rfl, Or.inr rfl, Or.inr rfl, Or.inr rfl, Or.inr rfl, Or.inr rfl, trivial⟩ h
    · replace h := h.2 c6
      refine g_ic zp257 rfl rfl ?_
      exact g_ret zp257 rfl rfl ⟨_, rfl, h⟩
  · replace h := h.2 c3
    refine g_il zp257 rfl rfl rfl ?_
    refine g_i2l zp257 rfl rfl ?_
    refine g_lc zp257 rfl rfl ?_
    refine g_lc zp257 rfl rfl ?_
    refine g_callI (as := [zL l3, zL 0, zL 2]) (rest := [zR 81]) zp257 rfl rfl (Nat.succ_pos _) rfl rfl (Nat.le_of_ble_eq_true rfl) (Nat.le_of_ble_eq_true rfl) rfl rfl h (fun x8 H7 h => ?_)
    refine g_if zp257 rfl rfl zc0 (fun c9 => ?_) (fun c9 => ?_)
    · replace h := h.1 c9
      refine g_ic zp257 rfl rfl ?_
      refine g_callI (as := [zR 81, zI 1]) (rest := []) zp257 rfl rfl (Nat.succ_pos _) rfl rfl (Nat.le_of_ble_eq_true rfl) (Nat.le_of_ble_eq_true rfl) rfl rfl h (fun x11 H10 h => ?_)
      refine g_if zp257 rfl rfl zc1 (fun c12 => ?_) (fun c12 => ?_)
      · replace h := h.1 c12
        refine g_il zp257 rfl rfl rfl ?_
        refine g_il zp257 rfl rfl rfl ?_
        refine g_ar (r := w32 (l2 - l1)) zp257 rfl rfl rfl ?_
        refine g_ic zp257 rfl rfl ?_
        refine g_ar (r := w32 ((w32 (l2 - l1)) + 1)) zp257 rfl rfl rfl ?_
        refine g_is (ls' := [zR 81, zI l1, zI l2, zI l3, zI (w32 ((w32 (l2 - l1)) + 1)), zJ, zJ, zJ, zJ, zJ, zJ, zJ]) zp257 rfl rfl (Nat.le_of_ble_eq_true rfl) rfl ?_
        refine g_ic zp257 rfl rfl ?_
        refine g_is (ls' := [zR 81, zI l1, zI l2, zI l3, zI (w32 ((w32 (l2 - l1)) + 1)), zI 0, zJ, zJ, zJ, zJ, zJ, zJ]) zp257 rfl rfl (Nat.le_of_ble_eq_true rfl) rfl ?_
        exact g_weak (ls' := [zR 81, zI l1, zJ, zI l3, zI (w32 ((w32 (l2 - l1)) + 1)), zI 0, zJ, zJ, zJ, zJ, zJ, zJ]) ⟨Or.inr rfl, Or.inr rfl, Or.inl rfl, Or.inr rfl, Or.inr rfl, Or.inr rfl, Or.inr rfl, Or.inr rfl, Or.inr rfl, Or.inr rfl, Or.inr rfl, Or.inr rfl, trivial⟩ h
      · replace h := h.2 c12
        refine g_ic zp257 rfl rfl ?_
        exact g_ret zp257 rfl rfl ⟨_, rfl, h⟩
    · replace h := h.2 c9
      refine g_ic zp257 rfl rfl ?_
      refine g_goto zp257 rfl ?_
      refine g_callI (as := [zR 81, zI 0]) (rest := []) zp257 rfl rfl (Nat.succ_pos _) rfl rfl (Nat.le_of_ble_eq_true rfl) (Nat.le_of_ble_eq_true rfl) rfl rfl h (fun x14 H13 h => ?_)
      refine g_if zp257 rfl rfl zc1 (fun c15 => ?_) (fun c15 => ?_)
      · replace h := h.1 c15
        refine g_il zp257 rfl rfl rfl ?_
        refine g_il zp257 rfl rfl rfl ?_
        refine g_ar (r := w32 (l2 - l1)) zp257 rfl rfl rfl ?_
        refine g_ic zp257 rfl rfl ?_
        refine g_ar (r := w32 ((w32 (l2 - l1)) + 1)) zp257 rfl rfl rfl ?_
        refine g_is (ls' := [zR 81, zI l1, zI l2, zI l3, zI (w32 ((w32 (l2 - l1)) + 1)), zJ, zJ, zJ, zJ, zJ, zJ, zJ]) zp257 rfl rfl (Nat.le_of_ble_eq_true rfl) rfl ?_
        refine g_ic zp257 rfl rfl ?_
        refine g_is (ls' := [zR 81, zI l1, zI l2, zI l3, zI (w32 ((w32 (l2 - l1)) + 1)), zI 0, zJ, zJ, zJ, zJ, zJ, zJ]) zp257 rfl rfl (Nat.le_of_ble_eq_true rfl) rfl ?_
        exact g_weak (ls' := [zR 81, zI l1, zJ, zI l3, zI (w32 ((w32 (l2 - l1)) + 1)), zI 0, zJ, zJ, zJ, zJ, zJ, zJ]) ⟨Or.inr rfl, Or.inr rfl, Or.inl rfl, Or.inr rfl, Or.inr rfl, Or.inr rfl, Or.inr rfl, Or.inr rfl, Or.inr rfl, Or.inr rfl, Or.inr rfl, Or.inr rfl, trivial⟩ h
      · replace h := h.2 c15
        refine g_ic zp257 rfl rfl ?_
        exact g_ret zp257 rfl rfl ⟨_, rfl, h⟩
theorem x257_47 {w : zWt} {d : Nat} {H : zHt} {K : Int → zHt → Prop} {l1 : Int} {l3 : Int} {l4 : Int} {l5 : Int}
    (h : (l4 ≤ l5 → zgo w (d + 1) 257 87 [zR 81, zI l1, zJ, zI l3, zI l4, zI 0, zI 0, zI 0, zI 0, zJ, zJ, zJ] [] H (zQI K)) ∧ (l5 < l4 → zclL w d 258 [zR 81, zI (w32 (l1 + l5))] H (fun x3 H2 => (0 ≤ l5 ∧ l5 < 201) ∧ zgo w (d + 1) 257 47 [zR 81, zI l1, zJ, zI l3, zI l4, zI (w32 (l5 + 1)), zJ, zJ, zJ, zJ, zJ, zJ] [] (zup H2 97 l5 x3) (zQI K)))) :
    zgo w (d + 1) 257 47 [zR 81, zI l1, zJ, zI l3, zI l4, zI l5, zJ, zJ, zJ, zJ, zJ, zJ] [] H (zQI K) := by
  refine g_il zp257 rfl rfl rfl ?_
  refine g_il zp257 rfl rfl rfl ?_
  refine g_icmp zp257 rfl rfl zc3 (fun c1 => ?_) (fun c1 => ?_)
  · replace h := h.1 c1
    refine g_ic zp257 rfl rfl ?_
    refine g_is (ls' := [zR 81, zI l1, zJ, zI l3, zI l4, zI 0, zJ, zJ, zJ, zJ, zJ, zJ]) zp257 rfl rfl (Nat.le_of_ble_eq_true rfl) rfl ?_
    refine g_ic zp257 rfl rfl ?_
    refine g_is (ls' := [zR 81, zI l1, zJ, zI l3, zI l4, zI 0, zI 0, zJ, zJ, zJ, zJ, zJ]) zp257 rfl rfl (Nat.le_of_ble_eq_true rfl) rfl ?_
    refine g_ic zp257 rfl rfl ?_
    refine g_is (ls' := [zR 81, zI l1, zJ, zI l3, zI l4, zI 0, zI 0, zI 0, zJ, zJ, zJ, zJ]) zp257 rfl rfl (Nat.le_of_ble_eq_true rfl) rfl ?_
    refine g_ic zp257 rfl rfl ?_
    refine g_is (ls' := [zR 81, zI l1, zJ, zI l3, zI l4, zI 0, zI 0, zI 0, zI 0, zJ, zJ, zJ]) zp257 rfl rfl (Nat.le_of_ble_eq_true rfl) rfl ?_
    exact g_weak (ls' := [zR 81, zI l1, zJ, zI l3, zI l4, zI 0, zI 0, zI 0, zI 0, zJ, zJ, zJ]) ⟨Or.inr rfl, Or.inr rfl, Or.inr rfl, Or.inr rfl, Or.inr rfl, Or.inr rfl, Or.inr rfl, Or.inr rfl, Or.inr rfl, Or.inr rfl, Or.inr rfl, Or.inr rfl, trivial⟩ h
  · replace h := h.2 c1
    refine g_al zp257 rfl rfl rfl (by decide) ?_
    refine g_get (v := zR 97) zp257 rfl rfl rfl ⟨rfl, by decide, (by decide)⟩ rfl ?_
    refine g_il zp257 rfl rfl rfl ?_
    refine g_al zp257 rfl rfl rfl (by decide) ?_
    refine g_il zp257 rfl rfl rfl ?_
    refine g_il zp257 rfl rfl rfl ?_
    refine g_ar (r := w32 (l1 + l5)) zp257 rfl rfl rfl ?_
    refine g_callL (as := [zR 81, zI (w32 (l1 + l5))]) (rest := [zI l5, zR 97]) zp257 rfl rfl (Nat.succ_pos _) rfl rfl (Nat.le_of_ble_eq_true rfl) (Nat.le_of_ble_eq_true rfl) rfl rfl h (fun x3 H2 h => ?_)
    obtain ⟨c4, h⟩ := h
    refine g_last zp257 rfl rfl rfl (by decide) rfl c4 ?_
    refine g_inc (ls' := [zR 81, zI l1, zJ, zI l3, zI l4, zI (w32 (l5 + 1)), zJ, zJ, zJ, zJ, zJ, zJ]) zp257 rfl rfl rfl rfl ?_
    refine g_goto zp257 rfl ?_
    exact g_weak (ls' := [zR 81, zI l1, zJ, zI l3, zI l4, zI (w32 (l5 + 1)), zJ, zJ, zJ, zJ, zJ, zJ]) ⟨Or.inr rfl, Or.inr rfl, Or.inr rfl, Or.inr rfl, Or.inr rfl, Or.inr rfl, Or.inr rfl, Or.inr rfl, Or.inr rfl, Or.inr rfl, Or.inr rfl, Or.inr rfl, trivial⟩ h
theorem x257_87 {w : zWt} {d : Nat} {H : zHt} {K : Int → zHt → Prop} {l1 : Int} {l3 : Int} {l4 : Int} {l5 : Int} {l6 : Int} {l7 : Int} {l8 : Int}
    (h : (l4 ≤ l8 → (¬ l3 = 0 → (¬ l3 = 1 → K l7 H) ∧ (l3 = 1 → K l6 H)) ∧ (l3 = 0 → K l5 H)) ∧ (l8 < l4 → zgo w (d + 1) 257 103 [zR 81, zI l1, zJ, zI l3, zI l4, zI l5, zI l6, zI l7, zI l8, zI 0, zI 0, zI 0] [] H (zQI K))) :
    zgo w (d + 1) 257 87 [zR 81, zI l1, zJ, zI l3, zI l4, zI l5, zI l6, zI l7, zI l8, zJ, zJ, zJ] [] H (zQI K) := by
  refine g_il zp257 rfl rfl rfl ?_
  refine g_il zp257 rfl rfl rfl ?_
  refine g_icmp zp257 rfl rfl zc3 (fun c1 => ?_) (fun c1 => ?_)
  · replace h := h.1 c1
    refine g_il zp257 rfl rfl rfl ?_
    refine g_if zp257 rfl rfl zc1 (fun c2 => ?_) (fun c2 => ?_)
    · replace h := h.1 c2
      refine g_il zp257 rfl rfl rfl ?_
      refine g_ic zp257 rfl rfl ?_
      refine g_icmp zp257 rfl rfl zc1 (fun c3 => ?_) (fun c3 => ?_)
      · replace h := h.1 c3
        refine g_il zp257 rfl rfl rfl ?_
        exact g_ret zp257 rfl rfl ⟨_, rfl, h⟩
      · replace h := h.2 c3
        refine g_il zp257 rfl rfl rfl ?_
        refine g_goto zp257 rfl ?_
        exact g_ret zp257 rfl rfl ⟨_, rfl, h⟩
    · replace h := h.2 c2
      refine g_il zp257 rfl rfl rfl ?_
      refine g_goto zp257 rfl ?_
      exact g_ret zp257 rfl rfl ⟨_, rfl, h⟩
  · replace h := h.2 c1
    refine g_ic zp257 rfl rfl ?_
    refine g_is (ls' := [zR 81, zI l1, zJ, zI l3, zI l4, zI l5, zI l6, zI l7, zI l8, zI 0, zJ, zJ]) zp257 rfl rfl (Nat.le_of_ble_eq_true rfl) rfl ?_
    refine g_ic zp257 rfl rfl ?_
    refine g_is (ls' := [zR 81, zI l1, zJ, zI l3, zI l4, zI l5, zI l6, zI l7, zI l8, zI 0, zI 0, zJ]) zp257 rfl rfl (Nat.le_of_ble_eq_true rfl) rfl ?_
    refine g_ic zp257 rfl rfl ?_
    refine g_is (ls' := [zR 81, zI l1, zJ, zI l3, zI l4, zI l5, zI l6, zI l7, zI l8, zI 0, zI 0, zI 0]) zp257 rfl rfl (Nat.le_of_ble_eq_true rfl) rfl ?_
    exact g_weak (ls' := [zR 81, zI l1, zJ, zI l3, zI l4, zI l5, zI l6, zI l7, zI l8, zI 0, zI 0, zI 0]) ⟨Or.inr rfl, Or.inr rfl, Or.inr rfl, Or.inr rfl, Or.inr rfl, Or.inr rfl, Or.inr rfl, Or.inr rfl, Or.inr rfl, Or.inr rfl, Or.inr rfl, Or.inr rfl, trivial⟩ h
theorem x257_103 {w : zWt} {d : Nat} {H : zHt} {K : Int → zHt → Prop} {l1 : Int} {l3 : Int} {l4 : Int} {l5 : Int} {l6 : Int} {l7 : Int} {l8 : Int} {l9 : Int} {l10 : Int} {l11 : Int}
    (h : (l4 ≤ l11 → (¬ l9 = 0 → (l6 < l10 → zgo w (d + 1) 257 87 [zR 81, zI l1, zJ, zI l3, zI l4, zI (w32 (l5 + 0)), zI l10, zI (w32 (l1 + l8)), zI (w32 (l8 + 1)), zJ, zJ, zJ] [] H (zQI K)) ∧ (l10 ≤ l6 → zgo w (d + 1) 257 87 [zR 81, zI l1, zJ, zI l3, zI l4, zI (w32 (l5 + 0)), zI l6, zI l7, zI (w32 (l8 + 1)), zJ, zJ, zJ] [] H (zQI K))) ∧ (l9 = 0 → (l6 < l10 → zgo w (d + 1) 257 87 [zR 81, zI l1, zJ, zI l3, zI l4, zI (w32 (l5 + 1)), zI l10, zI (w32 (l1 + l8)), zI (w32 (l8 + 1)), zJ, zJ, zJ] [] H (zQI K)) ∧ (l10 ≤ l6 → zgo w (d + 1) 257 87 [zR 81, zI l1, zJ, zI l3, zI l4, zI (w32 (l5 + 1)), zI l6, zI l7, zI (w32 (l8 + 1)), zJ, zJ, zJ] [] H (zQI K)))) ∧ (l11 < l4 → (0 ≤ l11 ∧ l11 < 201) ∧ (0 ≤ l8 ∧ l8 < 201) ∧ ((H 97 l11) = (H 97 l8) → (l8 ≤ l11 → zgo w (d + 1) 257 103 [zR 81, zI l1, zJ, zI l3, zI l4, zI l5, zI l6, zI l7, zI l8, zI (w32 (l9 + 0)), zI (w32 (l10 + 1)), zI (w32 (l11 + 1))] [] H (zQI K)) ∧ (l11 < l8 → zgo w (d + 1) 257 103 [zR 81, zI l1, zJ, zI l3, zI l4, zI l5, zI l6, zI l7, zI l8, zI (w32 (l9 + 1)), zI (w32 (l10 + 1)), zI (w32 (l11 + 1))] [] H (zQI K))) ∧ (¬ (H 97 l11) = (H 97 l8) → zgo w (d + 1) 257 103 [zR 81, zI l1, zJ, zI l3, zI l4, zI l5, zI l6, zI l7, zI l8, zI l9, zI l10, zI (w32 (l11 + 1))] [] H (zQI K)))) :
    zgo w (d + 1) 257 103 [zR 81, zI l1, zJ, zI l3, zI l4, zI l5, zI l6, zI l7, zI l8, zI l9, zI l10, zI l11] [] H (zQI K) := by
  refine g_il zp257 rfl rfl rfl ?_
  refine g_il zp257 rfl rfl rfl ?_
  refine g_icmp zp257 rfl rfl zc3 (fun c1 => ?_) (fun c1 => ?_)
  · replace h := h.1 c1
    refine g_il zp257 rfl rfl rfl ?_
    refine g_il zp257 rfl rfl rfl ?_
    refine g_if zp257 rfl rfl zc1 (fun c2 => ?_) (fun c2 => ?_)
    · replace h := h.1 c2
      refine g_ic zp257 rfl rfl ?_
      refine g_ar (r := w32 (l5 + 0)) zp257 rfl rfl rfl ?_
      refine g_is (ls' := [zR 81, zI l1, zJ, zI l3, zI l4, zI (w32 (l5 + 0)), zI l6, zI l7, zI l8, zI l9, zI l10, zI l11]) zp257 rfl rfl (Nat.le_of_ble_eq_true rfl) rfl ?_
      refine g_il zp257 rfl rfl rfl ?_
      refine g_il zp257 rfl rfl rfl ?_
      refine g_icmp zp257 rfl rfl zc4 (fun c3 => ?_) (fun c3 => ?_)
      · replace h := h.1 c3
        refine g_il zp257 rfl rfl rfl ?_
        refine g_is (ls' := [zR 81, zI l1, zJ, zI l3, zI l4, zI (w32 (l5 + 0)), zI l10, zI l7, zI l8, zI l9, zI l10, zI l11]) zp257 rfl rfl (Nat.le_of_ble_eq_true rfl) rfl ?_
        refine g_il zp257 rfl rfl rfl ?_
        refine g_il zp257 rfl rfl rfl ?_
        refine g_ar (r := w32 (l1 + l8)) zp257 rfl rfl rfl ?_
        refine g_is (ls' := [zR 81, zI l1, zJ, zI l3, zI l4, zI (w32 (l5 + 0)), zI l10, zI (w32 (l1 + l8)), zI l8, zI l9, zI l10, zI l11]) zp257 rfl rfl (Nat.le_of_ble_eq_true rfl) rfl ?_
        refine g_inc (ls' := [zR 81, zI l1, zJ, zI l3, zI l4, zI (w32 (l5 + 0)), zI l10, zI (w32 (l1 + l8)), zI (w32 (l8 + 1)), zI l9, zI l10, zI l11]) zp257 rfl rfl rfl rfl ?_
        refine g_goto zp257 rfl ?_
        exact g_weak (ls' := [zR 81, zI l1, zJ, zI l3, zI l4, zI (w32 (l5 + 0)), zI l10, zI (w32 (l1 + l8)), zI (w32 (l8 + 1)), zJ, zJ, zJ]) ⟨Or.inr rfl, Or.inr rfl, Or.inr rfl, Or.inr rfl, Or.inr rfl, Or.inr rfl, Or.inr rfl, Or.inr rfl, Or.inr rfl, Or.inl rfl, Or.inl rfl, Or.inl rfl, trivial⟩ h
      · replace h := h.2 c3
        refine g_goto zp257 rfl ?_
        refine g_inc (ls' := [zR 81, zI l1, zJ, zI l3, zI l4, zI (w32 (l5 + 0)), zI l6, zI l7, zI (w32 (l8 + 1)), zI l9, zI l10, zI l11]) zp257 rfl rfl rfl rfl ?_
        refine g_goto zp257 rfl ?_
        exact g_weak (ls' := [zR 81, zI l1, zJ, zI l3, zI l4, zI (w32 (l5 + 0)), zI l6, zI l7, zI (w32 (l8 + 1)), zJ, zJ, zJ]) ⟨Or.inr rfl, Or.inr rfl, Or.inr rfl, Or.inr rfl, Or.inr rfl, Or.inr rfl, Or.inr rfl, Or.inr rfl, Or.inr rfl, Or.inl rfl, Or.inl rfl, Or.inl rfl, trivial⟩ h
    · replace h := h.2 c2
      refine g_ic zp257 rfl rfl ?_
      refine g_goto zp257 rfl ?_
      refine g_ar (r := w32 (l5 + 1)) zp257 rfl rfl rfl ?_
      refine g_is (ls' := [zR 81, zI l1, zJ, zI l3, zI l4, zI (w32 (l5 + 1)), zI l6, zI l7, zI l8, zI l9, zI l10, zI l11]) zp257 rfl rfl (Nat.le_of_ble_eq_true rfl) rfl ?_
      refine g_il zp257 rfl rfl rfl ?_
      refine g_il zp257 rfl rfl rfl ?_
      refine g_icmp zp257 rfl rfl zc4 (fun c4 => ?_) (fun c4 => ?_)
      · replace h := h.1 c4
        refine g_il zp257 rfl rfl rfl ?_
        refine g_is (ls' := [zR 81, zI l1, zJ, zI l3, zI l4, zI (w32 (l5 + 1)), zI l10, zI l7, zI l8, zI l9, zI l10, zI l11]) zp257 rfl rfl (Nat.le_of_ble_eq_true rfl) rfl ?_
        refine g_il zp257 rfl rfl rfl ?_
        refine g_il zp257 rfl rfl rfl ?_
        refine g_ar (r := w32 (l1 + l8)) zp257 rfl rfl rfl ?_
        refine g_is (ls' := [zR 81, zI l1, zJ, zI l3, zI l4, zI (w32 (l5 + 1)), zI l10, zI (w32 (l1 + l8)), zI l8, zI l9, zI l10, zI l11]) zp257 rfl rfl (Nat.le_of_ble_eq_true rfl) rfl ?_
        refine g_inc (ls' := [zR 81, zI l1, zJ, zI l3, zI l4, zI (w32 (l5 + 1)), zI l10, zI (w32 (l1 + l8)), zI (w32 (l8 + 1)), zI l9, zI l10, zI l11]) zp257 rfl rfl rfl rfl ?_
        refine g_goto zp257 rfl ?_
        exact g_weak (ls' := [zR 81, zI l1, zJ, zI l3, zI l4, zI (w32 (l5 + 1)), zI l10, zI (w32 (l1 + l8)), zI (w32 (l8 + 1)), zJ, zJ, zJ]) ⟨Or.inr rfl, Or.inr rfl, Or.inr rfl, Or.inr rfl, Or.inr rfl, Or.inr rfl, Or.inr rfl, Or.inr rfl, Or.inr rfl, Or.inl rfl, Or.inl rfl, Or.inl rfl, trivial⟩ h
      · replace h := h.2 c4
        refine g_goto zp257 rfl ?_
        refine g_inc (ls' := [zR 81, zI l1, zJ, zI l3, zI l4, zI (w32 (l5 + 1)), zI l6, zI l7, zI (w32 (l8 + 1)), zI l9, zI l10, zI l11]) zp257 rfl rfl rfl rfl ?_
        refine g_goto zp257 rfl ?_
        exact g_weak (ls' := [zR 81, zI l1, zJ, zI l3, zI l4, zI (w32 (l5 + 1)), zI l6, zI l7, zI (w32 (l8 + 1)), zJ, zJ, zJ]) ⟨Or.inr rfl, Or.inr rfl, Or.inr rfl, Or.inr rfl, Or.inr rfl, Or.inr rfl, Or.inr rfl, Or.inr rfl, Or.inr rfl, Or.inl rfl, Or.inl rfl, Or.inl rfl, trivial⟩ h
  · replace h := h.2 c1
    refine g_al zp257 rfl rfl rfl (by decide) ?_
    refine g_get (v := zR 97) zp257 rfl rfl rfl ⟨rfl, by decide, (by decide)⟩ rfl ?_
    refine g_il zp257 rfl rfl rfl ?_
    obtain ⟨c5, h⟩ := h
    refine g_ald (v := zL (H 97 l11)) zp257 rfl rfl rfl rfl c5 rfl ?_
    refine g_al zp257 rfl rfl rfl (by decide) ?_
    refine g_get (v := zR 97) zp257 rfl rfl rfl ⟨rfl, by decide, (by decide)⟩ rfl ?_
    refine g_il zp257 rfl rfl rfl ?_
    obtain ⟨c6, h⟩ := h
    refine g_ald (v := zL (H 97 l8)) zp257 rfl rfl rfl rfl c6 rfl ?_
    refine g_lcmp zp257 rfl rfl rfl rfl zc0 (fun c7 => ?_) (fun c7 => ?_)
    · replace h := h.1 c7
      refine g_inc (ls' := [zR 81, zI l1, zJ, zI l3, zI l4, zI l5, zI l6, zI l7, zI l8, zI l9, zI (w32 (l10 + 1)), zI l11]) zp257 rfl rfl rfl rfl ?_
      refine g_il zp257 rfl rfl rfl ?_
      refine g_il zp257 rfl rfl rfl ?_
      refine g_il zp257 rfl rfl rfl ?_
      refine g_icmp zp257 rfl rfl zc3 (fun c8 => ?_) (fun c8 => ?_)
      · replace h := h.1 c8
        refine g_ic zp257 rfl rfl ?_
        refine g_ar (r := w32 (l9 + 0)) zp257 rfl rfl rfl ?_
        refine g_is (ls' := [zR 81, zI l1, zJ, zI l3, zI l4, zI l5, zI l6, zI l7, zI l8, zI (w32 (l9 + 0)), zI (w32 (l10 + 1)), zI l11]) zp257 rfl rfl (Nat.le_of_ble_eq_true rfl) rfl ?_
        refine g_inc (ls' := [zR 81, zI l1, zJ, zI l3, zI l4, zI l5, zI l6, zI l7, zI l8, zI (w32 (l9 + 0)), zI (w32 (l10 + 1)), zI (w32 (l11 + 1))]) zp257 rfl rfl rfl rfl ?_
        refine g_goto zp257 rfl ?_
        exact g_weak (ls' := [zR 81, zI l1, zJ, zI l3, zI l4, zI l5, zI l6, zI l7, zI l8, zI (w32 (l9 + 0)), zI (w32 (l10 + 1)), zI (w32 (l11 + 1))]) ⟨Or.inr rfl, Or.inr rfl, Or.inr rfl, Or.inr rfl, Or.inr rfl, Or.inr rfl, Or.inr rfl, Or.inr rfl, Or.inr rfl, Or.inr rfl, Or.inr rfl, Or.inr rfl, trivial⟩ h
      · replace h := h.2 c8
        refine g_ic zp257 rfl rfl ?_
        refine g_goto zp257 rfl ?_
        refine g_ar (r := w32 (l9 + 1)) zp257 rfl rfl rfl ?_
        refine g_is (ls' := [zR 81, zI l1, zJ, zI l3, zI l4, zI l5, zI l6, zI l7, zI l8, zI (w32 (l9 + 1)), zI (w32 (l10 + 1)), zI l11]) zp257 rfl rfl (Nat.le_of_ble_eq_true rfl) rfl ?_
        refine g_inc (ls' := [zR 81, zI l1, zJ, zI l3, zI l4, zI l5, zI l6, zI l7, zI l8, zI (w32 (l9 + 1)), zI (w32 (l10 + 1)), zI (w32 (l11 + 1))]) zp257 rfl rfl rfl rfl ?_
        refine g_goto zp257 rfl ?_
        exact g_weak (ls' := [zR 81, zI l1, zJ, zI l3, zI l4, zI l5, zI l6, zI l7, zI l8, zI (w32 (l9 + 1)), zI (w32 (l10 + 1)), zI (w32 (l11 + 1))]) ⟨Or.inr rfl, Or.inr rfl, Or.inr rfl, Or.inr rfl, Or.inr rfl, Or.inr rfl, Or.inr rfl, Or.inr rfl, Or.inr rfl, Or.inr rfl, Or.inr rfl, Or.inr rfl, trivial⟩ h
    · replace h := h.2 c7
      refine g_goto zp257 rfl ?_
      refine g_inc (ls' := [zR 81, zI l1, zJ, zI l3, zI l4, zI l5, zI l6, zI l7, zI l8, zI l9, zI l10, zI (w32 (l11 + 1))]) zp257 rfl rfl rfl rfl ?_
      refine g_goto zp257 rfl ?_
      exact g_weak (ls' := [zR 81, zI l1, zJ, zI l3, zI l4, zI l5, zI l6, zI l7, zI l8, zI l9, zI l10, zI (w32 (l11 + 1))]) ⟨Or.inr rfl, Or.inr rfl, Or.inr rfl, Or.inr rfl, Or.inr rfl, Or.inr rfl, Or.inr rfl, Or.inr rfl, Or.inr rfl, Or.inr rfl, Or.inr rfl, Or.inr rfl, trivial⟩ h
theorem zp258 : zprog.getD 258 [] = zk258 := rfl
theorem x258_0 {w : zWt} {d : Nat} {H : zHt} {K : Int → zHt → Prop} {l1 : Int}
    (h : zclV w d 177 [zR 81, zI l1] H (fun H1 => zgo w (d + 1) 258 11 [zR 81, zJ, zL 0, zJ, zI 29, zJ] [] H1 (zQL K))) :
    zclL w (d + 1) 258 [zR 81, zI l1] H K := by
  show zgo w (d + 1) 258 0 [zR 81, zI l1, zJ, zJ, zJ, zJ] [] H (zQL K)
  refine g_al zp258 rfl rfl rfl (by decide) ?_
  refine g_il zp258 rfl rfl rfl ?_
  refine g_callV (as := [zR 81, zI l1]) (rest := []) zp258 rfl rfl (Nat.succ_pos _) rfl rfl (Nat.le_of_ble_eq_true rfl) (Nat.le_of_ble_eq_true rfl) rfl rfl h (fun H1 h => ?_)
  refine g_lc zp258 rfl rfl ?_
  refine g_ls (ls' := [zR 81, zI l1, zL 0, zJ, zJ, zJ]) zp258 rfl rfl (Nat.le_of_ble_eq_true rfl) rfl ?_
  refine g_ic zp258 rfl rfl ?_
  refine g_is (ls' := [zR 81, zI l1, zL 0, zJ, zI 29, zJ]) zp258 rfl rfl (Nat.le_of_ble_eq_true rfl) rfl ?_
  exact g_weak (ls' := [zR 81, zJ, zL 0, zJ, zI 29, zJ]) ⟨Or.inr rfl, Or.inl rfl, Or.inr rfl, Or.inr rfl, Or.inr rfl, Or.inr rfl, trivial⟩ h
theorem x258_11 {w : zWt} {d : Nat} {H : zHt} {K : Int → zHt → Prop} {l2 : Int} {l4 : Int}
    (h : (l4 ≤ 0 → K l2 H) ∧ (0 < l4 → zgo w (d + 1) 258 19 [zR 81, zJ, zL l2, zJ, zI l4, zI 0] [] H (zQL K))) :
    zgo w (d + 1) 258 11 [zR 81, zJ, zL l2, zJ, zI l4, zJ] [] H (zQL K) := by
  refine g_il zp258 rfl rfl rfl ?_
  refine g_if zp258 rfl rfl zc5 (fun c1 => ?_) (fun c1 => ?_)
  · replace h := h.1 c1
    refine g_ll zp258 rfl rfl rfl ?_
    exact g_ret zp258 rfl rfl ⟨_, rfl, h⟩
  · replace h := h.2 c1
    refine g_ic zp258 rfl rfl ?_
    refine g_is (ls' := [zR 81, zJ, zL l2, zJ, zI l4, zI 0]) zp258 rfl rfl (Nat.le_of_ble_eq_true rfl) rfl ?_
    exact g_weak (ls' := [zR 81, zJ, zL l2, zJ, zI l4, zI 0]) ⟨Or.inr rfl, Or.inr rfl, Or.inr rfl, Or.inr rfl, Or.inr rfl, Or.inr rfl, trivial⟩ h
theorem x258_19 {w : zWt} {d : Nat} {H : zHt} {K : Int → zHt → Prop} {l2 : Int} {l4 : Int} {l5 : Int}
    (h : ((H 81 8) ≤ l5 → zgo w (d + 1) 258 11 [zR 81, zJ, zL l2, zJ, zI (w32 (l4 + (-1))), zJ] [] H (zQL K)) ∧ (l5 < (H 81 8) → (0 ≤ l5 ∧ l5 < 10) ∧ (¬ (H 86 l5) = l4 → zgo w (d + 1) 258 19 [zR 81, zJ, zL l2, zJ, zI l4, zI (w32 (l5 + 1))] [] H (zQL K)) ∧ ((H 86 l5) = l4 → zgo w (d + 1) 258 19 [zR 81, zJ, zL (w64 ((w64 (32 * l2)) + l4)), zJ, zI l4, zI (w32 (l5 + 1))] [] H (zQL K)))) :
    zgo w (d + 1) 258 19 [zR 81, zJ, zL l2, zJ, zI l4, zI l5] [] H (zQL K) := by
  refine g_il zp258 rfl rfl rfl ?_
  refine g_al zp258 rfl rfl rfl (by decide) ?_
  refine g_get (v := zI (H 81 8)) zp258 rfl rfl rfl ⟨rfl, by decide, (by decide)⟩ rfl ?_
  refine g_icmp zp258 rfl rfl zc3 (fun c1 => ?_) (fun c1 => ?_)
  · replace h := h.1 c1
    refine g_inc (ls' := [zR 81, zJ, zL l2, zJ, zI (w32 (l4 + (-1))), zI l5]) zp258 rfl rfl rfl rfl ?_
    refine g_goto zp258 rfl ?_
    exact g_weak (ls' := [zR 81, zJ, zL l2, zJ, zI (w32 (l4 + (-1))), zJ]) ⟨Or.inr rfl, Or.inr rfl, Or.inr rfl, Or.inr rfl, Or.inr rfl, Or.inl rfl, trivial⟩ h
  · replace h := h.2 c1
    refine g_al zp258 rfl rfl rfl (by decide) ?_
    refine g_get (v := zR 86) zp258 rfl rfl rfl ⟨rfl, by decide, (by decide)⟩ rfl ?_
    refine g_il zp258 rfl rfl rfl ?_
    obtain ⟨c2, h⟩ := h
    refine g_ald (v := zI (H 86 l5)) zp258 rfl rfl rfl rfl c2 rfl ?_
    refine g_il zp258 rfl rfl rfl ?_
    refine g_icmp zp258 rfl rfl zc1 (fun c3 => ?_) (fun c3 => ?_)
    · replace h := h.1 c3
      refine g_ll zp258 rfl rfl rfl ?_
      refine g_ls (ls' := [zR 81, zJ, zL l2, zJ, zI l4, zI l5]) zp258 rfl rfl (Nat.le_of_ble_eq_true rfl) rfl ?_
      refine g_inc (ls' := [zR 81, zJ, zL l2, zJ, zI l4, zI (w32 (l5 + 1))]) zp258 rfl rfl rfl rfl ?_
      refine g_goto zp258 rfl ?_
      exact g_weak (ls' := [zR 81, zJ, zL l2, zJ, zI l4, zI (w32 (l5 + 1))]) ⟨Or.inr rfl, Or.inr rfl, Or.inr rfl, Or.inr rfl, Or.inr rfl, Or.inr rfl, trivial⟩ h
    · replace h := h.2 c3
      refine g_lc zp258 rfl rfl ?_
      refine g_ll zp258 rfl rfl rfl ?_
      refine g_lar (r := w64 (32 * l2)) zp258 rfl rfl rfl ?_
      refine g_il zp258 rfl rfl rfl ?_
      refine g_i2l zp258 rfl rfl ?_
      refine g_lar (r := w64 ((w64 (32 * l2)) + l4)) zp258 rfl rfl rfl ?_
      refine g_goto zp258 rfl ?_
      refine g_ls (ls' := [zR 81, zJ, zL (w64 ((w64 (32 * l2)) + l4)), zJ, zI l4, zI l5]) zp258 rfl rfl (Nat.le_of_ble_eq_true rfl) rfl ?_
      refine g_inc (ls' := [zR 81, zJ, zL (w64 ((w64 (32 * l2)) + l4)), zJ, zI l4, zI (w32 (l5 + 1))]) zp258 rfl rfl rfl rfl ?_
      refine g_goto zp258 rfl ?_
      exact g_weak (ls' := [zR 81, zJ, zL (w64 ((w64 (32 * l2)) + l4)), zJ, zI l4, zI (w32 (l5 + 1))]) ⟨Or.inr rfl, Or.inr rfl, Or.inr rfl, Or.inr rfl, Or.inr rfl, Or.inr rfl, trivial⟩ h
theorem zp259 : zprog.getD 259 [] = zk259 := rfl
theorem x259_0 {w : zWt} {d : Nat} {H : zHt} {K : Int → zHt → Prop} {l1 : Int} {l2 : Int}
    (h : zclI w d 176 [zI l1] H (fun x2 H1 => (x2 = 0 → zclI w d 174 [zR 81, zI 1] H1 (fun x5 H4 => (x5 = 0 → K (-1) H4) ∧ (¬ x5 = 0 → zclL w d 258 [zR 81, zI l1] H4 (fun x8 H7 => zclL w d 258 [zR 81, zI l2] H7 (fun x10 H9 => (¬ x8 = x10 → K 0 H9) ∧ (x8 = x10 → K 1 H9)))))) ∧ (¬ x2 = 0 → zclI w d 176 [zI l2] H1 (fun x13 H12 => (x13 = 0 → zclI w d 174 [zR 81, zI 1] H12 (fun x16 H15 => (x16 = 0 → K (-1) H15) ∧ (¬ x16 = 0 → zclL w d 258 [zR 81, zI l1] H15 (fun x19 H18 => zclL w d 258 [zR 81, zI l2] H18 (fun x21 H20 => (¬ x19 = x21 → K 0 H20) ∧ (x19 = x21 → K 1 H20)))))) ∧ (¬ x13 = 0 → zclI w d 174 [zR 81, zI 0] H12 (fun x24 H23 => (x24 = 0 → K (-1) H23) ∧ (¬ x24 = 0 → zclL w d 258 [zR 81, zI l1] H23 (fun x27 H26 => zclL w d 258 [zR 81, zI l2] H26 (fun x29 H28 => (¬ x27 = x29 → K 0 H28) ∧ (x27 = x29 → K 1 H28)))))))))) :
    zclI w (d + 1) 259 [zR 81, zI l1, zI l2] H K := by
  show zgo w (d + 1) 259 0 [zR 81, zI l1, zI l2] [] H (zQI K)
  refine g_al zp259 rfl rfl rfl (by decide) ?_
  refine g_il zp259 rfl rfl rfl ?_
  refine g_callI (as := [zI l1]) (rest := [zR 81]) zp259 rfl rfl (Nat.succ_pos _) rfl rfl (Nat.le_of_ble_eq_true rfl) (Nat.le_of_ble_eq_true rfl) rfl rfl h (fun x2 H1 h => ?_)
  refine g_if zp259 rfl rfl zc0 (fun c3 => ?_) (fun c3 => ?_)
  · replace h := h.1 c3
    refine g_ic zp259 rfl rfl ?_
    refine g_callI (as := [zR 81, zI 1]) (rest := []) zp259 rfl rfl (Nat.succ_pos _) rfl rfl (Nat.le_of_ble_eq_true rfl) (Nat.le_of_ble_eq_true rfl) rfl rfl h (fun x5 H4 h => ?_)
    refine g_if zp259 rfl rfl zc0 (fun c6 => ?_) (fun c6 => ?_)
    · replace h := h.1 c6
      refine g_ic zp259 rfl rfl ?_
      exact g_ret zp259 rfl rfl ⟨_, rfl, h⟩
    · replace h := h.2 c6
      refine g_al zp259 rfl rfl rfl (by decide) ?_
      refine g_il zp259 rfl rfl rfl ?_
      refine g_callL (as := [zR 81, zI l1]) (rest := []) zp259 rfl rfl (Nat.succ_pos _) rfl rfl (Nat.le_of_ble_eq_true rfl) (Nat.le_of_ble_eq_true rfl) rfl rfl h (fun x8 H7 h => ?_)
      refine g_al zp259 rfl rfl rfl (by decide) ?_
      refine g_il zp259 rfl rfl rfl ?_
      refine g_callL (as := [zR 81, zI l2]) (rest := [zL x8]) zp259 rfl rfl (Nat.succ_pos _) rfl rfl (Nat.le_of_ble_eq_true rfl) (Nat.le_of_ble_eq_true rfl) rfl rfl h (fun x10 H9 h => ?_)
      refine g_lcmp zp259 rfl rfl rfl rfl zc1 (fun c11 => ?_) (fun c11 => ?_)
      · replace h := h.1 c11
        refine g_ic zp259 rfl rfl ?_
        refine g_goto zp259 rfl ?_
        exact g_ret zp259 rfl rfl ⟨_, rfl, h⟩
      · replace h := h.2 c11
        refine g_ic zp259 rfl rfl ?_
        refine g_goto zp259 rfl ?_
        exact g_ret zp259 rfl rfl ⟨_, rfl, h⟩
  · replace h := h.2 c3
    refine g_il zp259 rfl rfl rfl ?_
    refine g_callI (as := [zI l2]) (rest := [zR 81]) zp259 rfl rfl (Nat.succ_pos _) rfl rfl (Nat.le_of_ble_eq_true rfl) (Nat.le_of_ble_eq_true rfl) rfl rfl h (fun x13 H12 h => ?_)
    refine g_if zp259 rfl rfl zc0 (fun c14 => ?_) (fun c14 => ?_)
    · replace h := h.1 c14
      refine g_ic zp259 rfl rfl ?_
      refine g_callI (as := [zR 81, zI 1]) (rest := []) zp259 rfl rfl (Nat.succ_pos _) rfl rfl (Nat.le_of_ble_eq_true rfl) (Nat.le_of_ble_eq_true rfl) rfl rfl h (fun x16 H15 h => ?_)
      refine g_if zp259 rfl rfl zc0 (fun c17 => ?_) (fun c17 => ?_)
      · replace h := h.1 c17
        refine g_ic zp259 rfl rfl ?_
        exact g_ret zp259 rfl rfl ⟨_, rfl, h⟩
      · replace h := h.2 c17
        refine g_al zp259 rfl rfl rfl (by decide) ?_
        refine g_il zp259 rfl rfl rfl ?_
        refine g_callL (as := [zR 81, zI l1]) (rest := []) zp259 rfl rfl (Nat.succ_pos _) rfl rfl (Nat.le_of_ble_eq_true rfl) (Nat.le_of_ble_eq_true rfl) rfl rfl h (fun x19 H18 h => ?_)
        refine g_al zp259 rfl rfl rfl (by decide) ?_
        refine g_il zp259 rfl rfl rfl ?_
        refine g_callL (as := [zR 81, zI l2]) (rest := [zL x19]) zp259 rfl rfl (Nat.succ_pos _) rfl rfl (Nat.le_of_ble_eq_true rfl) (Nat.le_of_ble_eq_true rfl) rfl rfl h (fun x21 H20 h => ?_)
        refine g_lcmp zp259 rfl rfl rfl rfl zc1 (fun c22 => ?_) (fun c22 => ?_)
        · replace h := h.1 c22
          refine g_ic zp259 rfl rfl ?_
          refine g_goto zp259 rfl ?_
          exact g_ret zp259 rfl rfl ⟨_, rfl, h⟩
        · replace h := h.2 c22
          refine g_ic zp259 rfl rfl ?_
          refine g_goto zp259 rfl ?_
          exact g_ret zp259 rfl rfl ⟨_, rfl, h⟩
    · replace h := h.2 c14
      refine g_ic zp259 rfl rfl ?_
      refine g_goto zp259 rfl ?_
      refine g_callI (as := [zR 81, zI 0]) (rest := []) zp259 rfl rfl (Nat.succ_pos _) rfl rfl (Nat.le_of_ble_eq_true rfl) (Nat.le_of_ble_eq_true rfl) rfl rfl h (fun x24 H23 h => ?_)
      refine g_if zp259 rfl rfl zc0 (fun c25 => ?_) (fun c25 => ?_)
      · replace h := h.1 c25
        refine g_ic zp259 rfl rfl ?_
        exact g_ret zp259 rfl rfl ⟨_, rfl, h⟩
      · replace h := h.2 c25
        refine g_al zp259 rfl rfl rfl (by decide) ?_
        refine g_il zp259 rfl rfl rfl ?_
        refine g_callL (as := [zR 81, zI l1]) (rest := []) zp259 rfl rfl (Nat.succ_pos _) rfl rfl (Nat.le_of_ble_eq_true rfl) (Nat.le_of_ble_eq_true rfl) rfl rfl h (fun x27 H26 h => ?_)
        refine g_al zp259 rfl rfl rfl (by decide) ?_
        refine g_il zp259 rfl rfl rfl ?_
        refine g_callL (as := [zR 81, zI l2]) (rest := [zL x27]) zp259 rfl rfl (Nat.succ_pos _) rfl rfl (Nat.le_of_ble_eq_true rfl) (Nat.le_of_ble_eq_true rfl) rfl rfl h (fun x29 H28 h => ?_)
        refine g_lcmp zp259 rfl rfl rfl rfl zc1 (fun c30 => ?_) (fun c30 => ?_)
        · replace h := h.1 c30
          refine g_ic zp259 rfl rfl ?_
          refine g_goto zp259 rfl ?_
          exact g_ret zp259 rfl rfl ⟨_, rfl, h⟩
        · replace h := h.2 c30
          refine g_ic zp259 rfl rfl ?_
          refine g_goto zp259 rfl ?_
          exact g_ret zp259 rfl rfl ⟨_, rfl, h⟩
theorem zp260 : zprog.getD 260 [] = zk260 := rfl
theorem x260_0 {w : zWt} {d : Nat} {H : zHt} {K : Int → zHt → Prop} {l1 : Int} {l2 : Int} {l3 : Int}
    (h : zclI w d 173 [zL l1, zL 2, zL 9] H (fun x2 H1 => (x2 = 0 → zgo w (d + 1) 260 45 [zR 81, zI l1, zI l2, zI l3, zJ, zJ, zJ, zJ, zJ] [zI 1, zR 81] H1 (zQL K)) ∧ (¬ x2 = 0 → zclI w d 173 [zL l2, zL 1, zL (w32 (l1 - 1))] H1 (fun x5 H4 => (x5 = 0 → zgo w (d + 1) 260 45 [zR 81, zI l1, zI l2, zI l3, zJ, zJ, zJ, zJ, zJ] [zI 1, zR 81] H4 (zQL K)) ∧ (¬ x5 = 0 → zclI w d 173 [zL l3, zL 0, zL 5] H4 (fun x8 H7 => (x8 = 0 → zgo w (d + 1) 260 45 [zR 81, zI l1, zI l2, zI l3, zJ, zJ, zJ, zJ, zJ] [zI 1, zR 81] H7 (zQL K)) ∧ (¬ x8 = 0 → zgo w (d + 1) 260 45 [zR 81, zI l1, zI l2, zI l3, zJ, zJ, zJ, zJ, zJ] [zI 0, zR 81] H7 (zQL K)))))))) :
    zclL w (d + 1) 260 [zR 81, zI l1, zI l2, zI l3] H K := by
  show zgo w (d + 1) 260 0 [zR 81, zI l1, zI l2, zI l3, zJ, zJ, zJ, zJ, zJ] [] H (zQL K)
  refine g_al zp260 rfl rfl rfl (by decide) ?_
  refine g_il zp260 rfl rfl rfl ?_
  refine g_i2l zp260 rfl rfl ?_
  refine g_lc zp260 rfl rfl ?_
  refine g_lc zp260 rfl rfl ?_
  refine g_callI (as := [zL l1, zL 2, zL 9]) (rest := [zR 81]) zp260 rfl rfl (Nat.succ_pos _) rfl rfl (Nat.le_of_ble_eq_true rfl) (Nat.le_of_ble_eq_true rfl) rfl rfl h (fun x2 H1 h => ?_)
  refine g_if zp260 rfl rfl zc0 (fun c3 => ?_) (fun c3 => ?_)
  · replace h := h.1 c3
    refine g_ic zp260 rfl rfl ?_
    exact g_weak (ls' := [zR 81, zI l1, zI l2, zI l3, zJ, zJ, zJ, zJ, zJ]) ⟨Or.inr rfl, Or.inr rfl, Or.inr rfl, Or.inr rfl, Or.inr rfl, Or.inr rfl, Or.inr rfl, Or.inr rfl, Or.inr rfl, trivial⟩ h
  · replace h := h.2 c3
    refine g_il zp260 rfl rfl rfl ?_
    refine g_i2l zp260 rfl rfl ?_
    refine g_lc zp260 rfl rfl ?_
    refine g_il zp260 rfl rfl rfl ?_
    refine g_ic zp260 rfl rfl ?_
    refine g_ar (r := w32 (l1 - 1)) zp260 rfl rfl rfl ?_
    refine g_i2l zp260 rfl rfl ?_
    refine g_callI (as := [zL l2, zL 1, zL (w32 (l1 - 1))]) (rest := [zR 81]) zp260 rfl rfl (Nat.succ_pos _) rfl rfl (Nat.le_of_ble_eq_true rfl) (Nat.le_of_ble_eq_true rfl) rfl rfl h (fun x5 H4 h => ?_)
    refine g_if zp260 rfl rfl zc0 (fun c6 => ?_) (fun c6 => ?_)
    · replace h := h.1 c6
      refine g_ic zp260 rfl rfl ?_
      exact g_weak (ls' := [zR 81, zI l1, zI l2, zI l3, zJ, zJ, zJ, zJ, zJ]) ⟨Or.inr rfl, Or.inr rfl, Or.inr rfl, Or.inr rfl, Or.inr rfl, Or.inr rfl, Or.inr rfl, Or.inr rfl, Or.inr rfl, trivial⟩ h
    · replace h := h.2 c6
      refine g_il zp260 rfl rfl rfl ?_
      refine g_i2l zp260 rfl rfl ?_
      refine g_lc zp260 rfl rfl ?_
      refine g_lc zp260 rfl rfl ?_
      refine g_callI (as := [zL l3, zL 0, zL 5]) (rest := [zR 81]) zp260 rfl rfl (Nat.succ_pos _) rfl rfl (Nat.le_of_ble_eq_true rfl) (Nat.le_of_ble_eq_true rfl) rfl rfl h (fun x8 H7 h => ?_)
      refine g_if zp260 rfl rfl zc0 (fun c9 => ?_) (fun c9 => ?_)
      · replace h := h.1 c9
        refine g_ic zp260 rfl rfl ?_
        exact g_weak (ls' := [zR 81, zI l1, zI l2, zI l3, zJ, zJ, zJ, zJ, zJ]) ⟨Or.inr rfl, Or.inr rfl, Or.inr rfl, Or.inr rfl, Or.inr rfl, Or.inr rfl, Or.inr rfl, Or.inr rfl, Or.inr rfl, trivial⟩ h
      · replace h := h.2 c9
        refine g_ic zp260 rfl rfl ?_
        refine g_goto zp260 rfl ?_
        exact g_weak (ls' := [zR 81, zI l1, zI l2, zI l3, zJ, zJ, zJ, zJ, zJ]) ⟨Or.inr rfl, Or.inr rfl, Or.inr rfl, Or.inr rfl, Or.inr rfl, Or.inr rfl, Or.inr rfl, Or.inr rfl, Or.inr rfl, trivial⟩ h
theorem x260_45 {w : zWt} {d : Nat} {H : zHt} {K : Int → zHt → Prop} {l1 : Int} {l2 : Int} {l3 : Int} {s1 : Int}
    (h : zclI w d 174 [zR 81, zI s1] H (fun x2 H1 => (¬ x2 = 0 → ∀ v4 : Int, v4 = w32 ((w32 ((zshl 1 (w32 (l1 + l2))) * (w32 ((zshl 1 (w32 (l1 - l2))) + 1)))) * (w32 ((zshl 1 (w32 (l1 - l2))) + 1))) → zclI w d 220 [zR 81, zI (w32 ((w32 ((zshl 1 l2) * (w32 ((zshl 1 (w32 (l1 - l2))) + 1)))) - 1))] H1 (fun x6 H5 => (x6 = 0 → zgo w (d + 1) 260 131 [zR 81, zI l1, zJ, zI l3, zJ, zI (w32 ((w32 ((zshl 1 l2) * (w32 ((zshl 1 (w32 (l1 - l2))) + 1)))) - 1)), zI (w32 ((w32 ((zshl 1 l1) * (w32 ((zshl 1 (w32 (l1 - l2))) + 1)))) - 1)), zI (w32 (v4 - 1)), zJ] [zI 0] H5 (zQL K)) ∧ (¬ x6 = 0 → zclI w d 220 [zR 81, zI (w32 ((w32 ((zshl 1 l1) * (w32 ((zshl 1 (w32 (l1 - l2))) + 1)))) - 1))] H5 (fun x9 H8 => (x9 = 0 → zgo w (d + 1) 260 131 [zR 81, zI l1, zJ, zI l3, zJ, zI (w32 ((w32 ((zshl 1 l2) * (w32 ((zshl 1 (w32 (l1 - l2))) + 1)))) - 1)), zI (w32 ((w32 ((zshl 1 l1) * (w32 ((zshl 1 (w32 (l1 - l2))) + 1)))) - 1)), zI (w32 (v4 - 1)), zJ] [zI 0] H8 (zQL K)) ∧ (¬ x9 = 0 → zclI w d 220 [zR 81, zI (w32 (v4 - 1))] H8 (fun x12 H11 => (x12 = 0 → zgo w (d + 1) 260 131 [zR 81, zI l1, zJ, zI l3, zJ, zI (w32 ((w32 ((zshl 1 l2) * (w32 ((zshl 1 (w32 (l1 - l2))) + 1)))) - 1)), zI (w32 ((w32 ((zshl 1 l1) * (w32 ((zshl 1 (w32 (l1 - l2))) + 1)))) - 1)), zI (w32 (v4 - 1)), zJ] [zI 0] H11 (zQL K)) ∧ (¬ x12 = 0 → zgo w (d + 1) 260 131 [zR 81, zI l1, zJ, zI l3, zJ, zI (w32 ((w32 ((zshl 1 l2) * (w32 ((zshl 1 (w32 (l1 - l2))) + 1)))) - 1)), zI (w32 ((w32 ((zshl 1 l1) * (w32 ((zshl 1 (w32 (l1 - l2))) + 1)))) - 1)), zI (w32 (v4 - 1)), zJ] [zI 1] H11 (zQL K)))))))) ∧ (x2 = 0 → K (-1) H1))) :
    zgo w (d + 1) 260 45 [zR 81, zI l1, zI l2, zI l3, zJ, zJ, zJ, zJ, zJ] [zI s1, zR 81] H (zQL K) := by
  refine g_callI (as := [zR 81, zI s1]) (rest := []) zp260 rfl rfl (Nat.succ_pos _) rfl rfl (Nat.le_of_ble_eq_true rfl) (Nat.le_of_ble_eq_true rfl) rfl rfl h (fun x2 H1 h => ?_)
  refine g_if zp260 rfl rfl zc1 (fun c3 => ?_) (fun c3 => ?_)
  · replace h := h.1 c3
    refine g_ic zp260 rfl rfl ?_
    refine g_il zp260 rfl rfl rfl ?_
    refine g_il zp260 rfl rfl rfl ?_
    refine g_ar (r := w32 (l1 - l2)) zp260 rfl rfl rfl ?_
    refine g_ar (r := zshl 1 (w32 (l1 - l2))) zp260 rfl rfl rfl ?_
    refine g_ic zp260 rfl rfl ?_
    refine g_ar (r := w32 ((zshl 1 (w32 (l1 - l2))) + 1)) zp260 rfl rfl rfl ?_
    refine g_is (ls' := [zR 81, zI l1, zI l2, zI l3, zI (w32 ((zshl 1 (w32 (l1 - l2))) + 1)), zJ, zJ, zJ, zJ]) zp260 rfl rfl (Nat.le_of_ble_eq_true rfl) rfl ?_
    refine g_ic zp260 rfl rfl ?_
    refine g_il zp260 rfl rfl rfl ?_
    refine g_ar (r := zshl 1 l2) zp260 rfl rfl rfl ?_
    refine g_il zp260 rfl rfl rfl ?_
    refine g_ar (r := w32 ((zshl 1 l2) * (w32 ((zshl 1 (w32 (l1 - l2))) + 1)))) zp260 rfl rfl rfl ?_
    refine g_ic zp260 rfl rfl ?_
    refine g_ar (r := w32 ((w32 ((zshl 1 l2) * (w32 ((zshl 1 (w32 (l1 - l2))) + 1)))) - 1)) zp260 rfl rfl rfl ?_
    refine g_is (ls' := [zR 81, zI l1, zI l2, zI l3, zI (w32 ((zshl 1 (w32 (l1 - l2))) + 1)), zI (w32 ((w32 ((zshl 1 l2) * (w32 ((zshl 1 (w32 (l1 - l2))) + 1)))) - 1)), zJ, zJ, zJ]) zp260 rfl rfl (Nat.le_of_ble_eq_true rfl) rfl ?_
    refine g_ic zp260 rfl rfl ?_
    refine g_il zp260 rfl rfl rfl ?_
    refine g_ar (r := zshl 1 l1) zp260 rfl rfl rfl ?_
    refine g_il zp260 rfl rfl rfl ?_
    refine g_ar (r := w32 ((zshl 1 l1) * (w32 ((zshl 1 (w32 (l1 - l2))) + 1)))) zp260 rfl rfl rfl ?_
    refine g_ic zp260 rfl rfl ?_
    refine g_ar (r := w32 ((w32 ((zshl 1 l1) * (w32 ((zshl 1 (w32 (l1 - l2))) + 1)))) - 1)) zp260 rfl rfl rfl ?_
    refine g_is (ls' := [zR 81, zI l1, zI l2, zI l3, zI (w32 ((zshl 1 (w32 (l1 - l2))) + 1)), zI (w32 ((w32 ((zshl 1 l2) * (w32 ((zshl 1 (w32 (l1 - l2))) + 1)))) - 1)), zI (w32 ((w32 ((zshl 1 l1) * (w32 ((zshl 1 (w32 (l1 - l2))) + 1)))) - 1)), zJ, zJ]) zp260 rfl rfl (Nat.le_of_ble_eq_true rfl) rfl ?_
    refine g_ic zp260 rfl rfl ?_
    refine g_il zp260 rfl rfl rfl ?_
    refine g_il zp260 rfl rfl rfl ?_
    refine g_ar (r := w32 (l1 + l2)) zp260 rfl rfl rfl ?_
    refine g_ar (r := zshl 1 (w32 (l1 + l2))) zp260 rfl rfl rfl ?_
    refine g_il zp260 rfl rfl rfl ?_
    refine g_ar (r := w32 ((zshl 1 (w32 (l1 + l2))) * (w32 ((zshl 1 (w32 (l1 - l2))) + 1)))) zp260 rfl rfl rfl ?_
    refine g_il zp260 rfl rfl rfl ?_
    refine g_ar (r := w32 ((w32 ((zshl 1 (w32 (l1 + l2))) * (w32 ((zshl 1 (w32 (l1 - l2))) + 1)))) * (w32 ((zshl 1 (w32 (l1 - l2))) + 1)))) zp260 rfl rfl rfl ?_
    let v4 : Int := w32 ((w32 ((zshl 1 (w32 (l1 + l2))) * (w32 ((zshl 1 (w32 (l1 - l2))) + 1)))) * (w32 ((zshl 1 (w32 (l1 - l2))) + 1)))
    replace h := h v4 rfl
    refine g_ic zp260 rfl rfl ?_
    refine g_ar (r := w32 (v4 - 1)) zp260 rfl rfl rfl ?_
    refine g_is (ls' := [zR 81, zI l1, zI l2, zI l3, zI (w32 ((zshl 1 (w32 (l1 - l2))) + 1)), zI (w32 ((w32 ((zshl 1 l2) * (w32 ((zshl 1 (w32 (l1 - l2))) + 1)))) - 1)), zI (w32 ((w32 ((zshl 1 l1) * (w32 ((zshl 1 (w32 (l1 - l2))) + 1)))) - 1)), zI (w32 (v4 - 1)), zJ]) zp260 rfl rfl (Nat.le_of_ble_eq_true rfl) rfl ?_
    refine g_al zp260 rfl rfl rfl (by decide) ?_
    refine g_il zp260 rfl rfl rfl ?_
    refine g_callI (as := [zR 81, zI (w32 ((w32 ((zshl 1 l2) * (w32 ((zshl 1 (w32 (l1 - l2))) + 1)))) - 1))]) (rest := []) zp260 rfl rfl (Nat.succ_pos _) rfl rfl (Nat.le_of_ble_eq_true rfl) (Nat.le_of_ble_eq_true rfl) rfl rfl h (fun x6 H5 h => ?_)
    refine g_if zp260 rfl rfl zc0 (fun c7 => ?_) (fun c7 => ?_)
    · replace h := h.1 c7
      refine g_ic zp260 rfl rfl ?_
      exact g_weak (ls' := [zR 81, zI l1, zJ, zI l3, zJ, zI (w32 ((w32 ((zshl 1 l2) * (w32 ((zshl 1 (w32 (l1 - l2))) + 1)))) - 1)), zI (w32 ((w32 ((zshl 1 l1) * (w32 ((zshl 1 (w32 (l1 - l2))) + 1)))) - 1)), zI (w32 (v4 - 1)), zJ]) ⟨Or.inr rfl, Or.inr rfl, Or.inl rfl, Or.inr rfl, Or.inl rfl, Or.inr rfl, Or.inr rfl, Or.inr rfl, Or.inr rfl, trivial⟩ h
    · replace h := h.2 c7
      refine g_al zp260 rfl rfl rfl (by decide) ?_
      refine g_il zp260 rfl rfl rfl ?_
      refine g_callI (as := [zR 81, zI (w32 ((w32 ((zshl 1 l1) * (w32 ((zshl 1 (w32 (l1 - l2))) + 1)))) - 1))]) (rest := []) zp260 rfl rfl (Nat.succ_pos _) rfl rfl (Nat.le_of_ble_eq_true rfl) (Nat.le_of_ble_eq_true rfl) rfl rfl h (fun x9 H8 h => ?_)
      refine g_if zp260 rfl rfl zc0 (fun c10 => ?_) (fun c10 => ?_)
      · replace h := h.1 c10
        refine g_ic zp260 rfl rfl ?_
        exact g_weak (ls' := [zR 81, zI l1, zJ, zI l3, zJ, zI (w32 ((w32 ((zshl 1 l2) * (w32 ((zshl 1 (w32 (l1 - l2))) + 1)))) - 1)), zI (w32 ((w32 ((zshl 1 l1) * (w32 ((zshl 1 (w32 (l1 - l2))) + 1)))) - 1)), zI (w32 (v4 - 1)), zJ]) ⟨Or.inr rfl, Or.inr rfl, Or.inl rfl, Or.inr rfl, Or.inl rfl, Or.inr rfl, Or.inr rfl, Or.inr rfl, Or.inr rfl, trivial⟩ h
      · replace h := h.2 c10
        refine g_al zp260 rfl rfl rfl (by decide) ?_
        refine g_il zp260 rfl rfl rfl ?_
        refine g_callI (as := [zR 81, zI (w32 (v4 - 1))]) (rest := []) zp260 rfl rfl (Nat.succ_pos _) rfl rfl (Nat.le_of_ble_eq_true rfl) (Nat.le_of_ble_eq_true rfl) rfl rfl h (fun x12 H11 h => ?_)
        refine g_if zp260 rfl rfl zc0 (fun c13 => ?_) (fun c13 => ?_)
        · replace h := h.1 c13
          refine g_ic zp260 rfl rfl ?_
          exact g_weak (ls' := [zR 81, zI l1, zJ, zI l3, zJ, zI (w32 ((w32 ((zshl 1 l2) * (w32 ((zshl 1 (w32 (l1 - l2))) + 1)))) - 1)), zI (w32 ((w32 ((zshl 1 l1) * (w32 ((zshl 1 (w32 (l1 - l2))) + 1)))) - 1)), zI (w32 (v4 - 1)), zJ]) ⟨Or.inr rfl, Or.inr rfl, Or.inl rfl, Or.inr rfl, Or.inl rfl, Or.inr rfl, Or.inr rfl, Or.inr rfl, Or.inr rfl, trivial⟩ h
        · replace h := h.2 c13
          refine g_ic zp260 rfl rfl ?_
          refine g_goto zp260 rfl ?_
          exact g_weak (ls' := [zR 81, zI l1, zJ, zI l3, zJ, zI (w32 ((w32 ((zshl 1 l2) * (w32 ((zshl 1 (w32 (l1 - l2))) + 1)))) - 1)), zI (w32 ((w32 ((zshl 1 l1) * (w32 ((zshl 1 (w32 (l1 - l2))) + 1)))) - 1)), zI (w32 (v4 - 1)), zJ]) ⟨Or.inr rfl, Or.inr rfl, Or.inl rfl, Or.inr rfl, Or.inl rfl, Or.inr rfl, Or.inr rfl, Or.inr rfl, Or.inr rfl, trivial⟩ h
  · replace h := h.2 c3
    refine g_lc zp260 rfl rfl ?_
    exact g_ret zp260 rfl rfl ⟨_, rfl, h⟩
theorem x260_131 {w : zWt} {d : Nat} {H : zHt} {K : Int → zHt → Prop} {l1 : Int} {l3 : Int} {l5 : Int} {l6 : Int} {l7 : Int} {s0 : Int}
    (h : (l3 < 0 ∨ 5 ≤ l3 → (s0 = 0 → zclI w d 178 [zR 81, zI 5] H (fun x3 H2 => K x3 H2)) ∧ (¬ s0 = 0 → K (w64 ((zshlL 1 l1) * l7)) H)) ∧ (l3 = 0 → (s0 = 0 → K 0 H) ∧ (¬ s0 = 0 → K 1 H)) ∧ (l3 = 1 → K l5 H) ∧ (l3 = 2 → K l6 H) ∧ (l3 = 3 → K l7 H) ∧ (l3 = 4 → (s0 = 0 → zclI w d 178 [zR 81, zI 5] H (fun x7 H6 => K x7 H6)) ∧ (¬ s0 = 0 → K (w64 ((w64 ((zshlL 1 l1) * l5)) * l6)) H))) :
    zgo w (d + 1) 260 131 [zR 81, zI l1, zJ, zI l3, zJ, zI l5, zI l6, zI l7, zJ] [zI s0] H (zQL K) := by
  refine g_is (ls' := [zR 81, zI l1, zJ, zI l3, zJ, zI l5, zI l6, zI l7, zI s0]) zp260 rfl rfl (Nat.le_of_ble_eq_true rfl) rfl ?_
  refine g_il zp260 rfl rfl rfl ?_
  rcases Classical.em (l3 < 0 ∨ 5 ≤ l3) with c | c
  · refine g_tabO zp260 rfl c ?_
    replace h := h.1 c
    refine g_il zp260 rfl rfl rfl ?_
    refine g_if zp260 rfl rfl zc0 (fun c1 => ?_) (fun c1 => ?_)
    · replace h := h.1 c1
      refine g_al zp260 rfl rfl rfl (by decide) ?_
      refine g_ic zp260 rfl rfl ?_
      refine g_callI (as := [zR 81, zI 5]) (rest := []) zp260 rfl rfl (Nat.succ_pos _) rfl rfl (Nat.le_of_ble_eq_true rfl) (Nat.le_of_ble_eq_true rfl) rfl rfl h (fun x3 H2 h => ?_)
      refine g_i2l zp260 rfl rfl ?_
      exact g_ret zp260 rfl rfl ⟨_, rfl, h⟩
    · replace h := h.2 c1
      refine g_lc zp260 rfl rfl ?_
      refine g_il zp260 rfl rfl rfl ?_
      refine g_lsh zp260 rfl rfl ?_
      refine g_il zp260 rfl rfl rfl ?_
      refine g_i2l zp260 rfl rfl ?_
      refine g_lar (r := w64 ((zshlL 1 l1) * l7)) zp260 rfl rfl rfl ?_
      refine g_goto zp260 rfl ?_
      exact g_ret zp260 rfl rfl ⟨_, rfl, h⟩
  · replace h := h.2
    have hh : l3 = 0 ∨ l3 = 1 ∨ l3 = 2 ∨ l3 = 3 ∨ l3 = 4 := by omega
    rcases hh with c | c | c | c | c
    · replace h := h.1 c
      refine g_tabE (z := 0) zp260 rfl c (by decide) rfl ?_
      refine g_il zp260 rfl rfl rfl ?_
      refine g_if zp260 rfl rfl zc0 (fun c4 => ?_) (fun c4 => ?_)
      · replace h := h.1 c4
        refine g_lc zp260 rfl rfl ?_
        exact g_ret zp260 rfl rfl ⟨_, rfl, h⟩
      · replace h := h.2 c4
        refine g_lc zp260 rfl rfl ?_
        refine g_goto zp260 rfl ?_
        exact g_ret zp260 rfl rfl ⟨_, rfl, h⟩
    · replace h := h.2.1 c
      refine g_tabE (z := 1) zp260 rfl c (by decide) rfl ?_
      refine g_il zp260 rfl rfl rfl ?_
      refine g_i2l zp260 rfl rfl ?_
      exact g_ret zp260 rfl rfl ⟨_, rfl, h⟩
    · replace h := h.2.2.1 c
      refine g_tabE (z := 2) zp260 rfl c (by decide) rfl ?_
      refine g_il zp260 rfl rfl rfl ?_
      refine g_i2l zp260 rfl rfl ?_
      exact g_ret zp260 rfl rfl ⟨_, rfl, h⟩
    · replace h := h.2.2.2.1 c
      refine g_tabE (z := 3) zp260 rfl c (by decide) rfl ?_
      refine g_il zp260 rfl rfl rfl ?_
      refine g_i2l zp260 rfl rfl ?_
      exact g_ret zp260 rfl rfl ⟨_, rfl, h⟩
    · replace h := h.2.2.2.2 c
      refine g_tabE (z := 4) zp260 rfl c (by decide) rfl ?_
      refine g_il zp260 rfl rfl rfl ?_
      refine g_if zp260 rfl rfl zc0 (fun c5 => ?_) (fun c5 => ?_)
      · replace h := h.1 c5
        refine g_al zp260 rfl rfl rfl (by decide) ?_
        refine g_ic zp260 rfl rfl ?_
        refine g_callI (as := [zR 81, zI 5]) (rest := []) zp260 rfl rfl (Nat.succ_pos _) rfl rfl (Nat.le_of_ble_eq_true rfl) (Nat.le_of_ble_eq_true rfl) rfl rfl h (fun x7 H6 h => ?_)
        refine g_i2l zp260 rfl rfl ?_
        exact g_ret zp260 rfl rfl ⟨_, rfl, h⟩
      · replace h := h.2 c5
        refine g_lc zp260 rfl rfl ?_
        refine g_il zp260 rfl rfl rfl ?_
        refine g_lsh zp260 rfl rfl ?_
        refine g_il zp260 rfl rfl rfl ?_
        refine g_i2l zp260 rfl rfl ?_
        refine g_lar (r := w64 ((zshlL 1 l1) * l5)) zp260 rfl rfl rfl ?_
        refine g_il zp260 rfl rfl rfl ?_
        refine g_i2l zp260 rfl rfl ?_
        refine g_lar (r := w64 ((w64 ((zshlL 1 l1) * l5)) * l6)) zp260 rfl rfl rfl ?_
        refine g_goto zp260 rfl ?_
        exact g_ret zp260 rfl rfl ⟨_, rfl, h⟩
theorem zp261 : zprog.getD 261 [] = zk261 := rfl
theorem x261_0 {w : zWt} {d : Nat} {H : zHt} {K : Int → zHt → Prop} {l1 : Int}
    (h : zclI w d 176 [zI l1] H (fun x2 H1 => (¬ x2 = 0 → (¬ (H1 82 6) = 6 → zgo w (d + 1) 261 29 [zR 81, zI l1] [zI 0, zR 81] H1 (zQI K)) ∧ ((H1 82 6) = 6 → zgo w (d + 1) 261 29 [zR 81, zI l1] [zI 3, zR 81] H1 (zQI K))) ∧ (x2 = 0 → zgo w (d + 1) 261 29 [zR 81, zI l1] [zI 1, zR 81] H1 (zQI K)))) :
    zclI w (d + 1) 261 [zR 81, zI l1] H K := by
  show zgo w (d + 1) 261 0 [zR 81, zI l1] [] H (zQI K)
  refine g_al zp261 rfl rfl rfl (by decide) ?_
  refine g_il zp261 rfl rfl rfl ?_
  refine g_callI (as := [zI l1]) (rest := [zR 81]) zp261 rfl rfl (Nat.succ_pos _) rfl rfl (Nat.le_of_ble_eq_true rfl) (Nat.le_of_ble_eq_true rfl) rfl rfl h (fun x2 H1 h => ?_)
  refine g_if zp261 rfl rfl zc1 (fun c3 => ?_) (fun c3 => ?_)
  · replace h := h.1 c3
    refine g_al zp261 rfl rfl rfl (by decide) ?_
    refine g_get (v := zR 82) zp261 rfl rfl rfl ⟨rfl, by decide, (by decide)⟩ rfl ?_
    refine g_ic zp261 rfl rfl ?_
    refine g_ald (v := zI (H1 82 6)) zp261 rfl rfl rfl rfl (by decide) rfl ?_
    refine g_ic zp261 rfl rfl ?_
    refine g_icmp zp261 rfl rfl zc1 (fun c4 => ?_) (fun c4 => ?_)
    · replace h := h.1 c4
      refine g_ic zp261 rfl rfl ?_
      exact g_weak (ls' := [zR 81, zI l1]) ⟨Or.inr rfl, Or.inr rfl, trivial⟩ h
    · replace h := h.2 c4
      refine g_ic zp261 rfl rfl ?_
      refine g_goto zp261 rfl ?_
      exact g_weak (ls' := [zR 81, zI l1]) ⟨Or.inr rfl, Or.inr rfl, trivial⟩ h
  · replace h := h.2 c3
    refine g_ic zp261 rfl rfl ?_
    refine g_goto zp261 rfl ?_
    exact g_weak (ls' := [zR 81, zI l1]) ⟨Or.inr rfl, Or.inr rfl, trivial⟩ h
theorem x261_29 {w : zWt} {d : Nat} {H : zHt} {K : Int → zHt → Prop} {l1 : Int} {s1 : Int}
    (h : zclI w d 174 [zR 81, zI s1] H (fun x2 H1 => (¬ x2 = 0 → zclV w d 262 [zR 81] H1 (fun H4 => (0 ≤ (H4 82 6) ∧ (H4 82 6) < 10) ∧ K (w32 ((w32 (((zup H4 82 (H4 82 6) l1) 82 6) + 1)) - 1)) (zup (zup H4 82 (H4 82 6) l1) 82 6 (w32 (((zup H4 82 (H4 82 6) l1) 82 6) + 1))))) ∧ (x2 = 0 → K (-1) H1))) :
    zgo w (d + 1) 261 29 [zR 81, zI l1] [zI s1, zR 81] H (zQI K) := by
  refine g_callI (as := [zR 81, zI s1]) (rest := []) zp261 rfl rfl (Nat.succ_pos _) rfl rfl (Nat.le_of_ble_eq_true rfl) (Nat.le_of_ble_eq_true rfl) rfl rfl h (fun x2 H1 h => ?_)
  refine g_if zp261 rfl rfl zc1 (fun c3 => ?_) (fun c3 => ?_)
  · replace h := h.1 c3
    refine g_al zp261 rfl rfl rfl (by decide) ?_
    refine g_callV (as := [zR 81]) (rest := []) zp261 rfl rfl (Nat.succ_pos _) rfl rfl (Nat.le_of_ble_eq_true rfl) (Nat.le_of_ble_eq_true rfl) rfl rfl h (fun H4 h => ?_)
    refine g_al zp261 rfl rfl rfl (by decide) ?_
    refine g_get (v := zR 82) zp261 rfl rfl rfl ⟨rfl, by decide, (by decide)⟩ rfl ?_
    refine g_al zp261 rfl rfl rfl (by decide) ?_
    refine g_get (v := zR 82) zp261 rfl rfl rfl ⟨rfl, by decide, (by decide)⟩ rfl ?_
    refine g_ic zp261 rfl rfl ?_
    refine g_ald (v := zI (H4 82 6)) zp261 rfl rfl rfl rfl (by decide) rfl ?_
    refine g_il zp261 rfl rfl rfl ?_
    obtain ⟨c6, h⟩ := h
    refine g_iast zp261 rfl rfl rfl (by decide) rfl c6 ?_
    refine g_al zp261 rfl rfl rfl (by decide) ?_
    refine g_get (v := zR 82) zp261 rfl rfl rfl ⟨rfl, by decide, (by decide)⟩ rfl ?_
    refine g_ic zp261 rfl rfl ?_
    refine g_dup2 zp261 rfl rfl (fun q => by cases q) rfl ?_
    refine g_ald (v := zI ((zup H4 82 (H4 82 6) l1) 82 6)) zp261 rfl rfl rfl rfl (by decide) rfl ?_
    refine g_ic zp261 rfl rfl ?_
    refine g_ar (r := w32 (((zup H4 82 (H4 82 6) l1) 82 6) + 1)) zp261 rfl rfl rfl ?_
    refine g_iast zp261 rfl rfl rfl (by decide) rfl (by decide) ?_
    refine g_al zp261 rfl rfl rfl (by decide) ?_
    refine g_get (v := zR 82) zp261 rfl rfl rfl ⟨rfl, by decide, (by decide)⟩ rfl ?_
    refine g_ic zp261 rfl rfl ?_
    refine g_ald (v := zI (w32 (((zup H4 82 (H4 82 6) l1) 82 6) + 1))) zp261 rfl rfl rfl rfl (by decide) rfl ?_
    refine g_ic zp261 rfl rfl ?_
    refine g_ar (r := w32 ((w32 (((zup H4 82 (H4 82 6) l1) 82 6) + 1)) - 1)) zp261 rfl rfl rfl ?_
    exact g_ret zp261 rfl rfl ⟨_, rfl, h⟩
  · replace h := h.2 c3
    refine g_ic zp261 rfl rfl ?_
    exact g_ret zp261 rfl rfl ⟨_, rfl, h⟩
theorem zp262 : zprog.getD 262 [] = zk262 := rfl
theorem x262_0 {w : zWt} {d : Nat} {H : zHt} {K : zHt → Prop} 
    (h : (¬ (H 81 5) = 8 → zgo w d 262 50 [zR 81, zI 0] [] H (zQV K)) ∧ ((H 81 5) = 8 → zgo w d 262 11 [zR 81, zI 0] [] H (zQV K))) :
    zclV w d 262 [zR 81] H K := by
  show zgo w d 262 0 [zR 81, zJ] [] H (zQV K)
  refine g_al zp262 rfl rfl rfl (by decide) ?_
  refine g_get (v := zI (H 81 5)) zp262 rfl rfl rfl ⟨rfl, by decide, (by decide)⟩ rfl ?_
  refine g_ic zp262 rfl rfl ?_
  refine g_icmp zp262 rfl rfl zc1 (fun c1 => ?_) (fun c1 => ?_)
  · replace h := h.1 c1
    refine g_ic zp262 rfl rfl ?_
    refine g_is (ls' := [zR 81, zI 0]) zp262 rfl rfl (Nat.le_of_ble_eq_true rfl) rfl ?_
    exact g_weak (ls' := [zR 81, zI 0]) ⟨Or.inr rfl, Or.inr rfl, trivial⟩ h
  · replace h := h.2 c1
    refine g_ic zp262 rfl rfl ?_
    refine g_is (ls' := [zR 81, zI 0]) zp262 rfl rfl (Nat.le_of_ble_eq_true rfl) rfl ?_
    exact g_weak (ls' := [zR 81, zI 0]) ⟨Or.inr rfl, Or.inr rfl, trivial⟩ h
theorem x262_11 {w : zWt} {d : Nat} {H : zHt} {K : zHt → Prop} {l1 : Int}
    (h : (70 ≤ l1 → zgo w d 262 50 [zR 81, zI 0] [] (zup H 81 5 (w32 ((H 81 5) - 1))) (zQV K)) ∧ (l1 < 70 → (0 ≤ (w32 (l1 + 10)) ∧ (w32 (l1 + 10)) < 80) ∧ (0 ≤ l1 ∧ l1 < 80) ∧ zgo w d 262 11 [zR 81, zI (w32 (l1 + 1))] [] (zup H 84 l1 (H 84 (w32 (l1 + 10)))) (zQV K))) :
    zgo w d 262 11 [zR 81, zI l1] [] H (zQV K) := by
  refine g_il zp262 rfl rfl rfl ?_
  refine g_ic zp262 rfl rfl ?_
  refine g_icmp zp262 rfl rfl zc3 (fun c1 => ?_) (fun c1 => ?_)
  · replace h := h.1 c1
    refine g_al zp262 rfl rfl rfl (by decide) ?_
    refine g_dup zp262 rfl rfl rfl ?_
    refine g_get (v := zI (H 81 5)) zp262 rfl rfl rfl ⟨rfl, by decide, (by decide)⟩ rfl ?_
    refine g_ic zp262 rfl rfl ?_
    refine g_ar (r := w32 ((H 81 5) - 1)) zp262 rfl rfl rfl ?_
    refine g_putI zp262 rfl rfl rfl ⟨rfl, by decide, (by decide)⟩ rfl rfl ?_
    refine g_ic zp262 rfl rfl ?_
    refine g_is (ls' := [zR 81, zI 0]) zp262 rfl rfl (Nat.le_of_ble_eq_true rfl) rfl ?_
    exact g_weak (ls' := [zR 81, zI 0]) ⟨Or.inr rfl, Or.inr rfl, trivial⟩ h
  · replace h := h.2 c1
    refine g_al zp262 rfl rfl rfl (by decide) ?_
    refine g_get (v := zR 84) zp262 rfl rfl rfl ⟨rfl, by decide, (by decide)⟩ rfl ?_
    refine g_il zp262 rfl rfl rfl ?_
    refine g_al zp262 rfl rfl rfl (by decide) ?_
    refine g_get (v := zR 84) zp262 rfl rfl rfl ⟨rfl, by decide, (by decide)⟩ rfl ?_
    refine g_il zp262 rfl rfl rfl ?_
    refine g_ic zp262 rfl rfl ?_
    refine g_ar (r := w32 (l1 + 10)) zp262 rfl rfl rfl ?_
    obtain ⟨c2, h⟩ := h
    refine g_ald (v := zI (H 84 (w32 (l1 + 10)))) zp262 rfl rfl rfl rfl c2 rfl ?_
    obtain ⟨c3, h⟩ := h
    refine g_iast zp262 rfl rfl rfl (by decide) rfl c3 ?_
    refine g_inc (ls' := [zR 81, zI (w32 (l1 + 1))]) zp262 rfl rfl rfl rfl ?_
    refine g_goto zp262 rfl ?_
    exact g_weak (ls' := [zR 81, zI (w32 (l1 + 1))]) ⟨Or.inr rfl, Or.inr rfl, trivial⟩ h
theorem x262_50 {w : zWt} {d : Nat} {H : zHt} {K : zHt → Prop} {l1 : Int}
    (h : (10 ≤ l1 → K (zup H 81 5 (w32 ((H 81 5) + 1)))) ∧ (l1 < 10 → (0 ≤ l1 ∧ l1 < 10) ∧ (0 ≤ (w32 ((w32 (10 * (H 81 5))) + l1)) ∧ (w32 ((w32 (10 * (H 81 5))) + l1)) < 80) ∧ zgo w d 262 50 [zR 81, zI (w32 (l1 + 1))] [] (zup H 84 (w32 ((w32 (10 * (H 81 5))) + l1)) (H 82 l1)) (zQV K))) :
    zgo w d 262 50 [zR 81, zI l1] [] H (zQV K) := by
  refine g_il zp262 rfl rfl rfl ?_
  refine g_ic zp262 rfl rfl ?_
  refine g_icmp zp262 rfl rfl zc3 (fun c1 => ?_) (fun c1 => ?_)
  · replace h := h.1 c1
    refine g_al zp262 rfl rfl rfl (by decide) ?_
    refine g_dup zp262 rfl rfl rfl ?_
    refine g_get (v := zI (H 81 5)) zp262 rfl rfl rfl ⟨rfl, by decide, (by decide)⟩ rfl ?_
    refine g_ic zp262 rfl rfl ?_
    refine g_ar (r := w32 ((H 81 5) + 1)) zp262 rfl rfl rfl ?_
    refine g_putI zp262 rfl rfl rfl ⟨rfl, by decide, (by decide)⟩ rfl rfl ?_
    exact g_ret zp262 rfl rfl ⟨rfl, h⟩
  · replace h := h.2 c1
    refine g_al zp262 rfl rfl rfl (by decide) ?_
    refine g_get (v := zR 84) zp262 rfl rfl rfl ⟨rfl, by decide, (by decide)⟩ rfl ?_
    refine g_ic zp262 rfl rfl ?_
    refine g_al zp262 rfl rfl rfl (by decide) ?_
    refine g_get (v := zI (H 81 5)) zp262 rfl rfl rfl ⟨rfl, by decide, (by decide)⟩ rfl ?_
    refine g_ar (r := w32 (10 * (H 81 5))) zp262 rfl rfl rfl ?_
    refine g_il zp262 rfl rfl rfl ?_
    refine g_ar (r := w32 ((w32 (10 * (H 81 5))) + l1)) zp262 rfl rfl rfl ?_
    refine g_al zp262 rfl rfl rfl (by decide) ?_
    refine g_get (v := zR 82) zp262 rfl rfl rfl ⟨rfl, by decide, (by decide)⟩ rfl ?_
    refine g_il zp262 rfl rfl rfl ?_
    obtain ⟨c2, h⟩ := h
    refine g_ald (v := zI (H 82 l1)) zp262 rfl rfl rfl rfl c2 rfl ?_
    obtain ⟨c3, h⟩ := h
    refine g_iast zp262 rfl rfl rfl (by decide) rfl c3 ?_
    refine g_inc (ls' := [zR 81, zI (w32 (l1 + 1))]) zp262 rfl rfl rfl rfl ?_
    refine g_goto zp262 rfl ?_
    exact g_weak (ls' := [zR 81, zI (w32 (l1 + 1))]) ⟨Or.inr rfl, Or.inr rfl, trivial⟩ h
theorem zp263 : zprog.getD 263 [] = zk263 := rfl
theorem x263_0 {w : zWt} {d : Nat} {H : zHt} {K : Int → zHt → Prop} {l1 : Int} {l2 : Int}
    (h : zclI w d 176 [zI l2] H (fun x2 H1 => (¬ x2 = 0 → zclI w d 223 [zR 81, zI l1] H1 (fun x5 H4 => (¬ x5 = 0 → (0 ≤ l1 ∧ l1 < 10) ∧ (¬ (H4 82 l1) = l2 → zclI w d 174 [zR 81, zI 0] H4 (fun x10 H9 => (¬ x10 = 0 → zclV w d 262 [zR 81] H9 (fun H12 => K (H12 82 l1) (zup H12 82 l1 l2))) ∧ (x10 = 0 → K (-1) H9))) ∧ ((H4 82 l1) = l2 → zclI w d 174 [zR 81, zI 4] H4 (fun x15 H14 => (¬ x15 = 0 → zclV w d 262 [zR 81] H14 (fun H17 => K (H17 82 l1) (zup H17 82 l1 l2))) ∧ (x15 = 0 → K (-1) H14)))) ∧ (x5 = 0 → zclI w d 174 [zR 81, zI 2] H4 (fun x20 H19 => (¬ x20 = 0 → zclV w d 262 [zR 81] H19 (fun H22 => (0 ≤ l1 ∧ l1 < 10) ∧ K (H22 82 l1) (zup H22 82 l1 l2))) ∧ (x20 = 0 → K (-1) H19))))) ∧ (x2 = 0 → zclI w d 174 [zR 81, zI 1] H1 (fun x26 H25 => (¬ x26 = 0 → zclV w d 262 [zR 81] H25 (fun H28 => (0 ≤ l1 ∧ l1 < 10) ∧ K (H28 82 l1) (zup H28 82 l1 l2))) ∧ (x26 = 0 → K (-1) H25))))) :
    zclI w (d + 1) 263 [zR 81, zI l1, zI l2] H K := by
  show zgo w (d + 1) 263 0 [zR 81, zI l1, zI l2, zJ] [] H (zQI K)
  refine g_al zp263 rfl rfl rfl (by decide) ?_
  refine g_il zp263 rfl rfl rfl ?_
  refine g_callI (as := [zI l2]) (rest := [zR 81]) zp263 rfl rfl (Nat.succ_pos _) rfl rfl (Nat.le_of_ble_eq_true rfl) (Nat.le_of_ble_eq_true rfl) rfl rfl h (fun x2 H1 h => ?_)
  refine g_if zp263 rfl rfl zc1 (fun c3 => ?_) (fun c3 => ?_)
  · replace h := h.1 c3
    refine g_al zp263 rfl rfl rfl (by decide) ?_
    refine g_il zp263 rfl rfl rfl ?_
    refine g_callI (as := [zR 81, zI l1]) (rest := [zR 81]) zp263 rfl rfl (Nat.succ_pos _) rfl rfl (Nat.le_of_ble_eq_true rfl) (Nat.le_of_ble_eq_true rfl) rfl rfl h (fun x5 H4 h => ?_)
    refine g_if zp263 rfl rfl zc1 (fun c6 => ?_) (fun c6 => ?_)
    · replace h := h.1 c6
      refine g_al zp263 rfl rfl rfl (by decide) ?_
      refine g_get (v := zR 82) zp263 rfl rfl rfl ⟨rfl, by decide, (by decide)⟩ rfl ?_
      refine g_il zp263 rfl rfl rfl ?_
      obtain ⟨c7, h⟩ := h
      refine g_ald (v := zI (H4 82 l1)) zp263 rfl rfl rfl rfl c7 rfl ?_
      refine g_il zp263 rfl rfl rfl ?_
      refine g_icmp zp263 rfl rfl zc1 (fun c8 => ?_) (fun c8 => ?_)
      · replace h := h.1 c8
        refine g_ic zp263 rfl rfl ?_
        refine g_callI (as := [zR 81, zI 0]) (rest := []) zp263 rfl rfl (Nat.succ_pos _) rfl rfl (Nat.le_of_ble_eq_true rfl) (Nat.le_of_ble_eq_true rfl) rfl rfl h (fun x10 H9 h => ?_)
        refine g_if zp263 rfl rfl zc1 (fun c11 => ?_) (fun c11 => ?_)
        · replace h := h.1 c11
          refine g_al zp263 rfl rfl rfl (by decide) ?_
          refine g_callV (as := [zR 81]) (rest := []) zp263 rfl rfl (Nat.succ_pos _) rfl rfl (Nat.le_of_ble_eq_true rfl) (Nat.le_of_ble_eq_true rfl) rfl rfl h (fun H12 h => ?_)
          refine g_al zp263 rfl rfl rfl (by decide) ?_
          refine g_get (v := zR 82) zp263 rfl rfl rfl ⟨rfl, by decide, (by decide)⟩ rfl ?_
          refine g_il zp263 rfl rfl rfl ?_
          refine g_ald (v := zI (H12 82 l1)) zp263 rfl rfl rfl rfl c7 rfl ?_
          refine g_is (ls' := [zR 81, zI l1, zI l2, zI (H12 82 l1)]) zp263 rfl rfl (Nat.le_of_ble_eq_true rfl) rfl ?_
          refine g_al zp263 rfl rfl rfl (by decide) ?_
          refine g_get (v := zR 82) zp263 rfl rfl rfl ⟨rfl, by decide, (by decide)⟩ rfl ?_
          refine g_il zp263 rfl rfl rfl ?_
          refine g_il zp263 rfl rfl rfl ?_
          refine g_iast zp263 rfl rfl rfl (by decide) rfl c7 ?_
          refine g_il zp263 rfl rfl rfl ?_
          exact g_ret zp263 rfl rfl ⟨_, rfl, h⟩
        · replace h := h.2 c11
          refine g_ic zp263 rfl rfl ?_
          exact g_ret zp263 rfl rfl ⟨_, rfl, h⟩
      · replace h := h.2 c8
        refine g_ic zp263 rfl rfl ?_
        refine g_goto zp263 rfl ?_
        refine g_callI (as := [zR 81, zI 4]) (rest := []) zp263 rfl rfl (Nat.succ_pos _) rfl rfl (Nat.le_of_ble_eq_true rfl) (Nat.le_of_ble_eq_true rfl) rfl rfl h (fun x15 H14 h => ?_)
        refine g_if zp263 rfl rfl zc1 (fun c16 => ?_) (fun c16 => ?_)
        · replace h := h.1 c16
          refine g_al zp263 rfl rfl rfl (by decide) ?_
          refine g_callV (as := [zR 81]) (rest := []) zp263 rfl rfl (Nat.succ_pos _) rfl rfl (Nat.le_of_ble_eq_true rfl) (Nat.le_of_ble_eq_true rfl) rfl rfl h (fun H17 h => ?_)
          refine g_al zp263 rfl rfl rfl (by decide) ?_
          refine g_get (v := zR 82) zp263 rfl rfl rfl ⟨rfl, by decide, (by decide)⟩ rfl ?_
          refine g_il zp263 rfl rfl rfl ?_
          refine g_ald (v := zI (H17 82 l1)) zp263 rfl rfl rfl rfl c7 rfl ?_
          refine g_is (ls' := [zR 81, zI l1, zI l2, zI (H17 82 l1)]) zp263 rfl rfl (Nat.le_of_ble_eq_true rfl) rfl ?_
          refine g_al zp263 rfl rfl rfl (by decide) ?_
          refine g_get (v := zR 82) zp263 rfl rfl rfl ⟨rfl, by decide, (by decide)⟩ rfl ?_
          refine g_il zp263 rfl rfl rfl ?_
          refine g_il zp263 rfl rfl rfl ?_
          refine g_iast zp263 rfl rfl rfl (by decide) rfl c7 ?_
          refine g_il zp263 rfl rfl rfl ?_
          exact g_ret zp263 rfl rfl ⟨_, rfl, h⟩
        · replace h := h.2 c16
          refine g_ic zp263 rfl rfl ?_
          exact g_ret zp263 rfl rfl ⟨_, rfl, h⟩
    · replace h := h.2 c6
      refine g_ic zp263 rfl rfl ?_
      refine g_goto zp263 rfl ?_
      refine g_callI (as := [zR 81, zI 2]) (rest := []) zp263 rfl rfl (Nat.succ_pos _) rfl rfl (Nat.le_of_ble_eq_true rfl) (Nat.le_of_ble_eq_true rfl) rfl rfl h (fun x20 H19 h => ?_)
      refine g_if zp263 rfl rfl zc1 (fun c21 => ?_) (fun c21 => ?_)
      · replace h := h.1 c21
        refine g_al zp263 rfl rfl rfl (by decide) ?_
        refine g_callV (as := [zR 81]) (rest := []) zp263 rfl rfl (Nat.succ_pos _) rfl rfl (Nat.le_of_ble_eq_true rfl) (Nat.le_of_ble_eq_true rfl) rfl rfl h (fun H22 h => ?_)
        refine g_al zp263 rfl rfl rfl (by decide) ?_
        refine g_get (v := zR 82) zp263 rfl rfl rfl ⟨rfl, by decide, (by decide)⟩ rfl ?_
        refine g_il zp263 rfl rfl rfl ?_
        obtain ⟨c24, h⟩ := h
        refine g_ald (v := zI (H22 82 l1)) zp263 rfl rfl rfl rfl c24 rfl ?_
        refine g_is (ls' := [zR 81, zI l1, zI l2, zI (H22 82 l1)]) zp263 rfl rfl (Nat.le_of_ble_eq_true rfl) rfl ?_
        refine g_al zp263 rfl rfl rfl (by decide) ?_
        refine g_get (v := zR 82) zp263 rfl rfl rfl ⟨rfl, by decide, (by decide)⟩ rfl ?_
        refine g_il zp263 rfl rfl rfl ?_
        refine g_il zp263 rfl rfl rfl ?_
        refine g_iast zp263 rfl rfl rfl (by decide) rfl c24 ?_
        refine g_il zp263 rfl rfl rfl ?_
        exact g_ret zp263 rfl rfl ⟨_, rfl, h⟩
      · replace h := h.2 c21
        refine g_ic zp263 rfl rfl ?_
        exact g_ret zp263 rfl rfl ⟨_, rfl, h⟩
  · replace h := h.2 c3
    refine g_ic zp263 rfl rfl ?_
    refine g_goto zp263 rfl ?_
    refine g_callI (as := [zR 81, zI 1]) (rest := []) zp263 rfl rfl (Nat.succ_pos _) rfl rfl (Nat.le_of_ble_eq_true rfl) (Nat.le_of_ble_eq_true rfl) rfl rfl h (fun x26 H25 h => ?_)
    refine g_if zp263 rfl rfl zc1 (fun c27 => ?_) (fun c27 => ?_)
    · replace h := h.1 c27
      refine g_al zp263 rfl rfl rfl (by decide) ?_
      refine g_callV (as := [zR 81]) (rest := []) zp263 rfl rfl (Nat.succ_pos _) rfl rfl (Nat.le_of_ble_eq_true rfl) (Nat.le_of_ble_eq_true rfl) rfl rfl h (fun H28 h => ?_)
      refine g_al zp263 rfl rfl rfl (by decide) ?_
      refine g_get (v := zR 82) zp263 rfl rfl rfl ⟨rfl, by decide, (by decide)⟩ rfl ?_
      refine g_il zp263 rfl rfl rfl ?_
      obtain ⟨c30, h⟩ := h
      refine g_ald (v := zI (H28 82 l1)) zp263 rfl rfl rfl rfl c30 rfl ?_
      refine g_is (ls' := [zR 81, zI l1, zI l2, zI (H28 82 l1)]) zp263 rfl rfl (Nat.le_of_ble_eq_true rfl) rfl ?_
      refine g_al zp263 rfl rfl rfl (by decide) ?_
      refine g_get (v := zR 82) zp263 rfl rfl rfl ⟨rfl, by decide, (by decide)⟩ rfl ?_
      refine g_il zp263 rfl rfl rfl ?_
      refine g_il zp263 rfl rfl rfl ?_
      refine g_iast zp263 rfl rfl rfl (by decide) rfl c30 ?_
      refine g_il zp263 rfl rfl rfl ?_
      exact g_ret zp263 rfl rfl ⟨_, rfl, h⟩
    · replace h := h.2 c27
      refine g_ic zp263 rfl rfl ?_
      exact g_ret zp263 rfl rfl ⟨_, rfl, h⟩
theorem zp264 : zprog.getD 264 [] = zk264 := rfl
theorem x264_0 {w : zWt} {d : Nat} {H : zHt} {K : Int → zHt → Prop} {l1 : Int}
    (h : zclI w d 222 [zR 81, zI 1, zI l1] H (fun x2 H1 => zclI w d 174 [zR 81, zI x2] H1 (fun x4 H3 => (¬ x4 = 0 → zclV w d 262 [zR 81] H3 (fun H6 => zgo w (d + 1) 264 32 [zR 81, zJ, zI l1] [] (zup H6 82 6 (w32 ((H6 82 6) - 1))) (zQI K))) ∧ (x4 = 0 → K (-1) H3)))) :
    zclI w (d + 1) 264 [zR 81, zI l1] H K := by
  show zgo w (d + 1) 264 0 [zR 81, zI l1, zJ] [] H (zQI K)
  refine g_al zp264 rfl rfl rfl (by decide) ?_
  refine g_al zp264 rfl rfl rfl (by decide) ?_
  refine g_ic zp264 rfl rfl ?_
  refine g_il zp264 rfl rfl rfl ?_
  refine g_callI (as := [zR 81, zI 1, zI l1]) (rest := [zR 81]) zp264 rfl rfl (Nat.succ_pos _) rfl rfl (Nat.le_of_ble_eq_true rfl) (Nat.le_of_ble_eq_true rfl) rfl rfl h (fun x2 H1 h => ?_)
  refine g_callI (as := [zR 81, zI x2]) (rest := []) zp264 rfl rfl (Nat.succ_pos _) rfl rfl (Nat.le_of_ble_eq_true rfl) (Nat.le_of_ble_eq_true rfl) rfl rfl h (fun x4 H3 h => ?_)
  refine g_if zp264 rfl rfl zc1 (fun c5 => ?_) (fun c5 => ?_)
  · replace h := h.1 c5
    refine g_al zp264 rfl rfl rfl (by decide) ?_
    refine g_callV (as := [zR 81]) (rest := []) zp264 rfl rfl (Nat.succ_pos _) rfl rfl (Nat.le_of_ble_eq_true rfl) (Nat.le_of_ble_eq_true rfl) rfl rfl h (fun H6 h => ?_)
    refine g_al zp264 rfl rfl rfl (by decide) ?_
    refine g_get (v := zR 82) zp264 rfl rfl rfl ⟨rfl, by decide, (by decide)⟩ rfl ?_
    refine g_ic zp264 rfl rfl ?_
    refine g_dup2 zp264 rfl rfl (fun q => by cases q) rfl ?_
    refine g_ald (v := zI (H6 82 6)) zp264 rfl rfl rfl rfl (by decide) rfl ?_
    refine g_ic zp264 rfl rfl ?_
    refine g_ar (r := w32 ((H6 82 6) - 1)) zp264 rfl rfl rfl ?_
    refine g_iast zp264 rfl rfl rfl (by decide) rfl (by decide) ?_
    refine g_il zp264 rfl rfl rfl ?_
    refine g_is (ls' := [zR 81, zI l1, zI l1]) zp264 rfl rfl (Nat.le_of_ble_eq_true rfl) rfl ?_
    exact g_weak (ls' := [zR 81, zJ, zI l1]) ⟨Or.inr rfl, Or.inl rfl, Or.inr rfl, trivial⟩ h
  · replace h := h.2 c5
    refine g_ic zp264 rfl rfl ?_
    exact g_ret zp264 rfl rfl ⟨_, rfl, h⟩
theorem x264_32 {w : zWt} {d : Nat} {H : zHt} {K : Int → zHt → Prop} {l2 : Int}
    (h : ((H 82 6) ≤ l2 → K (H 82 6) H) ∧ (l2 < (H 82 6) → (0 ≤ (w32 (l2 + 1)) ∧ (w32 (l2 + 1)) < 10) ∧ (0 ≤ l2 ∧ l2 < 10) ∧ zgo w (d + 1) 264 32 [zR 81, zJ, zI (w32 (l2 + 1))] [] (zup H 82 l2 (H 82 (w32 (l2 + 1)))) (zQI K))) :
    zgo w (d + 1) 264 32 [zR 81, zJ, zI l2] [] H (zQI K) := by
  refine g_il zp264 rfl rfl rfl ?_
  refine g_al zp264 rfl rfl rfl (by decide) ?_
  refine g_get (v := zR 82) zp264 rfl rfl rfl ⟨rfl, by decide, (by decide)⟩ rfl ?_
  refine g_ic zp264 rfl rfl ?_
  refine g_ald (v := zI (H 82 6)) zp264 rfl rfl rfl rfl (by decide) rfl ?_
  refine g_icmp zp264 rfl rfl zc3 (fun c1 => ?_) (fun c1 => ?_)
  · replace h := h.1 c1
    refine g_al zp264 rfl rfl rfl (by decide) ?_
    refine g_get (v := zR 82) zp264 rfl rfl rfl ⟨rfl, by decide, (by decide)⟩ rfl ?_
    refine g_ic zp264 rfl rfl ?_
    refine g_ald (v := zI (H 82 6)) zp264 rfl rfl rfl rfl (by decide) rfl ?_
    exact g_ret zp264 rfl rfl ⟨_, rfl, h⟩
  · replace h := h.2 c1
    refine g_al zp264 rfl rfl rfl (by decide) ?_
    refine g_get (v := zR 82) zp264 rfl rfl rfl ⟨rfl, by decide, (by decide)⟩ rfl ?_
    refine g_il zp264 rfl rfl rfl ?_
    refine g_al zp264 rfl rfl rfl (by decide) ?_
    refine g_get (v := zR 82) zp264 rfl rfl rfl ⟨rfl, by decide, (by decide)⟩ rfl ?_
    refine g_il zp264 rfl rfl rfl ?_
    refine g_ic zp264 rfl rfl ?_
    refine g_ar (r := w32 (l2 + 1)) zp264 rfl rfl rfl ?_
    obtain ⟨c2, h⟩ := h
    refine g_ald (v := zI (H 82 (w32 (l2 + 1)))) zp264 rfl rfl rfl rfl c2 rfl ?_
    obtain ⟨c3, h⟩ := h
    refine g_iast zp264 rfl rfl rfl (by decide) rfl c3 ?_
    refine g_inc (ls' := [zR 81, zJ, zI (w32 (l2 + 1))]) zp264 rfl rfl rfl rfl ?_
    refine g_goto zp264 rfl ?_
    exact g_weak (ls' := [zR 81, zJ, zI (w32 (l2 + 1))]) ⟨Or.inr rfl, Or.inr rfl, Or.inr rfl, trivial⟩ h
theorem zp265 : zprog.getD 265 [] = zk265 := rfl
theorem x265_0 {w : zWt} {d : Nat} {H : zHt} {K : Int → zHt → Prop} {l1 : Int}
    (h : zclI w d 225 [zR 81, zI 1, zI l1] H (fun x2 H1 => (¬ x2 = 0 → ((H1 81 21) = 1 → zclI w d 178 [zR 81, zI 5] H1 (fun x6 H5 => K x6 H5)) ∧ (¬ (H1 81 21) = 1 → (¬ (H1 94 1) = 0 → zclV w d 262 [zR 81] H1 (fun H8 => (0 ≤ l1 ∧ l1 < 10) ∧ K ((zup H8 82 l1 (H8 94 1)) 82 l1) (zup H8 82 l1 (H8 94 1)))) ∧ ((H1 94 1) = 0 → zclI w d 178 [zR 81, zI 5] H1 (fun x12 H11 => K x12 H11)))) ∧ (x2 = 0 → K (-1) H1))) :
    zclI w (d + 1) 265 [zR 81, zI l1] H K := by
  show zgo w (d + 1) 265 0 [zR 81, zI l1] [] H (zQI K)
  refine g_al zp265 rfl rfl rfl (by decide) ?_
  refine g_ic zp265 rfl rfl ?_
  refine g_il zp265 rfl rfl rfl ?_
  refine g_callI (as := [zR 81, zI 1, zI l1]) (rest := []) zp265 rfl rfl (Nat.succ_pos _) rfl rfl (Nat.le_of_ble_eq_true rfl) (Nat.le_of_ble_eq_true rfl) rfl rfl h (fun x2 H1 h => ?_)
  refine g_if zp265 rfl rfl zc1 (fun c3 => ?_) (fun c3 => ?_)
  · replace h := h.1 c3
    refine g_al zp265 rfl rfl rfl (by decide) ?_
    refine g_get (v := zI (H1 81 21)) zp265 rfl rfl rfl ⟨rfl, by decide, (by decide)⟩ rfl ?_
    refine g_ic zp265 rfl rfl ?_
    refine g_icmp zp265 rfl rfl zc0 (fun c4 => ?_) (fun c4 => ?_)
    · replace h := h.1 c4
      refine g_al zp265 rfl rfl rfl (by decide) ?_
      refine g_ic zp265 rfl rfl ?_
      refine g_callI (as := [zR 81, zI 5]) (rest := []) zp265 rfl rfl (Nat.succ_pos _) rfl rfl (Nat.le_of_ble_eq_true rfl) (Nat.le_of_ble_eq_true rfl) rfl rfl h (fun x6 H5 h => ?_)
      exact g_ret zp265 rfl rfl ⟨_, rfl, h⟩
    · replace h := h.2 c4
      refine g_al zp265 rfl rfl rfl (by decide) ?_
      refine g_get (v := zR 94) zp265 rfl rfl rfl ⟨rfl, by decide, (by decide)⟩ rfl ?_
      refine g_ic zp265 rfl rfl ?_
      refine g_ald (v := zI (H1 94 1)) zp265 rfl rfl rfl rfl (by decide) rfl ?_
      refine g_if zp265 rfl rfl zc1 (fun c7 => ?_) (fun c7 => ?_)
      · replace h := h.1 c7
        refine g_al zp265 rfl rfl rfl (by decide) ?_
        refine g_callV (as := [zR 81]) (rest := []) zp265 rfl rfl (Nat.succ_pos _) rfl rfl (Nat.le_of_ble_eq_true rfl) (Nat.le_of_ble_eq_true rfl) rfl rfl h (fun H8 h => ?_)
        refine g_al zp265 rfl rfl rfl (by decide) ?_
        refine g_get (v := zR 82) zp265 rfl rfl rfl ⟨rfl, by decide, (by decide)⟩ rfl ?_
        refine g_il zp265 rfl rfl rfl ?_
        refine g_al zp265 rfl rfl rfl (by decide) ?_
        refine g_get (v := zR 94) zp265 rfl rfl rfl ⟨rfl, by decide, (by decide)⟩ rfl ?_
        refine g_ic zp265 rfl rfl ?_
        refine g_ald (v := zI (H8 94 1)) zp265 rfl rfl rfl rfl (by decide) rfl ?_
        obtain ⟨c10, h⟩ := h
        refine g_iast zp265 rfl rfl rfl (by decide) rfl c10 ?_
        refine g_al zp265 rfl rfl rfl (by decide) ?_
        refine g_get (v := zR 82) zp265 rfl rfl rfl ⟨rfl, by decide, (by decide)⟩ rfl ?_
        refine g_il zp265 rfl rfl rfl ?_
        refine g_ald (v := zI ((zup H8 82 l1 (H8 94 1)) 82 l1)) zp265 rfl rfl rfl rfl c10 rfl ?_
        exact g_ret zp265 rfl rfl ⟨_, rfl, h⟩
      · replace h := h.2 c7
        refine g_al zp265 rfl rfl rfl (by decide) ?_
        refine g_ic zp265 rfl rfl ?_
        refine g_callI (as := [zR 81, zI 5]) (rest := []) zp265 rfl rfl (Nat.succ_pos _) rfl rfl (Nat.le_of_ble_eq_true rfl) (Nat.le_of_ble_eq_true rfl) rfl rfl h (fun x12 H11 h => ?_)
        exact g_ret zp265 rfl rfl ⟨_, rfl, h⟩
  · replace h := h.2 c3
    refine g_ic zp265 rfl rfl ?_
    exact g_ret zp265 rfl rfl ⟨_, rfl, h⟩
theorem zp266 : zprog.getD 266 [] = zk266 := rfl
theorem x266_0 {w : zWt} {d : Nat} {H : zHt} {K : Int → zHt → Prop} {l1 : Int} {l2 : Int}
    (h : zclI w d 223 [zR 81, zI l1] H (fun x2 H1 => (x2 = 0 → zgo w (d + 1) 266 31 [zR 81, zI l1, zI l2, zJ] [zI 2, zR 81] H1 (zQI K)) ∧ (¬ x2 = 0 → zclI w d 223 [zR 81, zI l2] H1 (fun x5 H4 => (¬ x5 = 0 → (¬ l1 = l2 → zgo w (d + 1) 266 31 [zR 81, zI l1, zI l2, zJ] [zI 0, zR 81] H4 (zQI K)) ∧ (l1 = l2 → zgo w (d + 1) 266 31 [zR 81, zI l1, zI l2, zJ] [zI 4, zR 81] H4 (zQI K))) ∧ (x5 = 0 → zgo w (d + 1) 266 31 [zR 81, zI l1, zI l2, zJ] [zI 2, zR 81] H4 (zQI K)))))) :
    zclI w (d + 1) 266 [zR 81, zI l1, zI l2] H K := by
  show zgo w (d + 1) 266 0 [zR 81, zI l1, zI l2, zJ] [] H (zQI K)
  refine g_al zp266 rfl rfl rfl (by decide) ?_
  refine g_al zp266 rfl rfl rfl (by decide) ?_
  refine g_il zp266 rfl rfl rfl ?_
  refine g_callI (as := [zR 81, zI l1]) (rest := [zR 81]) zp266 rfl rfl (Nat.succ_pos _) rfl rfl (Nat.le_of_ble_eq_true rfl) (Nat.le_of_ble_eq_true rfl) rfl rfl h (fun x2 H1 h => ?_)
  refine g_if zp266 rfl rfl zc0 (fun c3 => ?_) (fun c3 => ?_)
  · replace h := h.1 c3
    refine g_ic zp266 rfl rfl ?_
    refine g_goto zp266 rfl ?_
    exact g_weak (ls' := [zR 81, zI l1, zI l2, zJ]) ⟨Or.inr rfl, Or.inr rfl, Or.inr rfl, Or.inr rfl, trivial⟩ h
  · replace h := h.2 c3
    refine g_al zp266 rfl rfl rfl (by decide) ?_
    refine g_il zp266 rfl rfl rfl ?_
    refine g_callI (as := [zR 81, zI l2]) (rest := [zR 81]) zp266 rfl rfl (Nat.succ_pos _) rfl rfl (Nat.le_of_ble_eq_true rfl) (Nat.le_of_ble_eq_true rfl) rfl rfl h (fun x5 H4 h => ?_)
    refine g_if zp266 rfl rfl zc1 (fun c6 => ?_) (fun c6 => ?_)
    · replace h := h.1 c6
      refine g_il zp266 rfl rfl rfl ?_
      refine g_il zp266 rfl rfl rfl ?_
      refine g_icmp zp266 rfl rfl zc1 (fun c7 => ?_) (fun c7 => ?_)
      · replace h := h.1 c7
        refine g_ic zp266 rfl rfl ?_
        exact g_weak (ls' := [zR 81, zI l1, zI l2, zJ]) ⟨Or.inr rfl, Or.inr rfl, Or.inr rfl, Or.inr rfl, trivial⟩ h
      · replace h := h.2 c7
        refine g_ic zp266 rfl rfl ?_
        refine g_goto zp266 rfl ?_
        exact g_weak (ls' := [zR 81, zI l1, zI l2, zJ]) ⟨Or.inr rfl, Or.inr rfl, Or.inr rfl, Or.inr rfl, trivial⟩ h
    · replace h := h.2 c6
      refine g_ic zp266 rfl rfl ?_
      refine g_goto zp266 rfl ?_
      exact g_weak (ls' := [zR 81, zI l1, zI l2, zJ]) ⟨Or.inr rfl, Or.inr rfl, Or.inr rfl, Or.inr rfl, trivial⟩ h
theorem x266_31 {w : zWt} {d : Nat} {H : zHt} {K : Int → zHt → Prop} {l1 : Int} {l2 : Int} {s1 : Int}
    (h : zclI w d 174 [zR 81, zI s1] H (fun x2 H1 => (¬ x2 = 0 → zclV w d 262 [zR 81] H1 (fun H4 => (0 ≤ l1 ∧ l1 < 10) ∧ (0 ≤ l2 ∧ l2 < 10) ∧ zclV w d 226 [zR 81, zI ((zup (zup H4 82 l1 (H4 82 l2)) 82 l2 (H4 82 l1)) 82 l1)] (zup (zup H4 82 l1 (H4 82 l2)) 82 l2 (H4 82 l1)) (fun H8 => K (H8 81 21) H8))) ∧ (x2 = 0 → K (-1) H1))) :
    zgo w (d + 1) 266 31 [zR 81, zI l1, zI l2, zJ] [zI s1, zR 81] H (zQI K) := by
  refine g_callI (as := [zR 81, zI s1]) (rest := []) zp266 rfl rfl (Nat.succ_pos _) rfl rfl (Nat.le_of_ble_eq_true rfl) (Nat.le_of_ble_eq_true rfl) rfl rfl h (fun x2 H1 h => ?_)
  refine g_if zp266 rfl rfl zc1 (fun c3 => ?_) (fun c3 => ?_)
  · replace h := h.1 c3
    refine g_al zp266 rfl rfl rfl (by decide) ?_
    refine g_callV (as := [zR 81]) (rest := []) zp266 rfl rfl (Nat.succ_pos _) rfl rfl (Nat.le_of_ble_eq_true rfl) (Nat.le_of_ble_eq_true rfl) rfl rfl h (fun H4 h => ?_)
    refine g_al zp266 rfl rfl rfl (by decide) ?_
    refine g_get (v := zR 82) zp266 rfl rfl rfl ⟨rfl, by decide, (by decide)⟩ rfl ?_
    refine g_il zp266 rfl rfl rfl ?_
    obtain ⟨c6, h⟩ := h
    refine g_ald (v := zI (H4 82 l1)) zp266 rfl rfl rfl rfl c6 rfl ?_
    refine g_is (ls' := [zR 81, zI l1, zI l2, zI (H4 82 l1)]) zp266 rfl rfl (Nat.le_of_ble_eq_true rfl) rfl ?_
    refine g_al zp266 rfl rfl rfl (by decide) ?_
    refine g_get (v := zR 82) zp266 rfl rfl rfl ⟨rfl, by decide, (by decide)⟩ rfl ?_
    refine g_il zp266 rfl rfl rfl ?_
    refine g_al zp266 rfl rfl rfl (by decide) ?_
    refine g_get (v := zR 82) zp266 rfl rfl rfl ⟨rfl, by decide, (by decide)⟩ rfl ?_
    refine g_il zp266 rfl rfl rfl ?_
    obtain ⟨c7, h⟩ := h
    refine g_ald (v := zI (H4 82 l2)) zp266 rfl rfl rfl rfl c7 rfl ?_
    refine g_iast zp266 rfl rfl rfl (by decide) rfl c6 ?_
    refine g_al zp266 rfl rfl rfl (by decide) ?_
    refine g_get (v := zR 82) zp266 rfl rfl rfl ⟨rfl, by decide, (by decide)⟩ rfl ?_
    refine g_il zp266 rfl rfl rfl ?_
    refine g_il zp266 rfl rfl rfl ?_
    refine g_iast zp266 rfl rfl rfl (by decide) rfl c7 ?_
    refine g_al zp266 rfl rfl rfl (by decide) ?_
    refine g_al zp266 rfl rfl rfl (by decide) ?_
    refine g_get (v := zR 82) zp266 rfl rfl rfl ⟨rfl, by decide, (by decide)⟩ rfl ?_
    refine g_il zp266 rfl rfl rfl ?_
    refine g_ald (v := zI ((zup (zup H4 82 l1 (H4 82 l2)) 82 l2 (H4 82 l1)) 82 l1)) zp266 rfl rfl rfl rfl c6 rfl ?_
    refine g_callV (as := [zR 81, zI ((zup (zup H4 82 l1 (H4 82 l2)) 82 l2 (H4 82 l1)) 82 l1)]) (rest := []) zp266 rfl rfl (Nat.succ_pos _) rfl rfl (Nat.le_of_ble_eq_true rfl) (Nat.le_of_ble_eq_true rfl) rfl rfl h (fun H8 h => ?_)
    refine g_al zp266 rfl rfl rfl (by decide) ?_
    refine g_get (v := zI (H8 81 21)) zp266 rfl rfl rfl ⟨rfl, by decide, (by decide)⟩ rfl ?_
    exact g_ret zp266 rfl rfl ⟨_, rfl, h⟩
  · replace h := h.2 c3
    refine g_ic zp266 rfl rfl ?_
    exact g_ret zp266 rfl rfl ⟨_, rfl, h⟩
theorem zp267 : zprog.getD 267 [] = zk267 := rfl
theorem x267_0 {w : zWt} {d : Nat} {H : zHt} {K : Int → zHt → Prop} {l1 : Int} {l2 : Int}
    (h : zclI w d 173 [zL l1, zL 0, zL 2] H (fun x2 H1 => (x2 = 0 → zgo w (d + 1) 267 40 [zR 81, zI l1, zI l2, zJ, zJ] [zI 0] H1 (zQI K)) ∧ (¬ x2 = 0 → (¬ l1 = 2 → zclI w d 268 [zI l1] H1 (fun x6 H5 => zclI w d 173 [zL l2, zL 1, zL x6] H5 (fun x8 H7 => (x8 = 0 → zgo w (d + 1) 267 40 [zR 81, zI l1, zI l2, zJ, zJ] [zI 0] H7 (zQI K)) ∧ (¬ x8 = 0 → zgo w (d + 1) 267 40 [zR 81, zI l1, zI l2, zJ, zJ] [zI 1] H7 (zQI K))))) ∧ (l1 = 2 → zclI w d 268 [zI l1] H1 (fun x11 H10 => zclI w d 173 [zL l2, zL 0, zL x11] H10 (fun x13 H12 => (x13 = 0 → zgo w (d + 1) 267 40 [zR 81, zI l1, zI l2, zJ, zJ] [zI 0] H12 (zQI K)) ∧ (¬ x13 = 0 → zgo w (d + 1) 267 40 [zR 81, zI l1, zI l2, zJ, zJ] [zI 1] H12 (zQI K)))))))) :
    zclI w (d + 1) 267 [zR 81, zI l1, zI l2] H K := by
  show zgo w (d + 1) 267 0 [zR 81, zI l1, zI l2, zJ, zJ] [] H (zQI K)
  refine g_il zp267 rfl rfl rfl ?_
  refine g_i2l zp267 rfl rfl ?_
  refine g_lc zp267 rfl rfl ?_
  refine g_lc zp267 rfl rfl ?_
  refine g_callI (as := [zL l1, zL 0, zL 2]) (rest := []) zp267 rfl rfl (Nat.succ_pos _) rfl rfl (Nat.le_of_ble_eq_true rfl) (Nat.le_of_ble_eq_true rfl) rfl rfl h (fun x2 H1 h => ?_)
  refine g_if zp267 rfl rfl zc0 (fun c3 => ?_) (fun c3 => ?_)
  · replace h := h.1 c3
    refine g_ic zp267 rfl rfl ?_
    exact g_weak (ls' := [zR 81, zI l1, zI l2, zJ, zJ]) ⟨Or.inr rfl, Or.inr rfl, Or.inr rfl, Or.inr rfl, Or.inr rfl, trivial⟩ h
  · replace h := h.2 c3
    refine g_il zp267 rfl rfl rfl ?_
    refine g_i2l zp267 rfl rfl ?_
    refine g_il zp267 rfl rfl rfl ?_
    refine g_ic zp267 rfl rfl ?_
    refine g_icmp zp267 rfl rfl zc1 (fun c4 => ?_) (fun c4 => ?_)
    · replace h := h.1 c4
      refine g_lc zp267 rfl rfl ?_
      refine g_il zp267 rfl rfl rfl ?_
      refine g_callI (as := [zI l1]) (rest := [zL 1, zL l2]) zp267 rfl rfl (Nat.succ_pos _) rfl rfl (Nat.le_of_ble_eq_true rfl) (Nat.le_of_ble_eq_true rfl) rfl rfl h (fun x6 H5 h => ?_)
      refine g_i2l zp267 rfl rfl ?_
      refine g_callI (as := [zL l2, zL 1, zL x6]) (rest := []) zp267 rfl rfl (Nat.succ_pos _) rfl rfl (Nat.le_of_ble_eq_true rfl) (Nat.le_of_ble_eq_true rfl) rfl rfl h (fun x8 H7 h => ?_)
      refine g_if zp267 rfl rfl zc0 (fun c9 => ?_) (fun c9 => ?_)
      · replace h := h.1 c9
        refine g_ic zp267 rfl rfl ?_
        exact g_weak (ls' := [zR 81, zI l1, zI l2, zJ, zJ]) ⟨Or.inr rfl, Or.inr rfl, Or.inr rfl, Or.inr rfl, Or.inr rfl, trivial⟩ h
      · replace h := h.2 c9
        refine g_ic zp267 rfl rfl ?_
        refine g_goto zp267 rfl ?_
        exact g_weak (ls' := [zR 81, zI l1, zI l2, zJ, zJ]) ⟨Or.inr rfl, Or.inr rfl, Or.inr rfl, Or.inr rfl, Or.inr rfl, trivial⟩ h
    · replace h := h.2 c4
      refine g_lc zp267 rfl rfl ?_
      refine g_goto zp267 rfl ?_
      refine g_il zp267 rfl rfl rfl ?_
      refine g_callI (as := [zI l1]) (rest := [zL 0, zL l2]) zp267 rfl rfl (Nat.succ_pos _) rfl rfl (Nat.le_of_ble_eq_true rfl) (Nat.le_of_ble_eq_true rfl) rfl rfl h (fun x11 H10 h => ?_)
      refine g_i2l zp267 rfl rfl ?_
      refine g_callI (as := [zL l2, zL 0, zL x11]) (rest := []) zp267 rfl rfl (Nat.succ_pos _) rfl rfl (Nat.le_of_ble_eq_true rfl) (Nat.le_of_ble_eq_true rfl) rfl rfl h (fun x13 H12 h => ?_)
      refine g_if zp267 rfl rfl zc0 (fun c14 => ?_) (fun c14 => ?_)
      · replace h := h.1 c14
        refine g_ic zp267 rfl rfl ?_
        exact g_weak (ls' := [zR 81, zI l1, zI l2, zJ, zJ]) ⟨Or.inr rfl, Or.inr rfl, Or.inr rfl, Or.inr rfl, Or.inr rfl, trivial⟩ h
      · replace h := h.2 c14
        refine g_ic zp267 rfl rfl ?_
        refine g_goto zp267 rfl ?_
        exact g_weak (ls' := [zR 81, zI l1, zI l2, zJ, zJ]) ⟨Or.inr rfl, Or.inr rfl, Or.inr rfl, Or.inr rfl, Or.inr rfl, trivial⟩ h
theorem x267_40 {w : zWt} {d : Nat} {H : zHt} {K : Int → zHt → Prop} {l1 : Int} {l2 : Int} {s0 : Int}
    (h : (¬ s0 = 0 → (0 ≤ (w32 (7 + l1)) ∧ (w32 (7 + l1)) < 10) ∧ (¬ (H 82 (w32 (7 + l1))) = l2 → zclI w d 174 [zR 81, zI 0] H (fun x5 H4 => (¬ x5 = 0 → zclV w d 262 [zR 81] H4 (fun H7 => K (H7 82 (w32 (7 + l1))) (zup H7 82 (w32 (7 + l1)) l2))) ∧ (x5 = 0 → K (-1) H4))) ∧ ((H 82 (w32 (7 + l1))) = l2 → zclI w d 174 [zR 81, zI 4] H (fun x10 H9 => (¬ x10 = 0 → zclV w d 262 [zR 81] H9 (fun H12 => K (H12 82 (w32 (7 + l1))) (zup H12 82 (w32 (7 + l1)) l2))) ∧ (x10 = 0 → K (-1) H9)))) ∧ (s0 = 0 → zclI w d 174 [zR 81, zI 1] H (fun x15 H14 => (¬ x15 = 0 → zclV w d 262 [zR 81] H14 (fun H17 => (0 ≤ (w32 (7 + l1)) ∧ (w32 (7 + l1)) < 10) ∧ K (H17 82 (w32 (7 + l1))) (zup H17 82 (w32 (7 + l1)) l2))) ∧ (x15 = 0 → K (-1) H14)))) :
    zgo w (d + 1) 267 40 [zR 81, zI l1, zI l2, zJ, zJ] [zI s0] H (zQI K) := by
  refine g_is (ls' := [zR 81, zI l1, zI l2, zI s0, zJ]) zp267 rfl rfl (Nat.le_of_ble_eq_true rfl) rfl ?_
  refine g_al zp267 rfl rfl rfl (by decide) ?_
  refine g_il zp267 rfl rfl rfl ?_
  refine g_if zp267 rfl rfl zc1 (fun c1 => ?_) (fun c1 => ?_)
  · replace h := h.1 c1
    refine g_al zp267 rfl rfl rfl (by decide) ?_
    refine g_get (v := zR 82) zp267 rfl rfl rfl ⟨rfl, by decide, (by decide)⟩ rfl ?_
    refine g_ic zp267 rfl rfl ?_
    refine g_il zp267 rfl rfl rfl ?_
    refine g_ar (r := w32 (7 + l1)) zp267 rfl rfl rfl ?_
    obtain ⟨c2, h⟩ := h
    refine g_ald (v := zI (H 82 (w32 (7 + l1)))) zp267 rfl rfl rfl rfl c2 rfl ?_
    refine g_il zp267 rfl rfl rfl ?_
    refine g_icmp zp267 rfl rfl zc1 (fun c3 => ?_) (fun c3 => ?_)
    · replace h := h.1 c3
      refine g_ic zp267 rfl rfl ?_
      refine g_callI (as := [zR 81, zI 0]) (rest := []) zp267 rfl rfl (Nat.succ_pos _) rfl rfl (Nat.le_of_ble_eq_true rfl) (Nat.le_of_ble_eq_true rfl) rfl rfl h (fun x5 H4 h => ?_)
      refine g_if zp267 rfl rfl zc1 (fun c6 => ?_) (fun c6 => ?_)
      · replace h := h.1 c6
        refine g_al zp267 rfl rfl rfl (by decide) ?_
        refine g_callV (as := [zR 81]) (rest := []) zp267 rfl rfl (Nat.succ_pos _) rfl rfl (Nat.le_of_ble_eq_true rfl) (Nat.le_of_ble_eq_true rfl) rfl rfl h (fun H7 h => ?_)
        refine g_al zp267 rfl rfl rfl (by decide) ?_
        refine g_get (v := zR 82) zp267 rfl rfl rfl ⟨rfl, by decide, (by decide)⟩ rfl ?_
        refine g_ic zp267 rfl rfl ?_
        refine g_il zp267 rfl rfl rfl ?_
        refine g_ar (r := w32 (7 + l1)) zp267 rfl rfl rfl ?_
        refine g_ald (v := zI (H7 82 (w32 (7 + l1)))) zp267 rfl rfl rfl rfl c2 rfl ?_
        refine g_is (ls' := [zR 81, zI l1, zI l2, zI s0, zI (H7 82 (w32 (7 + l1)))]) zp267 rfl rfl (Nat.le_of_ble_eq_true rfl) rfl ?_
        refine g_al zp267 rfl rfl rfl (by decide) ?_
        refine g_get (v := zR 82) zp267 rfl rfl rfl ⟨rfl, by decide, (by decide)⟩ rfl ?_
        refine g_ic zp267 rfl rfl ?_
        refine g_il zp267 rfl rfl rfl ?_
        refine g_ar (r := w32 (7 + l1)) zp267 rfl rfl rfl ?_
        refine g_il zp267 rfl rfl rfl ?_
        refine g_iast zp267 rfl rfl rfl (by decide) rfl c2 ?_
        refine g_il zp267 rfl rfl rfl ?_
        exact g_ret zp267 rfl rfl ⟨_, rfl, h⟩
      · replace h := h.2 c6
        refine g_ic zp267 rfl rfl ?_
        exact g_ret zp267 rfl rfl ⟨_, rfl, h⟩
    · replace h := h.2 c3
      refine g_ic zp267 rfl rfl ?_
      refine g_goto zp267 rfl ?_
      refine g_callI (as := [zR 81, zI 4]) (rest := []) zp267 rfl rfl (Nat.succ_pos _) rfl rfl (Nat.le_of_ble_eq_true rfl) (Nat.le_of_ble_eq_true rfl) rfl rfl h (fun x10 H9 h => ?_)
      refine g_if zp267 rfl rfl zc1 (fun c11 => ?_) (fun c11 => ?_)
      · replace h := h.1 c11
        refine g_al zp267 rfl rfl rfl (by decide) ?_
        refine g_callV (as := [zR 81]) (rest := []) zp267 rfl rfl (Nat.succ_pos _) rfl rfl (Nat.le_of_ble_eq_true rfl) (Nat.le_of_ble_eq_true rfl) rfl rfl h (fun H12 h => ?_)
        refine g_al zp267 rfl rfl rfl (by decide) ?_
        refine g_get (v := zR 82) zp267 rfl rfl rfl ⟨rfl, by decide, (by decide)⟩ rfl ?_
        refine g_ic zp267 rfl rfl ?_
        refine g_il zp267 rfl rfl rfl ?_
        refine g_ar (r := w32 (7 + l1)) zp267 rfl rfl rfl ?_
        refine g_ald (v := zI (H12 82 (w32 (7 + l1)))) zp267 rfl rfl rfl rfl c2 rfl ?_
        refine g_is (ls' := [zR 81, zI l1, zI l2, zI s0, zI (H12 82 (w32 (7 + l1)))]) zp267 rfl rfl (Nat.le_of_ble_eq_true rfl) rfl ?_
        refine g_al zp267 rfl rfl rfl (by decide) ?_
        refine g_get (v := zR 82) zp267 rfl rfl rfl ⟨rfl, by decide, (by decide)⟩ rfl ?_
        refine g_ic zp267 rfl rfl ?_
        refine g_il zp267 rfl rfl rfl ?_
        refine g_ar (r := w32 (7 + l1)) zp267 rfl rfl rfl ?_
        refine g_il zp267 rfl rfl rfl ?_
        refine g_iast zp267 rfl rfl rfl (by decide) rfl c2 ?_
        refine g_il zp267 rfl rfl rfl ?_
        exact g_ret zp267 rfl rfl ⟨_, rfl, h⟩
      · replace h := h.2 c11
        refine g_ic zp267 rfl rfl ?_
        exact g_ret zp267 rfl rfl ⟨_, rfl, h⟩
  · replace h := h.2 c1
    refine g_ic zp267 rfl rfl ?_
    refine g_goto zp267 rfl ?_
    refine g_callI (as := [zR 81, zI 1]) (rest := []) zp267 rfl rfl (Nat.succ_pos _) rfl rfl (Nat.le_of_ble_eq_true rfl) (Nat.le_of_ble_eq_true rfl) rfl rfl h (fun x15 H14 h => ?_)
    refine g_if zp267 rfl rfl zc1 (fun c16 => ?_) (fun c16 => ?_)
    · replace h := h.1 c16
      refine g_al zp267 rfl rfl rfl (by decide) ?_
      refine g_callV (as := [zR 81]) (rest := []) zp267 rfl rfl (Nat.succ_pos _) rfl rfl (Nat.le_of_ble_eq_true rfl) (Nat.le_of_ble_eq_true rfl) rfl rfl h (fun H17 h => ?_)
      refine g_al zp267 rfl rfl rfl (by decide) ?_
      refine g_get (v := zR 82) zp267 rfl rfl rfl ⟨rfl, by decide, (by decide)⟩ rfl ?_
      refine g_ic zp267 rfl rfl ?_
      refine g_il zp267 rfl rfl rfl ?_
      refine g_ar (r := w32 (7 + l1)) zp267 rfl rfl rfl ?_
      obtain ⟨c19, h⟩ := h
      refine g_ald (v := zI (H17 82 (w32 (7 + l1)))) zp267 rfl rfl rfl rfl c19 rfl ?_
      refine g_is (ls' := [zR 81, zI l1, zI l2, zI s0, zI (H17 82 (w32 (7 + l1)))]) zp267 rfl rfl (Nat.le_of_ble_eq_true rfl) rfl ?_
      refine g_al zp267 rfl rfl rfl (by decide) ?_
      refine g_get (v := zR 82) zp267 rfl rfl rfl ⟨rfl, by decide, (by decide)⟩ rfl ?_
      refine g_ic zp267 rfl rfl ?_
      refine g_il zp267 rfl rfl rfl ?_
      refine g_ar (r := w32 (7 + l1)) zp267 rfl rfl rfl ?_
      refine g_il zp267 rfl rfl rfl ?_
      refine g_iast zp267 rfl rfl rfl (by decide) rfl c19 ?_
      refine g_il zp267 rfl rfl rfl ?_
      exact g_ret zp267 rfl rfl ⟨_, rfl, h⟩
    · replace h := h.2 c16
      refine g_ic zp267 rfl rfl ?_
      exact g_ret zp267 rfl rfl ⟨_, rfl, h⟩
theorem zp268 : zprog.getD 268 [] = zk268 := rfl
theorem x268_0 {w : zWt} {d : Nat} {H : zHt} {K : Int → zHt → Prop} {l0 : Int}
    (h : (¬ l0 = 0 → (¬ l0 = 1 → K 3 H) ∧ (l0 = 1 → K 100 H)) ∧ (l0 = 0 → K 999999999 H)) :
    zclI w d 268 [zI l0] H K := by
  show zgo w d 268 0 [zI l0] [] H (zQI K)
  refine g_il zp268 rfl rfl rfl ?_
  refine g_if zp268 rfl rfl zc1 (fun c1 => ?_) (fun c1 => ?_)
  · replace h := h.1 c1
    refine g_il zp268 rfl rfl rfl ?_
    refine g_ic zp268 rfl rfl ?_
    refine g_icmp zp268 rfl rfl zc1 (fun c2 => ?_) (fun c2 => ?_)
    · replace h := h.1 c2
      refine g_ic zp268 rfl rfl ?_
      exact g_ret zp268 rfl rfl ⟨_, rfl, h⟩
    · replace h := h.2 c2
      refine g_ic zp268 rfl rfl ?_
      refine g_goto zp268 rfl ?_
      exact g_ret zp268 rfl rfl ⟨_, rfl, h⟩
  · replace h := h.2 c1
    refine g_ic zp268 rfl rfl ?_
    refine g_goto zp268 rfl ?_
    exact g_ret zp268 rfl rfl ⟨_, rfl, h⟩
theorem zp269 : zprog.getD 269 [] = zk269 := rfl
theorem x269_0 {w : zWt} {d : Nat} {H : zHt} {K : Int → zHt → Prop} 
    (h : (¬ (H 81 5) = 0 → zclI w d 174 [zR 81, zI 0] H (fun x3 H2 => (¬ x3 = 0 → zgo w (d + 1) 269 33 [zR 81, zI 0] [] (zup H2 81 5 (w32 ((H2 81 5) - 1))) (zQI K)) ∧ (x3 = 0 → K (-1) H2))) ∧ ((H 81 5) = 0 → zclI w d 174 [zR 81, zI 5] H (fun x6 H5 => (¬ x6 = 0 → zgo w (d + 1) 269 33 [zR 81, zI 0] [] (zup H5 81 5 (w32 ((H5 81 5) - 1))) (zQI K)) ∧ (x6 = 0 → K (-1) H5)))) :
    zclI w (d + 1) 269 [zR 81] H K := by
  show zgo w (d + 1) 269 0 [zR 81, zJ] [] H (zQI K)
  refine g_al zp269 rfl rfl rfl (by decide) ?_
  refine g_al zp269 rfl rfl rfl (by decide) ?_
  refine g_get (v := zI (H 81 5)) zp269 rfl rfl rfl ⟨rfl, by decide, (by decide)⟩ rfl ?_
  refine g_if zp269 rfl rfl zc1 (fun c1 => ?_) (fun c1 => ?_)
  · replace h := h.1 c1
    refine g_ic zp269 rfl rfl ?_
    refine g_callI (as := [zR 81, zI 0]) (rest := []) zp269 rfl rfl (Nat.succ_pos _) rfl rfl (Nat.le_of_ble_eq_true rfl) (Nat.le_of_ble_eq_true rfl) rfl rfl h (fun x3 H2 h => ?_)
    refine g_if zp269 rfl rfl zc1 (fun c4 => ?_) (fun c4 => ?_)
    · replace h := h.1 c4
      refine g_al zp269 rfl rfl rfl (by decide) ?_
      refine g_dup zp269 rfl rfl rfl ?_
      refine g_get (v := zI (H2 81 5)) zp269 rfl rfl rfl ⟨rfl, by decide, (by decide)⟩ rfl ?_
      refine g_ic zp269 rfl rfl ?_
      refine g_ar (r := w32 ((H2 81 5) - 1)) zp269 rfl rfl rfl ?_
      refine g_putI zp269 rfl rfl rfl ⟨rfl, by decide, (by decide)⟩ rfl rfl ?_
      refine g_ic zp269 rfl rfl ?_
      refine g_is (ls' := [zR 81, zI 0]) zp269 rfl rfl (Nat.le_of_ble_eq_true rfl) rfl ?_
      exact g_weak (ls' := [zR 81, zI 0]) ⟨Or.inr rfl, Or.inr rfl, trivial⟩ h
    · replace h := h.2 c4
      refine g_ic zp269 rfl rfl ?_
      exact g_ret zp269 rfl rfl ⟨_, rfl, h⟩
  · replace h := h.2 c1
    refine g_ic zp269 rfl rfl ?_
    refine g_goto zp269 rfl ?_
    refine g_callI (as := [zR 81, zI 5]) (rest := []) zp269 rfl rfl (Nat.succ_pos _) rfl rfl (Nat.le_of_ble_eq_true rfl) (Nat.le_of_ble_eq_true rfl) rfl rfl h (fun x6 H5 h => ?_)
    refine g_if zp269 rfl rfl zc1 (fun c7 => ?_) (fun c7 => ?_)
    · replace h := h.1 c7
      refine g_al zp269 rfl rfl rfl (by decide) ?_
      refine g_dup zp269 rfl rfl rfl ?_
      refine g_get (v := zI (H5 81 5)) zp269 rfl rfl rfl ⟨rfl, by decide, (by decide)⟩ rfl ?_
      refine g_ic zp269 rfl rfl ?_
      refine g_ar (r := w32 ((H5 81 5) - 1)) zp269 rfl rfl rfl ?_
      refine g_putI zp269 rfl rfl rfl ⟨rfl, by decide, (by decide)⟩ rfl rfl ?_
      refine g_ic zp269 rfl rfl ?_
      refine g_is (ls' := [zR 81, zI 0]) zp269 rfl rfl (Nat.le_of_ble_eq_true rfl) rfl ?_
      exact g_weak (ls' := [zR 81, zI 0]) ⟨Or.inr rfl, Or.inr rfl, trivial⟩ h
    · replace h := h.2 c7
      refine g_ic zp269 rfl rfl ?_
      exact g_ret zp269 rfl rfl ⟨_, rfl, h⟩
theorem x269_33 {w : zWt} {d : Nat} {H : zHt} {K : Int → zHt → Prop} {l1 : Int}
    (h : (10 ≤ l1 → K (H 81 5) H) ∧ (l1 < 10 → (0 ≤ (w32 ((w32 (10 * (H 81 5))) + l1)) ∧ (w32 ((w32 (10 * (H 81 5))) + l1)) < 80) ∧ (0 ≤ l1 ∧ l1 < 10) ∧ zgo w (d + 1) 269 33 [zR 81, zI (w32 (l1 + 1))] [] (zup H 82 l1 (H 84 (w32 ((w32 (10 * (H 81 5))) + l1)))) (zQI K))) :
    zgo w (d + 1) 269 33 [zR 81, zI l1] [] H (zQI K) := by
  refine g_il zp269 rfl rfl rfl ?_
  refine g_ic zp269 rfl rfl ?_
  refine g_icmp zp269 rfl rfl zc3 (fun c1 => ?_) (fun c1 => ?_)
  · replace h := h.1 c1
    refine g_al zp269 rfl rfl rfl (by decide) ?_
    refine g_get (v := zI (H 81 5)) zp269 rfl rfl rfl ⟨rfl, by decide, (by decide)⟩ rfl ?_
    exact g_ret zp269 rfl rfl ⟨_, rfl, h⟩
  · replace h := h.2 c1
    refine g_al zp269 rfl rfl rfl (by decide) ?_
    refine g_get (v := zR 82) zp269 rfl rfl rfl ⟨rfl, by decide, (by decide)⟩ rfl ?_
    refine g_il zp269 rfl rfl rfl ?_
    refine g_al zp269 rfl rfl rfl (by decide) ?_
    refine g_get (v := zR 84) zp269 rfl rfl rfl ⟨rfl, by decide, (by decide)⟩ rfl ?_
    refine g_ic zp269 rfl rfl ?_
    refine g_al zp269 rfl rfl rfl (by decide) ?_
    refine g_get (v := zI (H 81 5)) zp269 rfl rfl rfl ⟨rfl, by decide, (by decide)⟩ rfl ?_
    refine g_ar (r := w32 (10 * (H 81 5))) zp269 rfl rfl rfl ?_
    refine g_il zp269 rfl rfl rfl ?_
    refine g_ar (r := w32 ((w32 (10 * (H 81 5))) + l1)) zp269 rfl rfl rfl ?_
    obtain ⟨c2, h⟩ := h
    refine g_ald (v := zI (H 84 (w32 ((w32 (10 * (H 81 5))) + l1)))) zp269 rfl rfl rfl rfl c2 rfl ?_
    obtain ⟨c3, h⟩ := h
    refine g_iast zp269 rfl rfl rfl (by decide) rfl c3 ?_
    refine g_inc (ls' := [zR 81, zI (w32 (l1 + 1))]) zp269 rfl rfl rfl rfl ?_
    refine g_goto zp269 rfl ?_
    exact g_weak (ls' := [zR 81, zI (w32 (l1 + 1))]) ⟨Or.inr rfl, Or.inr rfl, trivial⟩ h
theorem zp270 : zprog.getD 270 [] = zk270 := rfl
theorem x270_0 {w : zWt} {d : Nat} {H : zHt} {K : Int → zHt → Prop} {l1 : Int}
    (h : zclI w d 225 [zR 81, zI 1, zI l1] H (fun x2 H1 => (¬ x2 = 0 → zgo w (d + 1) 270 18 [zR 81, zJ, zI 0] [] (zup H1 81 29 0) (zQI K)) ∧ (x2 = 0 → K (-1) H1))) :
    zclI w (d + 1) 270 [zR 81, zI l1] H K := by
  show zgo w (d + 1) 270 0 [zR 81, zI l1, zJ] [] H (zQI K)
  refine g_al zp270 rfl rfl rfl (by decide) ?_
  refine g_ic zp270 rfl rfl ?_
  refine g_il zp270 rfl rfl rfl ?_
  refine g_callI (as := [zR 81, zI 1, zI l1]) (rest := []) zp270 rfl rfl (Nat.succ_pos _) rfl rfl (Nat.le_of_ble_eq_true rfl) (Nat.le_of_ble_eq_true rfl) rfl rfl h (fun x2 H1 h => ?_)
  refine g_if zp270 rfl rfl zc1 (fun c3 => ?_) (fun c3 => ?_)
  · replace h := h.1 c3
    refine g_al zp270 rfl rfl rfl (by decide) ?_
    refine g_ic zp270 rfl rfl ?_
    refine g_putI zp270 rfl rfl rfl ⟨rfl, by decide, (by decide)⟩ rfl rfl ?_
    refine g_ic zp270 rfl rfl ?_
    refine g_is (ls' := [zR 81, zI l1, zI 0]) zp270 rfl rfl (Nat.le_of_ble_eq_true rfl) rfl ?_
    exact g_weak (ls' := [zR 81, zJ, zI 0]) ⟨Or.inr rfl, Or.inl rfl, Or.inr rfl, trivial⟩ h
  · replace h := h.2 c3
    refine g_ic zp270 rfl rfl ?_
    exact g_ret zp270 rfl rfl ⟨_, rfl, h⟩
theorem x270_18 {w : zWt} {d : Nat} {H : zHt} {K : Int → zHt → Prop} {l2 : Int}
    (h : ((H 81 21) ≤ l2 → K (H 81 29) H) ∧ (l2 < (H 81 21) → (l2 ≤ 0 → (0 ≤ l2 ∧ l2 < 101) ∧ zclV w d 272 [zR 81, zI (H 94 l2)] H (fun H4 => zgo w (d + 1) 270 18 [zR 81, zJ, zI (w32 (l2 + 1))] [] H4 (zQI K))) ∧ (0 < l2 → zclV w d 271 [zR 81, zI 32] H (fun H6 => (0 ≤ l2 ∧ l2 < 101) ∧ zclV w d 272 [zR 81, zI (H6 94 l2)] H6 (fun H9 => zgo w (d + 1) 270 18 [zR 81, zJ, zI (w32 (l2 + 1))] [] H9 (zQI K)))))) :
    zgo w (d + 1) 270 18 [zR 81, zJ, zI l2] [] H (zQI K) := by
  refine g_il zp270 rfl rfl rfl ?_
  refine g_al zp270 rfl rfl rfl (by decide) ?_
  refine g_get (v := zI (H 81 21)) zp270 rfl rfl rfl ⟨rfl, by decide, (by decide)⟩ rfl ?_
  refine g_icmp zp270 rfl rfl zc3 (fun c1 => ?_) (fun c1 => ?_)
  · replace h := h.1 c1
    refine g_al zp270 rfl rfl rfl (by decide) ?_
    refine g_get (v := zI (H 81 29)) zp270 rfl rfl rfl ⟨rfl, by decide, (by decide)⟩ rfl ?_
    exact g_ret zp270 rfl rfl ⟨_, rfl, h⟩
  · replace h := h.2 c1
    refine g_il zp270 rfl rfl rfl ?_
    refine g_if zp270 rfl rfl zc5 (fun c2 => ?_) (fun c2 => ?_)
    · replace h := h.1 c2
      refine g_al zp270 rfl rfl rfl (by decide) ?_
      refine g_al zp270 rfl rfl rfl (by decide) ?_
      refine g_get (v := zR 94) zp270 rfl rfl rfl ⟨rfl, by decide, (by decide)⟩ rfl ?_
      refine g_il zp270 rfl rfl rfl ?_
      obtain ⟨c3, h⟩ := h
      refine g_ald (v := zI (H 94 l2)) zp270 rfl rfl rfl rfl c3 rfl ?_
      refine g_callV (as := [zR 81, zI (H 94 l2)]) (rest := []) zp270 rfl rfl (Nat.succ_pos _) rfl rfl (Nat.le_of_ble_eq_true rfl) (Nat.le_of_ble_eq_true rfl) rfl rfl h (fun H4 h => ?_)
      refine g_inc (ls' := [zR 81, zJ, zI (w32 (l2 + 1))]) zp270 rfl rfl rfl rfl ?_
      refine g_goto zp270 rfl ?_
      exact g_weak (ls' := [zR 81, zJ, zI (w32 (l2 + 1))]) ⟨Or.inr rfl, Or.inr rfl, Or.inr rfl, trivial⟩ h
    · replace h := h.2 c2
      refine g_al zp270 rfl rfl rfl (by decide) ?_
      refine g_ic zp270 rfl rfl ?_
      refine g_callV (as := [zR 81, zI 32]) (rest := []) zp270 rfl rfl (Nat.succ_pos _) rfl rfl (Nat.le_of_ble_eq_true rfl) (Nat.le_of_ble_eq_true rfl) rfl rfl h (fun H6 h => ?_)
      refine g_al zp270 rfl rfl rfl (by decide) ?_
      refine g_al zp270 rfl rfl rfl (by decide) ?_
      refine g_get (v := zR 94) zp270 rfl rfl rfl ⟨rfl, by decide, (by decide)⟩ rfl ?_
      refine g_il zp270 rfl rfl rfl ?_
      obtain ⟨c8, h⟩ := h
      refine g_ald (v := zI (H6 94 l2)) zp270 rfl rfl rfl rfl c8 rfl ?_
      refine g_callV (as := [zR 81, zI (H6 94 l2)]) (rest := []) zp270 rfl rfl (Nat.succ_pos _) rfl rfl (Nat.le_of_ble_eq_true rfl) (Nat.le_of_ble_eq_true rfl) rfl rfl h (fun H9 h => ?_)
      refine g_inc (ls' := [zR 81, zJ, zI (w32 (l2 + 1))]) zp270 rfl rfl rfl rfl ?_
      refine g_goto zp270 rfl ?_
      exact g_weak (ls' := [zR 81, zJ, zI (w32 (l2 + 1))]) ⟨Or.inr rfl, Or.inr rfl, Or.inr rfl, trivial⟩ h
theorem zp271 : zprog.getD 271 [] = zk271 := rfl
theorem x271_0 {w : zWt} {d : Nat} {H : zHt} {K : zHt → Prop} {l1 : Int}
    (h : (0 ≤ (H 81 29) ∧ (H 81 29) < 6000) ∧ K (zup (zup H 98 (H 81 29) l1) 81 29 (w32 ((H 81 29) + 1)))) :
    zclV w d 271 [zR 81, zI l1] H K := by
  show zgo w d 271 0 [zR 81, zI l1] [] H (zQV K)
  refine g_al zp271 rfl rfl rfl (by decide) ?_
  refine g_get (v := zR 98) zp271 rfl rfl rfl ⟨rfl, by decide, (by decide)⟩ rfl ?_
  refine g_al zp271 rfl rfl rfl (by decide) ?_
  refine g_get (v := zI (H 81 29)) zp271 rfl rfl rfl ⟨rfl, by decide, (by decide)⟩ rfl ?_
  refine g_il zp271 rfl rfl rfl ?_
  obtain ⟨c1, h⟩ := h
  refine g_iast zp271 rfl rfl rfl (by decide) rfl c1 ?_
  refine g_al zp271 rfl rfl rfl (by decide) ?_
  refine g_dup zp271 rfl rfl rfl ?_
  refine g_get (v := zI (H 81 29)) zp271 rfl rfl rfl ⟨rfl, by decide, (by decide)⟩ rfl ?_
  refine g_ic zp271 rfl rfl ?_
  refine g_ar (r := w32 ((H 81 29) + 1)) zp271 rfl rfl rfl ?_
  refine g_putI zp271 rfl rfl rfl ⟨rfl, by decide, (by decide)⟩ rfl rfl ?_
  exact g_ret zp271 rfl rfl ⟨rfl, h⟩
